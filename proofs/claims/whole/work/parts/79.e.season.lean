/-! the season -/
section SE
variable {S : ST} {B : Nat} {h g : AH} {hd : Nat → Int} {d : DY} {wr : Nat}
theorem bL_hi {v : Int32} {j : Nat} (hj : j < 46) : bL (upd d j v) = bL d := by unfold bL; rw [upd_ne (by omega)]
theorem MR.se {M : MV} (R : MR hd d wr M) (H : HS hd) (v : Int32) : MR hd (upd d 45 v) wr (M.1, M.2.1, M.2.2.1, M.2.2.2.1, M.2.2.2.2.1, M.2.2.2.2.2.1, M.2.2.2.2.2.2.1, M.2.2.2.2.2.2.2.1, v) := by
  obtain ⟨m1, m2, m3, m4, m5, m6⟩ := R
  have hf := H.nf
  have eb : bL (upd d 45 v) = bL d := bL_hi (by omega)
  refine ⟨fun k hk => by rw [upd_ne (by omega)]; exact m1 k hk, fun k hk => ?_, ⟨by rw [upd_ne (by omega)]; exact m3.1, by rw [upd_ne (by omega)]; exact m3.2⟩, ⟨m4.1, m4.2.1, by rw [eb]; exact m4.2.2.1, fun i hi => ?_⟩, fun k hk => by rw [upd_ne (by omega)]; exact m5 k hk, ?_, by rw [upd_ne (by omega)]; exact m6.2.1, by rw [upd_self]⟩
  · have := m2 k hk
    by_cases q : (k : Int) < hd 7
    · rw [if_pos q] at this ⊢; rw [upd_ne (by omega)]; exact this
    · rw [if_neg q] at this ⊢; exact this
  · rw [eb] at hi ⊢
    unfold bkE
    rw [upd_ne (by omega), upd_ne (by omega), upd_ne (by omega)]; exact m4.2.2.2 i hi
  · show M.2.2.2.2.2.2.1 = wlM (upd d 45 v)
    rw [show M.2.2.2.2.2.2.1 = wlM d from m6.1]
    unfold wlM
    exact mk_eq (fun i hi' => by rw [upd_ne (by omega)])
theorem DW.se (V : DW hd d) (H : HS hd) {s : Int} (s0 : 0 ≤ s) (s1 : s ≤ 3) : DW hd (upd d 45 (ii s)) := by
  have hf7 := H.nf
  obtain ⟨v1, v2, v3, v4, v5⟩ := V
  have eb : bL (upd d 45 (ii s)) = bL d := bL_hi (by omega)
  refine ⟨⟨s, s0, s1, upd_self⟩, fun f hf => by rw [upd_ne (by omega)]; exact v2 f hf, fun c hc => by rw [upd_ne (by omega)]; exact v3 c hc, by rw [eb, upd_ne (by omega)]; exact v4, fun j hj => ?_⟩
  rw [eb] at hj
  rw [upd_ne (by omega), upd_ne (by omega), upd_ne (by omega)]; exact v5 j hj
theorem k_season (V : VS S) (C : CRep S B h) (R : RRep S g) : Call S B h g (f_HF_season h) (f_R_season g) := by
  have R0 : RRep S (wI g 80 0 (ii 0)) := R.keep V (RS.t0 g).1
  obtain ⟨o, wr0, ho, X⟩ := rx_of C V R0
  obtain ⟨E, Ch, _, Rh, D, W, Vd⟩ := X
  have hcl := W.cells
  have Kt := RS.t0 g (v := ii 0)
  unfold f_HF_season f_R_season
  generalize hg0 : wI g 80 0 (ii 0) = g0 at *
  by_cases q0 : cellsM (sH S) = 0
  · simp (disch := omega) only [Option.bind_some, if_true, if_false, not_true_eq_false, not_false_eq_true, z0, ii_add, ii_sub, ii_mul, ifLeT, ifLeF, ifLtT, ifLtF, ifEqT, ifEqF, ifNeT, ifNeF, ifIn, nixZ, ii_i64, o0, o1, isInT, isInF, tn14, tn12, tn2, tn21, tn47, tn48, tn49, tn471, tn472, Int.reduceToNat, Int.toNat_natCast, Int.reduceAdd, Int.reduceSub, Int.reduceMul, Int.reduceNeg, Nat.reduceAdd, Nat.reduceSub, Nat.reduceMul, C_hhF E Ch, Rh.2.2.2.2.2.1]
    exact call_same V C R rfl rfl (CS.rf _) Kt
  · obtain ⟨c1, c2, ⟨wr, w1, w2, w3⟩, c4, c5, c6, c7⟩ := id C
    obtain ⟨⟨s, s0, s1, es⟩, _⟩ := id Vd
    obtain ⟨h1, e1, A1, D1⟩ := C_add w3 V.2.2.2.1.1 2 (ii 0) (ii 0) (ii 0)
    obtain ⟨g1, r1, B1, F1⟩ := R_rem R0.2.2.2.1 R0.2.2.1 V.2.2.2.1.1
    have D97 : RDy (sD S) g1 97 := fun j hj => by rw [F1.1 97 (by decide) (by decide)]; exact R0.2.2.1 j hj
    have x45 : g1.1 97 45 = ii s := by rw [D97 45 (by omega)]; exact es
    have y8 : h1.1 13 8 = ii s := by rw [A1.1 13 (by decide)]; exact w2.2.2.2.2.2.2.2.trans es
    have er : remI (ii (s + 1)) (ii 4) = ii ((s + 1) % 4) := ii_rem (by omega) (by omega) (by omega) (by omega)
    obtain ⟨t, ht⟩ : ∃ t, t = (s + 1) % 4 := ⟨_, rfl⟩
    rw [← ht] at er
    have K1 : CKm h h1 := CKm.ag A1 (by decide)
    have A2 : Ag [13] h1 (wI h1 13 8 (ii t)) := (Ag.rf _ _).pI (by decide)
    have K2 : CKm h1 (wI h1 13 8 (ii t)) := CKm.ag A2 (by decide)
    have em1 : mvO h1 13 = mvO h 13 := by unfold mvO; rw [A1.1 13 (by decide), A1.1 (13 + 1) (by decide), A1.1 (13 + 2) (by decide), A1.1 (13 + 3) (by decide), A1.1 (13 + 4) (by decide), A1.1 (13 + 5) (by decide)]
    have em2 : mvO (wI h1 13 8 (ii t)) 13 = ((mvO h 13).1, (mvO h 13).2.1, (mvO h 13).2.2.1, (mvO h 13).2.2.2.1, (mvO h 13).2.2.2.2.1, (mvO h 13).2.2.2.2.2.1, (mvO h 13).2.2.2.2.2.2.1, (mvO h 13).2.2.2.2.2.2.2.1, ii t) := by
      rw [← em1]
      unfold mvO
      rw [wI_ne (by omega), wI_ne (by omega), wI_ne (by omega), wI_ne (by omega), wI_ne (by omega), wI_self, upd_ne (by omega), upd_ne (by omega), upd_ne (by omega), upd_self]
    have M2 : MR (sH S) (upd (sD S) 45 (ii t)) wr (mvO (wI h1 13 8 (ii t)) 13) := by rw [em2]; exact w2.se W (ii t)
    have D2 := D1.ag (h2 := wI h1 13 8 (ii t)) (wI_ne (by omega)) (wI_ne (by omega))
    have e8 : (mvO h 13).2.2.2.2.2.2.2.2 = ii s := w2.2.2.2.2.2.2.2.trans es
    have ek : remI (ii t + ii 4 - ii 1) (ii 4) = ii s := by
      rw [ii_add, ii_sub, ii_rem (by omega) (by omega) (by omega) (by omega)]
      congr 1; omega
    have P2 : CAc (sH S) (pu40 (sA S) (sD S)) wr (wI h1 13 8 (ii t)) := CAc.put W V.2.2.2.1.1 w2 D2 (Nat.le_refl _) (by omega) (M1 := mvO h 13) (fun r z0' z1' z2' z3' => by
      rw [em2]
      refine Or.inr (Or.inr ⟨z0', fun _ _ => rfl, fun _ _ => rfl, fun _ _ => rfl, rfl, fun _ _ => rfl, ?_⟩)
      show (mvO h 13).2.2.2.2.2 = ((mvO h 13).2.2.2.2.2.1, (mvO h 13).2.2.2.2.2.2.1, (mvO h 13).2.2.2.2.2.2.2.1, remI (ii t + ii 4 - ii 1) (ii 4))
      rw [ek, ← e8]) (MEq.rf _ _ _)
    have Cn := C.mov V (K1.tr K2) (B' := B + 64) (by omega) ⟨wr, by omega, M2, P2⟩
    have Dn := RDy.w (j := 45) (v := ii t) D97
    have A3 : Ag [97] g1 (wI g1 97 45 (ii t)) := (Ag.rf _ _).pI (by decide)
    have F3 : RF 97 g1 (wI g1 97 45 (ii t)) := RF.ag (Or.inl rfl) A3
    have Rn := R0.mov V F1 F3 Dn B1
    simp (disch := omega) only [Option.bind_some, if_true, if_false, not_true_eq_false, not_false_eq_true, z0, ii_add, ii_sub, ii_mul, ifLeT, ifLeF, ifLtT, ifLtF, ifEqT, ifEqF, ifNeT, ifNeF, ifIn, nixZ, ii_i64, o0, o1, isInT, isInF, tn14, tn12, tn2, tn21, tn47, tn48, tn49, tn471, tn472, Int.reduceToNat, Int.toNat_natCast, Int.reduceAdd, Int.reduceSub, Int.reduceMul, Int.reduceNeg, Nat.reduceAdd, Nat.reduceSub, Nat.reduceMul, C_hhT E Ch W, Rh.2.2.2.2.2.1, e1, r1, y8, x45, er, wI_self, upd_self]
    exact ⟨_, _, _, _, rfl, rfl, V.act (Vd.se W (by omega) (by omega)), Cn, Rn, (K1.tr K2).2.2.2.2.2, (Kt.2.tr F1.kc).tr F3.2.2.2.1⟩
end SE
