/-! text -/
section TX
variable {S : ST} {B : Nat} {h h1 : AH} {H : Nat → Int} {g g1 : AH}
theorem C_tkh {o : Nat} (C : CRep S B h) (V : VS S) (W : HW H) (ho : o = 43 ∨ o = 49) (er : h.2.2 3 4 = o) (er0 : h.2.2 0 13 = 92 - o) (Ch : CH H o h) : ∃ h1, f_HF_takeHeath h = some (ii (cellsM H), h1) ∧ CRep ([], H, dF H (H 7).toNat, [], none, [], sL S, sO S, sW S) 0 h1 ∧ KR h h1 := by
  obtain ⟨c1, c2, ⟨wr, w1, w2, w3⟩, c4, c5, c6, c7⟩ := C
  obtain ⟨x, hx⟩ : ∃ x, x = wI (wR (wR h 3 4 (h.2.2 0 13)) 0 13 (h.2.2 3 4)) 1 1 (ii 0) := ⟨_, rfl⟩
  have x1 : ∀ a, a ≠ 1 → x.1 a = h.1 a := fun a ha => by rw [hx, wI_ne ha]; rfl
  have x11 : x.1 1 1 = ii 0 := by rw [hx, wI_self, upd_self]
  have x2 : ∀ a j, x.2.2 a j = if a = 0 then (if j = 13 then o else h.2.2 0 j) else if a = 3 then (if j = 4 then 92 - o else h.2.2 3 j) else h.2.2 a j := fun a j => by
    rw [hx, wI_2, wR_rd, wR_rd]
    by_cases ea : a = 0
    · rw [if_pos ea, if_pos ea, if_neg (show ¬ (0 : Nat) = 3 by decide), er]
    · rw [if_neg ea, if_neg ea, wR_rd, er0]
  have x21 : x.2.1 = h.2.1 := by rw [hx]; rfl
  have xo : x.2.2 0 13 = o := by rw [x2, if_pos rfl, if_pos rfl]
  have Cx : CH H o x := Ch.ag (fun i hi => x1 _ (by omega))
  obtain ⟨y, b1, Ay, My⟩ := C_begin Cx W ho
  obtain ⟨z, hz⟩ : ∃ z, z = wI (wI (wI y 31 1 (ii 0)) 33 5 (ii 0)) 0 17 (ii 0) := ⟨_, rfl⟩
  have z2 : z.2 = x.2 := by rw [hz]; exact Ay.2
  have zn : ∀ a, a ∉ [0, 1, 13, 14, 15, 16, 18, 31, 33] → z.1 a = h.1 a := fun a ha => by
    simp only [List.mem_cons, List.not_mem_nil, or_false, not_or] at ha
    rw [hz, wI_ne (by omega), wI_ne (by omega), wI_ne (by omega), Ay.1 a (by simp; omega), x1 a (by omega)]
  have z0' : ∀ j, j ≠ 17 → z.1 0 j = h.1 0 j := fun j hj => by rw [hz, wI_self, upd_ne hj, wI_ne (by decide), wI_ne (by decide), Ay.1 0 (by decide), x1 0 (by decide)]
  have zm : mvO z 13 = mvO y 13 := mv_eq (fun i hi => by rw [hz, wI_ne (by omega), wI_ne (by omega), wI_ne (by omega)])
  have elw : ∀ i, lw z i = lw h i := fun i => by
    unfold lw
    rw [z2, x2 10, x2 8, if_neg (show ¬ (10 : Nat) = 0 by decide), if_neg (show ¬ (10 : Nat) = 3 by decide), if_neg (show ¬ (8 : Nat) = 0 by decide), if_neg (show ¬ (8 : Nat) = 3 by decide)]
  have eww : ∀ i, ww z i = ww h i := fun i => by
    unfold ww
    rw [z2, x2 11, x2 9, if_neg (show ¬ (11 : Nat) = 0 by decide), if_neg (show ¬ (11 : Nat) = 3 by decide), if_neg (show ¬ (9 : Nat) = 0 by decide), if_neg (show ¬ (9 : Nat) = 3 by decide)]
  have Cz : CH H o z := Ch.ag (fun i hi => zn _ (by simp; omega))
  refine ⟨z, ?_, ⟨⟨?_, fun j hj => absurd hj (by simp [sB])⟩, ⟨o, ho, by rw [z2, xo], by rw [z2, x2, if_neg (by decide), if_pos rfl, if_pos rfl], Cz⟩, ⟨0, Nat.le_refl _, by rw [zm]; exact My, ?_⟩, ?_, ⟨?_, fun i hi => absurd hi (by simp [sE])⟩, ?_, ?_⟩, ?_⟩
  · have e0 : f_HF_takeHeath h = (f_Moor_begin 13 (x.2.2 0 13) x).bind fun q2 => (f_Acts_clear q2).bind fun q3 => some (((wI (wI q3 33 5 (ii 0)) 0 17 (ii 0)).1 ((wI (wI q3 33 5 (ii 0)) 0 17 (ii 0)).2.2 0 13) 9), (wI (wI q3 33 5 (ii 0)) 0 17 (ii 0))) := by
      unfold f_HF_takeHeath f_HR_exchange
      rw [Option.bind_some]
      simp only
      rw [← hx]
    rw [e0, xo, bind_eq b1]
    unfold f_Acts_clear
    rw [Option.bind_some, ← hz]
    have : z.2.2 0 13 = o := by rw [z2, xo]
    rw [this, Cz.2.2.2.2.1]
  · rw [hz, wI_ne (by decide), wI_ne (by decide), wI_ne (by decide), Ay.1 1 (by decide), x11]; rfl
  · obtain ⟨a1, nx, n1, n2, ch⟩ := w3
    refine ⟨?_, nx, n1, ?_, trivial⟩
    · rw [hz, wI_ne (by decide), wI_ne (by decide), wI_self, upd_self]; rfl
    · rw [hz, wI_ne (by decide), wI_ne (by decide), wI_self, upd_ne (by decide), Ay.1 31 (by decide), x1 31 (by decide)]; exact n2
  · show z.1 0 17 = ii 0
    rw [hz, wI_self, upd_self]
  · rw [hz, wI_ne (by decide), wI_self, upd_self]; rfl
  · obtain ⟨a1, a2, a3, a4, a5⟩ := c6
    refine ⟨by rw [z0' 14 (by decide)]; exact a1, by rw [z0' 16 (by decide)]; exact a2, fun i hi => by rw [elw]; exact a3 i hi, fun i j hi hj => by rw [elw, elw]; exact a4 i j hi hj, fun i hi => ?_⟩
    rw [elw]
    have hla : (sL S).length ≤ 4 := V.2.2.2.2.2.2.1.1
    have hi' : i < (sL S).length := hi
    have hm := a3 i (by omega)
    obtain ⟨D, d1, d2, d3, d4⟩ := a5 i hi
    have hge : 55 ≤ lw h i := by simp only [List.mem_cons, List.not_mem_nil, or_false] at hm; omega
    exact ⟨D, d1, d2, by rw [zn _ (by simp; omega)]; exact d3, by rw [zn _ (by simp; omega)]; exact d4⟩
  · obtain ⟨a1, a3, a4, a5⟩ := c7
    refine ⟨by rw [z0' 15 (by decide)]; exact a1, fun i hi => by rw [eww]; exact a3 i hi, fun i j hi hj => by rw [eww, eww]; exact a4 i j hi hj, fun i hi => ?_⟩
    rw [eww]
    have hla : (sW S).length ≤ 4 := V.2.2.2.2.2.2.2.2.1
    have hi' : i < (sW S).length := hi
    have hm := a3 i (by omega)
    have hge : 70 ≤ ww h i := by simp only [List.mem_cons, List.not_mem_nil, or_false] at hm; omega
    unfold WalC
    rw [zn _ (by simp; omega), zn _ (by simp; omega)]
    exact a5 i hi
  · refine ⟨fun a ha => zn a (by simp; omega), fun a ha => ?_, by rw [z2, x21]⟩
    funext j
    rw [z2, x2, if_neg (by omega), if_neg (by omega)]
theorem k_text0 (V : VS S) (C : CRep S B h) (R : RRep S g) : Call S B h g (f_HF_text (ii 0) h) (f_R_text (ii 0) g) := by
  obtain ⟨o, ho, er, er0⟩ := sp_of C
  have Kt := RS.t0 g (v := ii 0)
  have R0 : RRep S (wI g 80 0 (ii 0)) := R.keep V Kt.1
  have e0 : f_HF_text (ii 0) h = (f_HR_faultOf h).bind fun q1 => if q1.1 = (ii (-1)) then (f_HF_takeHeath q1.2).bind fun q2 => some (q2.1, q2.2) else some ((ii (-1)), q1.2) := by
    unfold f_HF_text
    rw [if_pos rfl]
  have e2 : f_R_text (ii 0) g = (f_R_fault (ii 0) (wI g 80 0 (ii 0))).bind fun q1 => if q1.1 = (ii (-1)) then tailR q1.2 else some ((ii (-1)), q1.2) := by
    unfold f_R_text
    rw [if_neg (by decide), if_neg (by decide), if_neg (by decide)]
    simp only [if_neg (show ¬ ii 0 = ii 1 by decide), if_neg (show ¬ ii 0 = ii 2 by decide)]
    rfl
  rw [e0, e2]
  generalize wI g 80 0 (ii 0) = g0 at *
  have c := C_hfault (J := Jg g0) V.1 C.1 ho er
  have r := R_hfault R0.1 V.1
  have hb := V.1.1
  have hok := htF_ok V.1 241 0 (iniH (Jg g0)) (Nat.zero_le _) (by omega) ini_hp
  generalize htF (sB S) 241 0 (iniH (Jg g0)) = z at *
  have ne : ∀ e : Nat, e ≤ (sB S).length → ¬ ii (e : Int) = ii (-1) := fun e he => by rw [ii_eq (by omega) (by omega) (by omega) (by omega)]; omega
  rcases z with e | H
  · obtain ⟨h1, z1, z2⟩ := c
    obtain ⟨g1, y1, y2⟩ := r
    have hok' : e ≤ (sB S).length := hok
    rw [bind_eq z1, bind_eq y1]
    simp only
    rw [if_neg (ne e hok'), if_neg (ne e hok')]
    exact call_ks V C R rfl rfl (z2.ks ho er).1 (z2.ks ho er).2 (Kt.tr y2)
  · have hok' : HP H (H 4).toNat := hok
    rcases c with ⟨w, h1, z1, z2, z3⟩ | ⟨w, h1, z1, z2⟩ <;> rcases r with ⟨w', g1, y1, y2, y3⟩ | ⟨w', g1, y1, y2⟩
    · have W := HW_of hok' w
      have K := z2.ks ho er
      have C1 := C.ks V K.1
      have q22 := z2.2.1
      obtain ⟨h2, t1, C2, K2⟩ := C_tkh C1 V W ho (by rw [q22]; exact er) (by rw [q22]; exact er0) z3
      obtain ⟨g2, u1, u2, u3, u4, u5, u6, u7⟩ := R_take hok' w y3
      have R1 := R0.keep V y2.1
      obtain ⟨s1, s2, s3, s4, s5, s6, s7, s8, s9⟩ := R1
      rw [bind_eq z1, bind_eq y1]
      simp only
      rw [if_pos trivial, if_pos trivial, bind_eq t1, u1]
      refine ⟨_, h2, g2, ([], H, dF H (H 7).toNat, [], none, [], sL S, sO S, sW S), rfl, rfl, ?_, C2.mono (by omega), ?_, K.2.tr K2, ?_⟩
      · obtain ⟨v1, v2, v3, v4, v5, v6, v7, v8, v9⟩ := V
        exact ⟨⟨by simp [sB], fun b hb => absurd hb (by simp [sB])⟩, Or.inr W, dF_dw W, ⟨by simp [sA], fun x hx => absurd hx (by simp [sA])⟩, fun x hx => absurd hx (by simp [sI]), ⟨by simp [sE], fun x hx => absurd hx (by simp [sE])⟩, v7, v8, v9⟩
      · refine ⟨⟨u4.1, fun j hj => absurd hj (by simp [sB])⟩, u2, u3, ⟨u4.2.1, fun i hi => absurd hi (by simp [sA])⟩, u4.2.2.2, ⟨u4.2.2.1, fun i hi => absurd hi (by simp [sE])⟩, ⟨by rw [u5 7 (by decide)]; exact s7.1, by rw [u5 43 (by decide)]; exact s7.2.1, fun i hi => ⟨by rw [u6 83 (by decide)]; exact (s7.2.2 i hi).1, fun j hj => by rw [u6 82 (by decide)]; exact (s7.2.2 i hi).2 j hj⟩⟩, ⟨by rw [u5 39 (by decide)]; exact s8.1, fun i hi => ⟨by rw [u6 96 (by decide)]; exact (s8.2 i hi).1, fun j hj => by rw [u6 95 (by decide)]; exact (s8.2 i hi).2 j hj⟩⟩, fun j hj => by rw [u6 84 (by decide)]; exact s9 j hj⟩
      · exact (Kt.2.tr y2.2).tr ⟨fun x hx => u6 x (by simp; omega), fun x _ => by rw [u7]⟩
    · exact absurd w w'
    · exact absurd w' w
    · rw [bind_eq z1, bind_eq y1]
      simp only
      rw [if_neg (ne _ (Nat.le_refl _)), if_neg (ne _ (Nat.le_refl _))]
      exact call_ks V C R rfl rfl (z2.ks ho er).1 (z2.ks ho er).2 (Kt.tr y2)
theorem k_text (V : VS S) (C : CRep S B h) (R : RRep S g) {a : Int} (a0 : -2147483648 ≤ a) (a1 : a ≤ 2147483647) : Call S B h g (f_HF_text (ii a) h) (f_R_text (ii a) g) := by
  by_cases q0 : a = 0
  · rw [q0]; exact k_text0 V C R
  · by_cases q1 : a = 1
    · rw [q1]; exact k_text1 V C R
    · by_cases q2 : a = 2
      · rw [q2]; exact k_text2 V C R
      · have Kt := RS.t0 g (v := ii 0)
        have e1 : f_HF_text (ii a) h = some (ii (-1), h) := by
          unfold f_HF_text
          simp (disch := omega) only [Option.bind_some, if_true, if_false, not_true_eq_false, not_false_eq_true, z0, ii_add, ii_sub, ii_mul, ifLeT, ifLeF, ifLtT, ifLtF, ifEqT, ifEqF, ifNeT, ifNeF, ifIn, nixZ, ii_i64, o0, o1, isInT, isInF, tn14, tn12, tn2, tn21, tn47, tn48, tn49, tn471, tn472, Int.reduceToNat, Int.toNat_natCast, Int.reduceAdd, Int.reduceSub, Int.reduceMul, Int.reduceNeg, Nat.reduceAdd, Nat.reduceSub, Nat.reduceMul]
        have e2 : f_R_text (ii a) g = some (ii (-1), wI g 80 0 (ii 0)) := by
          have ei : p_R_isIn (ii a).toInt64 (Int64.ofNat 0) (Int64.ofInt 2) = ii 0 := by
            by_cases q3 : a < 0
            · simp (disch := omega) only [Option.bind_some, if_true, if_false, not_true_eq_false, not_false_eq_true, z0, ii_add, ii_sub, ii_mul, ifLeT, ifLeF, ifLtT, ifLtF, ifEqT, ifEqF, ifNeT, ifNeF, ifIn, nixZ, ii_i64, o0, o1, isInT, isInF, tn14, tn12, tn2, tn21, tn47, tn48, tn49, tn471, tn472, Int.reduceToNat, Int.toNat_natCast, Int.reduceAdd, Int.reduceSub, Int.reduceMul, Int.reduceNeg, Nat.reduceAdd, Nat.reduceSub, Nat.reduceMul, isInF]
            · simp (disch := omega) only [Option.bind_some, if_true, if_false, not_true_eq_false, not_false_eq_true, z0, ii_add, ii_sub, ii_mul, ifLeT, ifLeF, ifLtT, ifLtF, ifEqT, ifEqF, ifNeT, ifNeF, ifIn, nixZ, ii_i64, o0, o1, isInT, isInF, tn14, tn12, tn2, tn21, tn47, tn48, tn49, tn471, tn472, Int.reduceToNat, Int.toNat_natCast, Int.reduceAdd, Int.reduceSub, Int.reduceMul, Int.reduceNeg, Nat.reduceAdd, Nat.reduceSub, Nat.reduceMul, isInF]
          unfold f_R_text
          rw [ei, if_pos i00]
        exact call_same V C R e1 e2 (CS.rf _) Kt
end TX
