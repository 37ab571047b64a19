/-! sink: the reference, and both -/
section SW
variable {S : ST} {B : Nat} {h g h' g' : AH} {hd : Nat → Int} {d : DY} {o wr : Nat}
theorem DW.sk0 (V : DW hd d) (H : HS hd) {c : Nat} (hc : (c : Int) < cellsM hd) {z : Int} (z1 : 0 < z) (z2 : z ≤ 60) {p : Int32} : DW hd (upd (upd d (14 + c) (ii z)) 44 (d 44 + p)) := by
  have hf := H.nf
  have hcl := H.cells
  obtain ⟨v1, v2, v3, v4, v5⟩ := V
  have eb : bL (upd (upd d (14 + c) (ii z)) 44 (d 44 + p)) = bL d := by unfold bL; rw [upd_ne (by omega), upd_ne (by omega)]
  refine ⟨by rw [upd_ne (by omega), upd_ne (by omega)]; exact v1, fun f hf => by rw [upd_ne (by omega), upd_ne (by omega)]; exact v2 f hf, fun k hk => ?_, by rw [eb, upd_ne (by omega), upd_ne (by omega)]; exact v4, fun j hj => ?_⟩
  · rw [upd_ne (by omega)]
    by_cases q : k = c
    · rw [q, upd_self]; exact ⟨z, by omega, z2, rfl, fun h => by omega⟩
    · rw [upd_ne (by omega)]; exact v3 k hk
  · rw [eb] at hj
    rw [upd_ne (by omega), upd_ne (by omega), upd_ne (by omega), upd_ne (by omega), upd_ne (by omega), upd_ne (by omega)]; exact v5 j hj
theorem paD_0 {v : Int32} {n : Nat} : paD d (ii 0) v n = d := by
  funext j
  unfold paD
  by_cases q : j < 2 * n ∧ j % 2 = 1
  · rw [if_pos q, tb_0]; simp only [Bool.false_eq_true, if_false]; exact add_z _
  · rw [if_neg q]
theorem R_snk (R : RH hd (wI g 80 0 (ii 0))) (D : RDy d (wI g 80 0 (ii 0)) 97) (V : DW hd d) (W : HW hd) {ac : List DY} (A : RAc ac (wI g 80 0 (ii 0))) (h40 : ac.length ≤ 40) {c : Nat} (hc : (c : Int) < cellsM hd) (hz : vI (d (14 + c)) = 0) {pr : Int} (hpr : pr = wdM hd c (vI (d 45)) * (hd 3 + rkM hd c)) (p0 : 0 ≤ pr) (p1 : pr ≤ 1000000) {x v y : Int32} (hx1 : wetM hd c (vI (d 45)) → ∀ f, tb x f = true ↔ ∃ j, j < bL d ∧ hitM d c f j) (hx2 : ¬ wetM hd c (vI (d 45)) → x = ii 0) (hv : v = (if x = ii 0 then ii 0 else ii (pr / 10 / nT x 6))) (hy : ∀ f, tb y f = true ↔ ∃ j, j < bL d ∧ hitM d c f j) : ∃ g1 g2, f_R_sink (ii c) g = some (ii pr, g2) ∧ RAc (pu40 ac d) g1 ∧ RAf (wI g 80 0 (ii 0)) g1 ∧ RDy (skD d c (wdM hd c (vI (d 45))) (ii pr) x v (hd 7).toNat) g2 97 ∧ Ag [97] g1 g2 := by
  have H : HS hd := Or.inr W
  have hcl := H.cells
  have hnf := H.nf
  have hw := wdM_lo W c (vI (d 45))
  have hwp := wdM_pos W c (s := vI (d 45))
  have hwa := watM_lo W c (vI (d 45))
  obtain ⟨s, s0, s1, es⟩ := id V.1
  have hs : vI (d 45) = s := by rw [es, vI_i (by omega) (by omega)]
  rw [hs] at hpr hx1 hx2 hw hwp hwa ⊢
  have e14 : d (14 + c) = ii 0 := by rw [vI_ii (d (14 + c)), hz]
  unfold f_R_sink
  generalize wI g 80 0 (ii 0) = g0 at *
  obtain ⟨g1, r1, B1, F1⟩ := R_rem A D h40
  have D1 : RDy d g1 97 := fun j hj => by rw [F1.1 97 (by decide) (by decide)]; exact D j hj
  have R1 := F1.rh R
  have x45 : g1.1 97 45 = ii s := by rw [D1 45 (by omega)]; exact es
  have x44 : g1.1 97 44 = d 44 := D1 44 (by omega)
  have e1 := R_costOf R1 W (c := (c : Int)) (s := s) (by omega) (by omega) s0 s1
  have e2 := R_depthOf R1 W (c := (c : Int)) (s := s) (by omega) (by omega) s0 s1
  have e3 := R_sunkTo R1 W (c := (c : Int)) (s := s) (by omega) (by omega) s0 s1
  rw [← hpr] at e1
  obtain ⟨wd, hwd⟩ : ∃ wd, wd = wdM hd c s := ⟨_, rfl⟩
  rw [← hwd] at hpr hw hwp e3 ⊢
  obtain ⟨g2, eg2⟩ : ∃ g2, g2 = wI (wI g1 97 (14 + c) (ii wd)) 97 44 (d 44 + ii pr) := ⟨_, rfl⟩
  have A2 : Ag [97] g1 g2 := by rw [eg2]; exact ((Ag.rf _ _).pI (by decide)).pI (by decide)
  obtain ⟨d2, hd2⟩ : ∃ d2, d2 = upd (upd d (14 + c) (ii wd)) 44 (d 44 + ii pr) := ⟨_, rfl⟩
  have D2 : RDy d2 g2 97 := by rw [hd2, eg2]; exact RDy.w (j := 44) (RDy.w (j := 14 + c) D1)
  have V2 : DW hd d2 := by rw [hd2]; exact V.sk0 H hc (by omega) hw.2
  have R2 : RH hd g2 := by
    obtain ⟨a1, a2, a3, a4, a5, a6, a7, a8, a9, a10⟩ := R1
    exact ⟨fun j hj => by rw [A2.1 85 (by decide)]; exact a1 j hj, by rw [A2.1 80 (by decide)]; exact a2, by rw [A2.1 80 (by decide)]; exact a3, by rw [A2.1 80 (by decide)]; exact a4, by rw [A2.1 80 (by decide)]; exact a5, by rw [A2.1 80 (by decide)]; exact a6, fun j hj => by rw [A2.1 87 (by decide)]; exact a7 j hj, fun j hj => by rw [A2.1 89 (by decide)]; exact a8 j hj, fun j hj => by rw [A2.1 91 (by decide)]; exact a9 j hj, fun j hj => by rw [A2.1 93 (by decide)]; exact a10 j hj⟩
  have eb : bL d2 = bL d := by rw [hd2]; unfold bL; rw [upd_ne (by omega), upd_ne (by omega)]
  have ehit : ∀ f j, hitM d2 c f j ↔ hitM d c f j := fun f j => by
    rw [hd2]; unfold hitM
    rw [upd_ne (by omega), upd_ne (by omega), upd_ne (by omega), upd_ne (by omega), upd_ne (by omega), upd_ne (by omega)]
  have hiff : ∀ z : Int32, (∀ f, tb z f = true ↔ ∃ j, j < bL d ∧ hitM d c f j) → ∀ f, tb z f = true ↔ ∃ j, j < bL d2 ∧ hitM d2 c f j := fun z hz f => by
    rw [hz f, eb]
    exact ⟨fun ⟨j, h1, h2⟩ => ⟨j, h1, (ehit f j).mpr h2⟩, fun ⟨j, h1, h2⟩ => ⟨j, h1, (ehit f j).mp h2⟩⟩
  have e4 := fun z hz => R_nT R2 D2 V2 H (c := c) (by omega) (v2 := ii pr) (v3 := ii (watM hd c s)) (hiff z hz)
  have t14 : (14 + (c : Int)).toNat = 14 + c := by omega
  have i14 : inb (ii (14 + (c : Int))) 227 = true := by rw [ii_inb (by omega) (by omega)]; simp; omega
  have i45 : inb (ii 45) 227 = true := by decide
  have i44 : inb (ii 44) 227 = true := by decide
  have n14 : (ii (14 + (c : Int))).toNatClampNeg = 14 + c := by rw [ii_nat (by omega) (by omega), t14]
  have n44 : (ii 44).toNatClampNeg = 44 := by rw [ii_nat (by omega) (by omega)]; rfl
  have n45 : (ii 45).toNatClampNeg = 45 := by rw [ii_nat (by omega) (by omega)]; rfl
  have g14 : g0.1 97 (14 + c) = ii 0 := by rw [D (14 + c) (by omega)]; exact e14
  have w44 : (wI g1 97 (14 + c) (ii wd)).1 97 44 = d 44 := by rw [wI_self, upd_ne (by omega)]; exact x44
  rw [R_isCell R H (c := (c : Int)) (by omega) (by omega), if_pos (show 0 ≤ (c : Int) ∧ (c : Int) < cellsM hd from ⟨by omega, hc⟩), if_neg (show ¬ ii 1 = 0 by decide), ii_add, if_pos i14, n14, g14, if_pos (show ii 0 ≤ 0 by decide), bind_eq r1, if_pos i45, n45, x45, bind_eq e1, if_pos i45, bind_eq e2, if_pos i45, bind_eq e3, if_pos i14, if_pos i44, if_pos i44, n44, w44, ← eg2]
  have base : x = ii 0 → RDy (skD d c wd (ii pr) x v (hd 7).toNat) g2 97 := fun q => by
    unfold skD
    rw [q, paD_0, ← hd2]
    exact D2
  by_cases w : wetM hd c s
  · have hx := hx1 w
    have w' : ¬ (watM hd c s = -1 ∨ 60 < watM hd c s) := w
    have hx7 : ∀ i : Nat, (hd 7).toNat ≤ i → tb x i = false := fun i hi => by
      refine Bool.eq_false_iff.mpr (fun e => ?_)
      obtain ⟨j, h1, h2⟩ := (hx i).mp e
      have := hit_lt V h1 h2
      omega
    have hx6 : ∀ i : Nat, 6 ≤ i → tb x i = false := fun i hi => hx7 i (by omega)
    have n6 : nT x 6 = nT x (hd 7).toNat := by
      have := nT_hi hx7 (6 - (hd 7).toNat)
      rw [show (hd 7).toNat + (6 - (hd 7).toNat) = 6 by omega] at this
      exact this
    have nlo := nT_lo x 6
    rw [bind_eq (e4 x hx), if_neg (show ¬ ii (watM hd c s) = ii (-1) by rw [ii_eq (by omega) (by omega) (by omega) (by omega)]; omega), if_neg (show ¬ ii 60 < ii (watM hd c s) by rw [ii_lt (by omega) (by omega) (by omega) (by omega)]; omega), ← n6]
    by_cases q : x = ii 0
    · have n0 : nT x 6 = 0 := by rw [q]; simp only [nT, tb_0]; rfl
      rw [n0, if_pos i00]
      exact ⟨g1, g2, rfl, B1, F1, base q, A2⟩
    · obtain ⟨f, f6, hf⟩ := tb_nz hx6 q
      have n1 := nT_pos f6 hf
      rw [if_neg (show ¬ ii (nT x 6) = 0 by rw [z0, ii_eq (by omega) (by omega) (by omega) (by omega)]; omega)]
      obtain ⟨g3, e5, D3, A3⟩ := R_pay R2 D2 V2 H (c := c) (by omega) (hiff x hx) p0 p1 n1 (by omega)
      refine ⟨g1, g3, e5, B1, F1, ?_, ⟨fun k hk => (A3.1 k hk).trans (A2.1 k hk), A3.2.trans A2.2⟩⟩
      unfold skD
      rw [hv, if_neg q, ← hd2]
      exact D3
  · have w' : watM hd c s = -1 ∨ 60 < watM hd c s := Classical.byContradiction w
    rw [bind_eq (e4 y hy)]
    refine ⟨g1, g2, ?_, B1, F1, base (hx2 w), A2⟩
    by_cases q : watM hd c s = -1
    · rw [q, if_pos rfl]
    · rw [if_neg (show ¬ ii (watM hd c s) = ii (-1) by rw [ii_eq (by omega) (by omega) (by omega) (by omega)]; omega), if_pos (show ii 60 < ii (watM hd c s) by rw [ii_lt (by omega) (by omega) (by omega) (by omega)]; omega)]
theorem k_sink (V : VS S) (C : CRep S B h) (R : RRep S g) {c : Int} (c0 : -2147483648 ≤ c) (c1 : c ≤ 2147483647) : Call S B h g (f_HF_sink (ii c) h) (f_R_sink (ii c) g) := by
  have R0 : RRep S (wI g 80 0 (ii 0)) := R.keep V (RS.t0 g).1
  obtain ⟨o, wr0, ho0, X⟩ := rx_of C V R0
  obtain ⟨E, Ch, M0, Rh, D, W, Vd⟩ := X
  have hcl := W.cells
  have Kt := RS.t0 g (v := ii 0)
  by_cases q : 0 ≤ c ∧ c < cellsM (sH S)
  · obtain ⟨u, rfl⟩ := Int.eq_ofNat_of_zero_le q.1
    have HWd := W.hw q.1 q.2
    obtain ⟨z, z1, z2, ez, _⟩ := Vd.2.2.1 u (by omega)
    have hz : vI (sD S (14 + u)) = z := by rw [ez, vI_i (by omega) (by omega)]
    by_cases q2 : z = 0
    · obtain ⟨k1, ⟨o, ho, o1', o2, o3⟩, ⟨wr, w1, w2, w3⟩, c4, c5, c6, c7⟩ := id C
      have hw := wdM_lo HWd u (vI (sD S 45))
      have hrk := rkM_lo HWd u
      have hh := HWd.1
      obtain ⟨pr, hpr⟩ : ∃ pr, pr = wdM (sH S) u (vI (sD S 45)) * (sH S 3 + rkM (sH S) u) := ⟨_, rfl⟩
      have p0 : 0 ≤ pr := by rw [hpr]; exact Int.mul_nonneg hw.1 (by omega)
      have p1 : pr ≤ 1000000 := by
        rw [hpr]
        have : wdM (sH S) u (vI (sD S 45)) * (sH S 3 + rkM (sH S) u) ≤ 60 * 18 := Int.mul_le_mul hw.2 (by omega) (by omega) (by omega)
        omega
      obtain ⟨x, v, h1, e1, M1, P1, A1, x1, x2, x3⟩ := C_snk o1' ho o3 w2 Vd HWd w3 V.2.2.2.1.1 q.2 (by rw [hz]; exact q2) hpr p0 p1
      obtain ⟨y, _, hy⟩ := C_twIn w2 Vd W (c := u) (by omega)
      obtain ⟨g1, g2, e2, B1, F1, D1, A2⟩ := R_snk Rh D Vd HWd R0.2.2.2.1 V.2.2.2.1.1 q.2 (by rw [hz]; exact q2) hpr p0 p1 x1 x2 x3 hy
      have K1 : CKm h h1 := CKm.ag A1 (by decide)
      have Cn := C.mov V K1 (B' := B + 64) (by omega) ⟨wr, by omega, M1, P1⟩
      have F3 : RF 97 g1 g2 := RF.ag (Or.inl rfl) A2
      have Rn := R0.mov V F1 F3 D1 B1
      have hwp := wdM_pos HWd u (s := vI (sD S 45))
      exact ⟨_, _, _, _, e1, e2, V.act (Vd.sk W q.2 (by omega) hw.2), Cn, Rn, K1.2.2.2.2.2, (Kt.2.tr F1.kc).tr F3.2.2.2.1⟩
    · have e1 : f_HF_sink (ii u) h = some (ii (-1), h) := by
        unfold f_HF_sink p_HF_canSink
        rw [E, C_isCell Ch W c0 c1, if_pos q, if_neg (show ¬ ii 1 = 0 by decide), M_wlT M0 Vd (by omega) (by rw [hz]; omega), if_neg (show ¬ ii 1 = 0 by decide), if_pos i00]
      have e2 : f_R_sink (ii u) g = some (ii (-1), wI g 80 0 (ii 0)) := by
        unfold f_R_sink
        generalize wI g 80 0 (ii 0) = g0 at *
        have t14 : (14 + (u : Int)).toNat = 14 + u := by omega
        rw [R_isCell Rh W c0 c1, if_pos q, if_neg (show ¬ ii 1 = 0 by decide), ii_add, if_pos (by rw [ii_inb (by omega) (by omega)]; simp; omega), ii_nat (by omega) (by omega), t14, D (14 + u) (by omega), ez, if_neg (show ¬ ii z ≤ 0 by rw [z0, ii_le (by omega) (by omega) (by omega) (by omega)]; omega)]
      exact call_same V C R e1 e2 (CS.rf _) Kt
  · have e1 : f_HF_sink (ii c) h = some (ii (-1), h) := by
      unfold f_HF_sink p_HF_canSink
      rw [E, C_isCell Ch W c0 c1, if_neg q, if_pos i00, if_pos i00]
    have e2 : f_R_sink (ii c) g = some (ii (-1), wI g 80 0 (ii 0)) := by
      unfold f_R_sink
      rw [R_isCell Rh W c0 c1, if_neg q, if_pos i00]
    exact call_same V C R e1 e2 (CS.rf _) Kt
end SW
