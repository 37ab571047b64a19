/-! strolls -/
section SR
variable {S : ST} {B : Nat} {h g : AH}
theorem RKeep.wL (g : AH) {o j : Nat} {v : Int64} : RS g (wL g o j v) := ⟨⟨fun l => l, fun _ _ => rfl, fun _ _ => rfl, fun _ _ => rfl, fun _ _ => rfl⟩, fun _ _ => rfl, fun _ _ => rfl⟩
theorem wL_rd {g : AH} {o j : Nat} {v : Int64} : (wL g o j v).2.1 o j = v := by
  unfold wL
  show up2 g.2.1 o (vp_updL (g.2.1 o) j v) o j = v
  rw [up2_self]
  simp [vp_updL]
theorem C_drw (x : Int64) {m : Int} (m0 : 1 ≤ m) (m1 : m ≤ 100) : f_HF_drawn x (ii m) h = some ((remL (ushL x (ii 33)) (Int64.ofInt m)).toInt32) := by
  unfold f_HF_drawn
  have hne : ¬ Int64.ofInt m = 0 := by rw [z64, i64_eq (by omega) (by omega) (by omega) (by omega)]; omega
  rw [if_pos (by rw [ii_le (by omega) (by omega) (by omega) (by omega)]; omega), ii_i64 (by omega) (by omega), if_pos hne]
theorem R_drw {x : Int64} (hx : g.2.1 80 46 = x) {m : Int} (m0 : 1 ≤ m) (m1 : m ≤ 100) : f_R_draw (ii m) g = some ((remL (ushL (p_HF_turned x) (ii 33)) (Int64.ofInt m)).toInt32, wL g 80 46 (p_HF_turned x)) := by
  unfold f_R_draw
  have hne : ¬ Int64.ofInt m = 0 := by rw [z64, i64_eq (by omega) (by omega) (by omega) (by omega)]; omega
  rw [ii_i64 (by omega) (by omega), if_pos hne, wL_rd, hx]
  rfl
theorem wrD_pa {hd : Nat → Int} {d : DY} (V : DW hd d) (f c t t' : Int32) (j : Nat) : upd (wrD d f c t) (46 + 3 * bL (wrD d f c t)) t' j = wrD d f c t' j := by
  have hb := V.2.2.2.1.2
  have e : 46 + 3 * bL (wrD d f c t) = 49 + 3 * (min (bL d + 1) 60 - 1) := by rw [wrD_bL V]; omega
  rw [e]
  by_cases q : j = 49 + 3 * (min (bL d + 1) 60 - 1)
  · rw [q, upd_self, (wrD_n V).2.2]
  · rw [upd_ne q]
    unfold wrD
    by_cases z : bL d = 60
    · rw [if_pos z, if_pos z]
      have : j ≠ 226 := by omega
      by_cases z1 : 47 ≤ j ∧ j < 224
      · rw [if_pos z1, if_pos z1]
      · rw [if_neg z1, if_neg z1, if_neg this, if_neg this]
    · rw [if_neg z, if_neg z]
      have : j ≠ 49 + 3 * bL d := by omega
      rw [if_neg this, if_neg this]
theorem RRep.dd {d' : DY} {g1 : AH} {ac : List DY} (R : RRep (sB S, sH S, sD S, ac, sI S, sE S, sL S, sO S, sW S) g) (A : Ag [97] g g1) (D : RDy d' g1 97) : RRep (sB S, sH S, d', ac, sI S, sE S, sL S, sO S, sW S) g1 := by
  obtain ⟨a1, a2, a3, a4, a5, a6, a7, a8, a9⟩ := R
  have e : ∀ x, x ≠ 97 → g1.1 x = g.1 x := fun x h => A.1 x (by simpa using h)
  refine ⟨⟨by rw [e 80 (by decide)]; exact a1.1, fun j hj => by rw [e 81 (by decide)]; exact a1.2 j hj⟩, a2.ag A (by decide), D, ⟨by rw [e 80 (by decide)]; exact a4.1, fun i hi j hj => by rw [e 99 (by decide)]; exact a4.2 i hi j hj⟩, ?_, ⟨by rw [e 80 (by decide)]; exact a6.1, fun i hi => by rw [e 100 (by decide), e 101 (by decide), e 102 (by decide)]; exact a6.2 i hi⟩, ⟨by rw [e 80 (by decide)]; exact a7.1, by rw [e 80 (by decide)]; exact a7.2.1, fun i hi => ⟨by rw [e 83 (by decide)]; exact (a7.2.2 i hi).1, fun j hj => by rw [e 82 (by decide)]; exact (a7.2.2 i hi).2 j hj⟩⟩, ⟨by rw [e 80 (by decide)]; exact a8.1, fun i hi => ⟨by rw [e 96 (by decide)]; exact (a8.2 i hi).1, fun j hj => by rw [e 95 (by decide)]; exact (a8.2 i hi).2 j hj⟩⟩, fun j hj => by rw [e 84 (by decide)]; exact a9 j hj⟩
  revert a5
  show RIm (sI S) g → RIm (sI S) g1
  unfold RIm
  cases sI S with
  | none => intro a5; rw [e 80 (by decide)]; exact a5
  | some m => intro a5; exact ⟨by rw [e 80 (by decide)]; exact a5.1, fun j hj => by rw [e 104 (by decide)]; exact a5.2 j hj⟩
theorem ii_sc (k : Nat) : ii (k : Int) + ii 1 = ii ((k + 1 : Nat) : Int) := by rw [ii_add]; rfl
theorem str_c1 {n : Nat} {v1 v6 v7 q1 q2 : Int32} {v4 : Int64} (hk : ¬ v1 ≤ v7) (d1 : f_HF_drawn (p_HF_turned v4) (h.1 (h.2.2 0 13) 10) h = some q1) (d2 : f_HF_drawn (p_HF_turned (p_HF_turned v4)) (ii 4) h = some q2) (e1 : f_HF_goal 13 q1 q2 h = some (ii (-1))) : HF_stroll_L29 (n + 1) v1 v4 v6 v7 h = HF_stroll_L29 n v1 (p_HF_turned (p_HF_turned v4)) v6 (v7 + ii 1) h := by
  show HF_stroll_L29_b _ _ _ _ _ _ = _
  unfold HF_stroll_L29_b
  rw [if_neg hk, bind_eq d1, bind_eq d2, bind_eq e1, if_pos rfl, Option.bind_some]
theorem str_c2 {n : Nat} {v1 v6 v7 q1 q2 q3 q4 q5 : Int32} {v4 : Int64} {q6 : Int32 × AH} (hk : ¬ v1 ≤ v7) (d1 : f_HF_drawn (p_HF_turned v4) (h.1 (h.2.2 0 13) 10) h = some q1) (d2 : f_HF_drawn (p_HF_turned (p_HF_turned v4)) (ii 4) h = some q2) (e1 : f_HF_goal 13 q1 q2 h = some q3) (hq : ¬ q3 = ii (-1)) (d3 : f_HF_drawn (p_HF_turned (p_HF_turned (p_HF_turned v4))) (ii 10) h = some q4) (et : f_Heath_trait (h.2.2 0 13) q1 (ii 4) h = some q5) (s1 : f_HF_stepTo q1 q3 (if q5 ≤ q4 then ii 0 else ii 1) h = some q6) : HF_stroll_L29 (n + 1) v1 v4 v6 v7 h = HF_stroll_L29 n v1 (p_HF_turned (p_HF_turned (p_HF_turned v4))) (v6 + ii 1) (v7 + ii 1) q6.2 := by
  show HF_stroll_L29_b _ _ _ _ _ _ = _
  unfold HF_stroll_L29_b
  rw [if_neg hk, bind_eq d1, bind_eq d2, bind_eq e1, if_neg hq, bind_eq d3, bind_eq et, bind_eq s1, Option.bind_some]
theorem str_r1 {n : Nat} {v1 v4 v5 : Int32} {q1 q2 : Int32 × AH} (hk : ¬ v1 ≤ v5) (d1 : f_R_draw (g.1 80 33) g = some q1) (d2 : f_R_draw (ii 4) q1.2 = some q2) (e1 : f_R_whereTo 227 97 q1.1 q2.1 q2.2 = some (ii (-1))) : R_stroll_L37 (n + 1) v1 v4 v5 g = R_stroll_L37 n v1 v4 (v5 + ii 1) q2.2 := by
  show R_stroll_L37_b _ _ _ _ _ = _
  unfold R_stroll_L37_b
  rw [if_neg hk, bind_eq d1, bind_eq d2, bind_eq e1, if_pos rfl, Option.bind_some]
theorem str_r2 {n : Nat} {v1 v4 v5 q3 q7 : Int32} {q1 q2 q5 q6 : Int32 × AH} {q4 q8 : AH} (hk : ¬ v1 ≤ v5) (d1 : f_R_draw (g.1 80 33) g = some q1) (d2 : f_R_draw (ii 4) q1.2 = some q2) (e1 : f_R_whereTo 227 97 q1.1 q2.1 q2.2 = some q3) (hq : ¬ q3 = ii (-1)) (u1 : f_R_remember q2.2 = some q4) (u2 : f_R_goes 227 97 q1.1 q2.1 q4 = some q5) (d3 : f_R_draw (ii 10) q5.2 = some q6) (et : f_R_told q1.1 (ii 4) q6.2 = some q7) (w : (if q7 ≤ q6.1 then some q6.2 else if inb (ii 46) 227 = true then if inb ((ii 46) + ((ii 3) * (q6.2.1 97 (ii 46).toNatClampNeg))) 227 = true then some (wI q6.2 97 ((ii 46) + ((ii 3) * (q6.2.1 97 (ii 46).toNatClampNeg))).toNatClampNeg (if q5.1 ≤ 0 then (ii 1) else (ii 0))) else none else none) = some q8) : R_stroll_L37 (n + 1) v1 v4 v5 g = R_stroll_L37 n v1 (v4 + ii 1) (v5 + ii 1) q8 := by
  show R_stroll_L37_b _ _ _ _ _ = _
  unfold R_stroll_L37_b
  rw [if_neg hk, bind_eq d1, bind_eq d2, bind_eq e1, if_neg hq, bind_eq u1, bind_eq u2, bind_eq d3, bind_eq et, bind_eq w, Option.bind_some]
theorem k_stroll (V : VS S) (C : CRep S B h) (R : RRep S g) (hB : B < 900000) {a : Int} (a0 : -2147483648 ≤ a) (a1 : a ≤ 2147483647) (sd : Int64) : Call S B h g (f_HF_stroll (ii a) sd h) (f_R_stroll (ii a) sd g) := by
  have R0 := R.keep V (RS.t0 g (v := ii 0)).1
  obtain ⟨o, wr, ho, X⟩ := rx_of C V R0
  obtain ⟨E, Ch, M, Rh, D, W, Vd⟩ := X
  have hcl := W.cells
  have Kt := RS.t0 g (v := ii 0)
  unfold f_HF_stroll f_R_stroll
  have hFU := fu_1000
  generalize FU = F at *
  generalize hg0 : wI g 80 0 (ii 0) = g0 at *
  by_cases q0 : cellsM (sH S) = 0
  · simp (disch := omega) only [Option.bind_some, if_true, if_false, not_true_eq_false, not_false_eq_true, z0, ii_add, ii_sub, ii_mul, ifLeT, ifLeF, ifLtT, ifLtF, ifEqT, ifEqF, ifNeT, ifNeF, ifIn, nixZ, ii_i64, o0, o1, isInT, isInF, tn14, tn12, tn2, tn21, tn47, tn48, tn49, tn471, tn472, Int.reduceToNat, Int.toNat_natCast, Int.reduceAdd, Int.reduceSub, Int.reduceMul, Int.reduceNeg, Nat.reduceAdd, Nat.reduceSub, Nat.reduceMul, C_hhF E Ch, Rh.2.2.2.2.2.1]
    exact call_same V C R rfl rfl (CS.rf _) Kt
  · by_cases q : 1 ≤ a ∧ a ≤ 60
    · have HWd := W.hw (c := 0) (by omega) (by omega)
      have hw := HWd.1
      obtain ⟨n0, rfl⟩ := Int.eq_ofNat_of_zero_le (show 0 ≤ a by omega)
      simp (disch := omega) only [Option.bind_some, if_true, if_false, not_true_eq_false, not_false_eq_true, z0, ii_add, ii_sub, ii_mul, ifLeT, ifLeF, ifLtT, ifLtF, ifEqT, ifEqF, ifNeT, ifNeF, ifIn, nixZ, ii_i64, o0, o1, isInT, isInF, tn14, tn12, tn2, tn21, tn47, tn48, tn49, tn471, tn472, Int.reduceToNat, Int.toNat_natCast, Int.reduceAdd, Int.reduceSub, Int.reduceMul, Int.reduceNeg, Nat.reduceAdd, Nat.reduceSub, Nat.reduceMul, C_hhT E Ch W, Rh.2.2.2.2.2.1]
      have key := lrel (fun n k (x : Int64 × Nat × AH) => HF_stroll_L29 n (ii n0) x.1 (ii x.2.1) (ii k) x.2.2) (fun n k (y : Nat × AH) => R_stroll_L37 n (ii n0) (ii y.1) (ii k) y.2) n0 (fun k x y => x.2.1 = y.1 ∧ y.2.2.1 80 46 = x.1 ∧ ∃ Sk, VS Sk ∧ CRep Sk (B + k) x.2.2 ∧ RRep Sk y.2 ∧ sH Sk = sH S ∧ KR h x.2.2 ∧ KC g0 y.2) (fun x y => ∃ z h1 g1 S', x = some (z, h1) ∧ y = some (z, g1) ∧ VS S' ∧ CRep S' (B + 64) h1 ∧ RRep S' g1 ∧ KR h h1 ∧ KC g0 g1) ?_ ?_ n0 0 F F (sd, 0, h) (0, wL g0 80 46 sd) (by omega) (by omega) (by omega) ⟨rfl, wL_rd, S, V, C, R0.keep V (RKeep.wL g0).1, rfl, KR.rf _, (RKeep.wL g0).2⟩
      · obtain ⟨z, h1, g1, S', k1, k2, k3, k4, k5, k6, k7⟩ := key
        exact ⟨z, h1, g1, S', k1, k2, k3, k4, k5, k6, Kt.2.tr k7⟩
      · rintro n m ⟨x1, x2, x3⟩ ⟨y1, y2⟩ ⟨r1, r2, Sk, r3, r4, r5, r6, r7, r8⟩
        simp only at r1 r2 r3 r4 r5 r6 r7 r8
        subst r1
        simp (disch := omega) only [Option.bind_some, if_true, if_false, not_true_eq_false, not_false_eq_true, z0, ii_add, ii_sub, ii_mul, ifLeT, ifLeF, ifLtT, ifLtF, ifEqT, ifEqF, ifNeT, ifNeF, ifIn, nixZ, ii_i64, o0, o1, isInT, isInF, tn14, tn12, tn2, tn21, tn47, tn48, tn49, tn471, tn472, Int.reduceToNat, Int.toNat_natCast, Int.reduceAdd, Int.reduceSub, Int.reduceMul, Int.reduceNeg, Nat.reduceAdd, Nat.reduceSub, Nat.reduceMul, HF_stroll_L29, HF_stroll_L29_b, R_stroll_L37, R_stroll_L37_b]
        exact ⟨_, _, _, Sk, rfl, rfl, r3, CRep.mono r4 (by omega), r5, r7, r8⟩
      · rintro n m k ⟨x1, x2, x3⟩ ⟨y1, y2⟩ hk ⟨r1, r2, Sk, r3, r4, r5, r6, r7, r8⟩
        simp only at r1 r2 r3 r4 r5 r6 r7 r8
        subst r1
        right
        have HWk : HW (sH Sk) := by rw [r6]; exact HWd
        have hwk := HWk.1
        obtain ⟨o', wr', ho', X'⟩ := rx_of r4 r3 r5
        obtain ⟨E', Ch', M', Rh', D', W', Vd'⟩ := X'
        obtain ⟨f, hf, ef⟩ := drw_v (p_HF_turned x1) (m := (sH Sk) 7) (by omega) (by omega)
        obtain ⟨w, hw', ew⟩ := drw_v (p_HF_turned (p_HF_turned x1)) (m := 4) (by omega) (by omega)
        have d1 := C_drw (h := x3) (p_HF_turned x1) (m := (sH Sk) 7) (by omega) (by omega)
        have d2 := C_drw (h := x3) (p_HF_turned (p_HF_turned x1)) (m := 4) (by omega) (by omega)
        have d1' := R_drw r2 (m := (sH Sk) 7) (by omega) (by omega)
        have d2' := R_drw (g := wL y2 80 46 (p_HF_turned x1)) wL_rd (m := 4) (by omega) (by omega)
        rw [ef] at d1 d1'
        have hkk : ¬ ii (n0 : Int) ≤ ii (k : Int) := by rw [ii_le (by omega) (by omega) (by omega) (by omega)]; omega
        have d1 : f_HF_drawn (p_HF_turned x1) (x3.1 (x3.2.2 0 13) 10) x3 = some (ii f) := by rw [E', Ch'.2.2.2.2.2.1]; exact d1
        have d1' : f_R_draw (y2.1 80 33) y2 = some (ii f, wL y2 80 46 (p_HF_turned x1)) := by rw [Rh'.2.2.2.2.1]; exact d1'
        rw [ew] at d2 d2'
        obtain ⟨z2, hz2⟩ : ∃ z2, z2 = wL (wL y2 80 46 (p_HF_turned x1)) 80 46 (p_HF_turned (p_HF_turned x1)) := ⟨_, rfl⟩
        rw [← hz2] at d2'
        have Kz : RS y2 z2 := by rw [hz2]; exact (RKeep.wL _).tr (RKeep.wL _)
        have lz : z2.2.1 80 46 = p_HF_turned (p_HF_turned x1) := by rw [hz2]; exact wL_rd
        clear hz2
        have Rz := r5.keep r3 Kz.1
        have e1 := C_goal E' Ch' M' Vd' HWk hf (way := w) (by omega) (by omega)
        have e2 := R_where Rz.2.1 Rz.2.2.1 Vd' HWk hf (way := w) (by omega) (by omega)
        have hgo := goM_lo HWk (d := sD Sk) f w
        have hck := HWk.cells
        by_cases q4 : goM (sH Sk) (sD Sk) f w = -1
        · rw [q4] at e1 e2
          refine ⟨(p_HF_turned (p_HF_turned x1), x2, x3), (x2, z2), by rw [str_c1 hkk d1 d2 e1, ii_sc], by rw [str_r1 hkk d1' d2' e2, ii_sc], rfl, lz, Sk, r3, CRep.mono r4 (by omega), Rz, r6, r7, r8.tr Kz.2⟩
        · obtain ⟨c, hc⟩ := Int.eq_ofNat_of_zero_le (show 0 ≤ goM (sH Sk) (sD Sk) f w by omega)
          have hcc : (c : Int) < cellsM (sH Sk) := by omega
          obtain ⟨t, ht, et⟩ := drw_v (p_HF_turned (p_HF_turned (p_HF_turned x1))) (m := 10) (by omega) (by omega)
          have d3 := C_drw (h := x3) (p_HF_turned (p_HF_turned (p_HF_turned x1))) (m := 10) (by omega) (by omega)
          rw [et] at d3
          obtain ⟨g1, g2, u1, u2, u3, u4, u5⟩ := stp_r Rz r3 HWk (r4.lws r3) hf (way := w) (by omega) (by omega) hc
          have d3' := R_drw (g := g2) (x := p_HF_turned (p_HF_turned x1)) (by rw [u5]; exact lz) (m := 10) (by omega) (by omega)
          rw [et] at d3'
          obtain ⟨z3, hz3⟩ : ∃ z3, z3 = wL g2 80 46 (p_HF_turned (p_HF_turned (p_HF_turned x1))) := ⟨_, rfl⟩
          rw [← hz3] at d3'
          have Kz3 : RS g2 z3 := by rw [hz3]; exact RKeep.wL _
          have lz3 : z3.2.1 80 46 = p_HF_turned (p_HF_turned (p_HF_turned x1)) := by rw [hz3]; exact wL_rd
          have az3 : z3.1 = g2.1 := by rw [hz3]; rfl
          clear hz3
          have htl := stT_lo (S := Sk) HWk (c := c) hf
          have Vn := nS_vs r3 HWk hf hcc htl.1 htl.2
          have Rz3 := RRep.keep u3 Vn Kz3.1
          have hfk := HWk.2.2.2.2 f hf
          have et4 : f_Heath_trait (x3.2.2 0 13) (ii f) (ii 4) x3 = some (ii (fkM (sH Sk) f 4)) := by rw [E']; exact C_t4 Ch' HWk hf
          have hq : ¬ ii (c : Int) = ii (-1) := by rw [ii_eq (by omega) (by omega) (by omega) (by omega)]; omega
          have et4' := R_t4 Rz3.2.1 (f := f) (by omega)
          rw [hc] at e1 e2
          have hnf : sH (nS Sk f c (stT (sH Sk) (sD Sk) (sL Sk) (sO Sk) f c)) = sH Sk := rfl
          rw [hnf] at et4'
          by_cases q5 : fkM (sH Sk) f 4 ≤ t
          · obtain ⟨h1, s1, s2, s3⟩ := stp_c r4 r3 HWk (by omega) hf hcc false
            have s1' : f_HF_stepTo (ii f) (ii c) (ii 0) x3 = some (ii (stT (sH Sk) (sD Sk) (sL Sk) (sO Sk) f c), h1) := s1
            have qt : ii (fkM (sH Sk) f 4) ≤ ii t := by rw [ii_le (by omega) (by omega) (by omega) (by omega)]; omega
            exact ⟨(p_HF_turned (p_HF_turned (p_HF_turned x1)), x2 + 1, h1), (x2 + 1, z3), by rw [str_c2 hkk d1 d2 e1 hq d3 et4 (by rw [if_pos qt]; exact s1'), ii_sc, ii_sc], by rw [str_r2 hkk d1' d2' e2 hq u1 u2 d3' et4' (if_pos qt), ii_sc, ii_sc], rfl, lz3, nS Sk f c (stT (sH Sk) (sD Sk) (sL Sk) (sO Sk) f c), Vn, s2, Rz3, r6, r7.tr s3, ((r8.tr Kz.2).tr u4).tr Kz3.2⟩
          · obtain ⟨h1, s1, s2, s3⟩ := stp_c r4 r3 HWk (by omega) hf hcc true
            have s1' : f_HF_stepTo (ii f) (ii c) (ii 1) x3 = some (ii (erT true (stT (sH Sk) (sD Sk) (sL Sk) (sO Sk) f c)), h1) := s1
            have het := erT_lo (e := true) htl.1 htl.2
            have Vm := r3.2.2.1.mv HWk hf (gu := (fkM (sH Sk) f 5).toNat) (by omega) (c := c) (by omega) hcc
            have D3 : RDy (stD (sH Sk) (sD Sk) f c (stT (sH Sk) (sD Sk) (sL Sk) (sO Sk) f c)) z3 97 := Rz3.2.2.1
            have b46 : z3.1 97 46 = ii (bL (stD (sH Sk) (sD Sk) f c (stT (sH Sk) (sD Sk) (sL Sk) (sO Sk) f c))) := by rw [D3 46 (by omega)]; exact Vn.2.2.1.2.2.2.1.1
            have hb60 := Vn.2.2.1.2.2.2.1.2
            have hb1 : 1 ≤ bL (stD (sH Sk) (sD Sk) f c (stT (sH Sk) (sD Sk) (sL Sk) (sO Sk) f c)) := by
              show 1 ≤ bL (wrD _ _ _ _)
              rw [wrD_bL Vm]; omega
            have hb60' : bL (stD (sH Sk) (sD Sk) f c (stT (sH Sk) (sD Sk) (sL Sk) (sO Sk) f c)) ≤ 60 := hb60
            obtain ⟨bb, hbb⟩ : ∃ bb, bb = bL (stD (sH Sk) (sD Sk) f c (stT (sH Sk) (sD Sk) (sL Sk) (sO Sk) f c)) := ⟨_, rfl⟩
            rw [← hbb] at b46 hb1 hb60'
            have t46 : (46 + 3 * (bb : Int)).toNat = 46 + 3 * bb := by omega
            have ev : (if ii (stT (sH Sk) (sD Sk) (sL Sk) (sO Sk) f c) ≤ ii 0 then ii 1 else ii 0) = ii (erT true (stT (sH Sk) (sD Sk) (sL Sk) (sO Sk) f c)) := by
              unfold erT
              rw [if_pos rfl]
              by_cases z : 0 < stT (sH Sk) (sD Sk) (sL Sk) (sO Sk) f c
              · rw [if_pos z]; simp (disch := omega) only [Option.bind_some, if_true, if_false, not_true_eq_false, not_false_eq_true, z0, ii_add, ii_sub, ii_mul, ifLeT, ifLeF, ifLtT, ifLtF, ifEqT, ifEqF, ifNeT, ifNeF, ifIn, nixZ, ii_i64, o0, o1, isInT, isInF, tn14, tn12, tn2, tn21, tn47, tn48, tn49, tn471, tn472, Int.reduceToNat, Int.toNat_natCast, Int.reduceAdd, Int.reduceSub, Int.reduceMul, Int.reduceNeg, Nat.reduceAdd, Nat.reduceSub, Nat.reduceMul]
              · rw [if_neg z]; simp (disch := omega) only [Option.bind_some, if_true, if_false, not_true_eq_false, not_false_eq_true, z0, ii_add, ii_sub, ii_mul, ifLeT, ifLeF, ifLtT, ifLtF, ifEqT, ifEqF, ifNeT, ifNeF, ifIn, nixZ, ii_i64, o0, o1, isInT, isInF, tn14, tn12, tn2, tn21, tn47, tn48, tn49, tn471, tn472, Int.reduceToNat, Int.toNat_natCast, Int.reduceAdd, Int.reduceSub, Int.reduceMul, Int.reduceNeg, Nat.reduceAdd, Nat.reduceSub, Nat.reduceMul]
            have A4 : Ag [97] z3 (wI z3 97 (46 + 3 * bb) (ii (erT true (stT (sH Sk) (sD Sk) (sL Sk) (sO Sk) f c)))) := (Ag.rf _ _).pI (by decide)
            have D4 : RDy (stD (sH Sk) (sD Sk) f c (erT true (stT (sH Sk) (sD Sk) (sL Sk) (sO Sk) f c))) (wI z3 97 (46 + 3 * bb) (ii (erT true (stT (sH Sk) (sD Sk) (sL Sk) (sO Sk) f c)))) 97 := by
              have := D3.w (j := 46 + 3 * bb) (v := ii (erT true (stT (sH Sk) (sD Sk) (sL Sk) (sO Sk) f c)))
              refine this.ext (fun j hj => ?_)
              rw [hbb]
              exact wrD_pa Vm _ _ _ _ j
            have R4 := RRep.dd (S := nS Sk f c (stT (sH Sk) (sD Sk) (sL Sk) (sO Sk) f c)) (ac := pu40 (sA Sk) (sD Sk)) Rz3 A4 D4
            have qt : ¬ ii (fkM (sH Sk) f 4) ≤ ii t := by rw [ii_le (by omega) (by omega) (by omega) (by omega)]; omega
            have wv : (if ii (fkM (sH Sk) f 4) ≤ ii t then some z3 else if inb (ii 46) 227 = true then if inb ((ii 46) + ((ii 3) * (z3.1 97 (ii 46).toNatClampNeg))) 227 = true then some (wI z3 97 ((ii 46) + ((ii 3) * (z3.1 97 (ii 46).toNatClampNeg))).toNatClampNeg (if ii (stT (sH Sk) (sD Sk) (sL Sk) (sO Sk) f c) ≤ 0 then (ii 1) else (ii 0))) else none else none) = some (wI z3 97 (46 + 3 * bb) (ii (erT true (stT (sH Sk) (sD Sk) (sL Sk) (sO Sk) f c)))) := by
              rw [if_neg qt]
              simp (disch := omega) only [Option.bind_some, if_true, if_false, not_true_eq_false, not_false_eq_true, z0, ii_add, ii_sub, ii_mul, ifLeT, ifLeF, ifLtT, ifLtF, ifEqT, ifEqF, ifNeT, ifNeF, ifIn, nixZ, ii_i64, o0, o1, isInT, isInF, tn14, tn12, tn2, tn21, tn47, tn48, tn49, tn471, tn472, Int.reduceToNat, Int.toNat_natCast, Int.reduceAdd, Int.reduceSub, Int.reduceMul, Int.reduceNeg, Nat.reduceAdd, Nat.reduceSub, Nat.reduceMul, b46, t46, ev]
            exact ⟨(p_HF_turned (p_HF_turned (p_HF_turned x1)), x2 + 1, h1), (x2 + 1, wI z3 97 (46 + 3 * bb) (ii (erT true (stT (sH Sk) (sD Sk) (sL Sk) (sO Sk) f c)))), by rw [str_c2 hkk d1 d2 e1 hq d3 et4 (by rw [if_neg qt]; exact s1'), ii_sc, ii_sc], by rw [str_r2 hkk d1' d2' e2 hq u1 u2 d3' et4' wv, ii_sc, ii_sc], rfl, lz3, nS Sk f c (erT true (stT (sH Sk) (sD Sk) (sL Sk) (sO Sk) f c)), nS_vs r3 HWk hf hcc het.1 het.2, s2, R4, r6, r7.tr s3, (((r8.tr Kz.2).tr u4).tr Kz3.2).tr (KC.wI (by omega))⟩
    · by_cases q2 : a < 1
      · simp (disch := omega) only [Option.bind_some, if_true, if_false, not_true_eq_false, not_false_eq_true, z0, ii_add, ii_sub, ii_mul, ifLeT, ifLeF, ifLtT, ifLtF, ifEqT, ifEqF, ifNeT, ifNeF, ifIn, nixZ, ii_i64, o0, o1, isInT, isInF, tn14, tn12, tn2, tn21, tn47, tn48, tn49, tn471, tn472, Int.reduceToNat, Int.toNat_natCast, Int.reduceAdd, Int.reduceSub, Int.reduceMul, Int.reduceNeg, Nat.reduceAdd, Nat.reduceSub, Nat.reduceMul, C_hhT E Ch W, Rh.2.2.2.2.2.1]
        exact call_same V C R rfl rfl (CS.rf _) Kt
      · simp (disch := omega) only [Option.bind_some, if_true, if_false, not_true_eq_false, not_false_eq_true, z0, ii_add, ii_sub, ii_mul, ifLeT, ifLeF, ifLtT, ifLtF, ifEqT, ifEqF, ifNeT, ifNeF, ifIn, nixZ, ii_i64, o0, o1, isInT, isInF, tn14, tn12, tn2, tn21, tn47, tn48, tn49, tn471, tn472, Int.reduceToNat, Int.toNat_natCast, Int.reduceAdd, Int.reduceSub, Int.reduceMul, Int.reduceNeg, Nat.reduceAdd, Nat.reduceSub, Nat.reduceMul, C_hhT E Ch W, Rh.2.2.2.2.2.1]
        exact call_same V C R rfl rfl (CS.rf _) Kt
end SR
