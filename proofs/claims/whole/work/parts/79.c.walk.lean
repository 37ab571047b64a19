/-! walks and strolls -/
theorem ush_v (x : Int64) : ∃ u : Nat, u < 2147483648 ∧ ushL x (ii 33) = Int64.ofInt u := by
  refine ⟨x.toUInt64.toNat / 2 ^ 33, ?_, ?_⟩
  · have := UInt64.toNat_lt x.toUInt64
    omega
  · unfold ushL
    have e1 : ((ii 33).toInt64.toUInt64 &&& Int64.toUInt64 63) = 33 := by decide +kernel
    rw [e1]
    apply Int64.toInt_inj.mp
    have hlt := UInt64.toNat_lt x.toUInt64
    have e2 : (x.toUInt64 >>> 33).toNat = x.toUInt64.toNat / 2 ^ 33 := by
      rw [UInt64.toNat_shiftRight, Nat.shiftRight_eq_div_pow]; rfl
    have e3 : (Int64.ofInt ((x.toUInt64.toNat / 2 ^ 33 : Nat) : Int)).toInt = ((x.toUInt64.toNat / 2 ^ 33 : Nat) : Int) := by
      rw [Int64.toInt_ofInt, Int.bmod_eq_of_le]
      · have : (-9223372036854775808 : Int) ≤ ((x.toUInt64.toNat / 2 ^ 33 : Nat) : Int) := by omega
        simpa using this
      · have : ((x.toUInt64.toNat / 2 ^ 33 : Nat) : Int) < 9223372036854775808 := by omega
        simpa using this
    rw [e3]
    show ((x.toUInt64 >>> 33).toBitVec).toInt = _
    rw [BitVec.toInt_eq_toNat_cond]
    have e4 : (x.toUInt64 >>> 33).toBitVec.toNat = x.toUInt64.toNat / 2 ^ 33 := e2
    rw [e4]
    split <;> omega
/-- a draw -/
theorem drw_v (x : Int64) {m : Int} (m0 : 1 ≤ m) (m1 : m ≤ 100) : ∃ z : Nat, (z : Int) < m ∧ (remL (ushL x (ii 33)) (Int64.ofInt m)).toInt32 = ii z := by
  obtain ⟨u, hu, eu⟩ := ush_v x
  obtain ⟨k, rfl⟩ := Int.eq_ofNat_of_zero_le (show 0 ≤ m by omega)
  refine ⟨u % k, by have := Nat.mod_lt u (show 0 < k by omega); omega, ?_⟩
  rw [eu]
  unfold remL
  have e1 : Int64.ofInt (u : Int) / Int64.ofInt (k : Int) = Int64.ofInt ((u : Int).tdiv k) := (Int64.ofInt_tdiv (by have : Int64.minValue.toInt = -9223372036854775808 := by decide
                                                                                                                    omega) (by have : Int64.maxValue.toInt = 9223372036854775807 := by decide
                                                                                                                               omega) (by have : Int64.minValue.toInt = -9223372036854775808 := by decide
                                                                                                                                          omega) (by have : Int64.maxValue.toInt = 9223372036854775807 := by decide
                                                                                                                                                     omega)).symm
  rw [e1, l64_mul, l64_sub, Int64.toInt32_ofInt]
  congr 1
  rw [Int.tdiv_eq_ediv_of_nonneg (by omega)]
  have := Int.mul_ediv_add_emod (u : Int) k
  rw [Int.mul_comm] at this
  have h2 : ((u % k : Nat) : Int) = (u : Int) % k := by simp
  omega
section WK
variable {S : ST} {B : Nat} {h g : AH}
theorem stp_c2 (C : CRep S B h) (V : VS S) (W : HW (sH S)) (hB : B < 1000000) {f c : Nat} (hf : (f : Int) < (sH S) 7) (hc : (c : Int) < cellsM (sH S)) (e : Bool) : ∃ h1, f_HF_stepTo (ii f) (ii c) (bI e) h = some (ii (erT e (stT (sH S) (sD S) (sL S) (sO S) f c)), h1) ∧ CRep (nS S f c (erT e (stT (sH S) (sD S) (sL S) (sO S) f c))) (B + 1) h1 ∧ CKm h h1 := by
  have Lw := C.lws V
  obtain ⟨c1, ⟨o, ho, o1', o2, o3⟩, ⟨wr, w1, w2, w3⟩, c4, c5, c6, c7⟩ := id C
  obtain ⟨h1, e1, M1, A1, K1⟩ := C_stepTo o1' o3 ho w2 V.2.2.1 W c6 Lw w3 V.2.2.2.1.1 (by omega) hf hc e
  exact ⟨h1, e1, C.mov V K1 (by omega) ⟨wr + 1, by omega, M1, A1⟩, K1⟩
theorem C_hasW (C : CRep S B h) (V : VS S) {v : Int} (v0 : -2147483648 ≤ v) (v1 : v ≤ 2147483647) : p_HF_hasWalks (ii v) h = if 0 ≤ v ∧ v < (sW S).length then ii 1 else ii 0 := by
  have h4 := V.2.2.2.2.2.2.2.2.1
  have e15 := C.2.2.2.2.2.2.1
  unfold p_HF_hasWalks
  by_cases q : 0 ≤ v ∧ v < (sW S).length
  · rw [if_pos q]; simp (disch := omega) only [Option.bind_some, if_true, if_false, not_true_eq_false, not_false_eq_true, z0, ii_add, ii_sub, ii_mul, ifLeT, ifLeF, ifLtT, ifLtF, ifEqT, ifEqF, ifNeT, ifNeF, ifIn, nixZ, ii_i64, o0, o1, isInT, isInF, tn14, tn12, tn2, tn21, tn47, tn48, tn49, tn471, tn472, Int.reduceToNat, Int.toNat_natCast, Int.reduceAdd, Int.reduceSub, Int.reduceMul, Int.reduceNeg, Nat.reduceAdd, Nat.reduceSub, Nat.reduceMul, e15]
  · rw [if_neg q]
    by_cases q2 : v < 0
    · simp (disch := omega) only [Option.bind_some, if_true, if_false, not_true_eq_false, not_false_eq_true, z0, ii_add, ii_sub, ii_mul, ifLeT, ifLeF, ifLtT, ifLtF, ifEqT, ifEqF, ifNeT, ifNeF, ifIn, nixZ, ii_i64, o0, o1, isInT, isInF, tn14, tn12, tn2, tn21, tn47, tn48, tn49, tn471, tn472, Int.reduceToNat, Int.toNat_natCast, Int.reduceAdd, Int.reduceSub, Int.reduceMul, Int.reduceNeg, Nat.reduceAdd, Nat.reduceSub, Nat.reduceMul, e15]
    · simp (disch := omega) only [Option.bind_some, if_true, if_false, not_true_eq_false, not_false_eq_true, z0, ii_add, ii_sub, ii_mul, ifLeT, ifLeF, ifLtT, ifLtF, ifEqT, ifEqF, ifNeT, ifNeF, ifIn, nixZ, ii_i64, o0, o1, isInT, isInF, tn14, tn12, tn2, tn21, tn47, tn48, tn49, tn471, tn472, Int.reduceToNat, Int.toNat_natCast, Int.reduceAdd, Int.reduceSub, Int.reduceMul, Int.reduceNeg, Nat.reduceAdd, Nat.reduceSub, Nat.reduceMul, e15]
theorem R_isW (R : RRep S g) (V : VS S) {v : Int} (v0 : -2147483648 ≤ v) (v1 : v ≤ 2147483647) : p_R_isWalk (ii v) g = if 0 ≤ v ∧ v < (sW S).length then ii 1 else ii 0 := by
  have h4 := V.2.2.2.2.2.2.2.2.1
  have e39 := R.2.2.2.2.2.2.2.1.1
  unfold p_R_isWalk
  by_cases q : 0 ≤ v ∧ v < (sW S).length
  · rw [if_pos q]; simp (disch := omega) only [Option.bind_some, if_true, if_false, not_true_eq_false, not_false_eq_true, z0, ii_add, ii_sub, ii_mul, ifLeT, ifLeF, ifLtT, ifLtF, ifEqT, ifEqF, ifNeT, ifNeF, ifIn, nixZ, ii_i64, o0, o1, isInT, isInF, tn14, tn12, tn2, tn21, tn47, tn48, tn49, tn471, tn472, Int.reduceToNat, Int.toNat_natCast, Int.reduceAdd, Int.reduceSub, Int.reduceMul, Int.reduceNeg, Nat.reduceAdd, Nat.reduceSub, Nat.reduceMul, e39]
  · rw [if_neg q]
    by_cases q2 : v < 0
    · simp (disch := omega) only [Option.bind_some, if_true, if_false, not_true_eq_false, not_false_eq_true, z0, ii_add, ii_sub, ii_mul, ifLeT, ifLeF, ifLtT, ifLtF, ifEqT, ifEqF, ifNeT, ifNeF, ifIn, nixZ, ii_i64, o0, o1, isInT, isInF, tn14, tn12, tn2, tn21, tn47, tn48, tn49, tn471, tn472, Int.reduceToNat, Int.toNat_natCast, Int.reduceAdd, Int.reduceSub, Int.reduceMul, Int.reduceNeg, Nat.reduceAdd, Nat.reduceSub, Nat.reduceMul, e39]
    · simp (disch := omega) only [Option.bind_some, if_true, if_false, not_true_eq_false, not_false_eq_true, z0, ii_add, ii_sub, ii_mul, ifLeT, ifLeF, ifLtT, ifLtF, ifEqT, ifEqF, ifNeT, ifNeF, ifIn, nixZ, ii_i64, o0, o1, isInT, isInF, tn14, tn12, tn2, tn21, tn47, tn48, tn49, tn471, tn472, Int.reduceToNat, Int.toNat_natCast, Int.reduceAdd, Int.reduceSub, Int.reduceMul, Int.reduceNeg, Nat.reduceAdd, Nat.reduceSub, Nat.reduceMul, e39]
/-- a step of walks, as both have it -/
theorem wk_c (C : CRep S B h) (V : VS S) {v i : Nat} (hv : v < (sW S).length) (hi : i < ((sW S).getD v []).length) : ∃ f w : Nat, ((sW S).getD v []).getD i (0, 0) = (f, w) ∧ f ≤ 9 ∧ w ≤ 3 ∧ f_Walks_forkAt (h.2.2 11 v) (ii i) h = some (ii f) ∧ f_Walks_wayAt (h.2.2 11 v) (ii i) h = some (ii w) := by
  have h4 := V.2.2.2.2.2.2.2.2
  have hm := h4.2 _ (getD_mem (l := sW S) (i := v) [] hv)
  have hq := hm.2 _ (getD_mem (l := (sW S).getD v []) (i := i) (0, 0) hi)
  obtain ⟨c1, c3, c4, c5⟩ := C.2.2.2.2.2.2
  obtain ⟨w1, w2⟩ := c5 v hv
  have eww : ww h v = h.2.2 11 v := by unfold ww; rw [if_pos (by omega)]
  rw [eww] at w1 w2
  have e2 := w2 i hi
  generalize ((sW S).getD v []).getD i (0, 0) = fw at *
  obtain ⟨f, w⟩ := fw
  simp only at hq e2
  refine ⟨f, w, rfl, hq.1, hq.2, ?_, ?_⟩
  · unfold f_Walks_forkAt
    simp (disch := omega) only [Option.bind_some, if_true, if_false, not_true_eq_false, not_false_eq_true, z0, ii_add, ii_sub, ii_mul, ifLeT, ifLeF, ifLtT, ifLtF, ifEqT, ifEqF, ifNeT, ifNeF, ifIn, nixZ, ii_i64, o0, o1, isInT, isInF, tn14, tn12, tn2, tn21, tn47, tn48, tn49, tn471, tn472, Int.reduceToNat, Int.toNat_natCast, Int.reduceAdd, Int.reduceSub, Int.reduceMul, Int.reduceNeg, Nat.reduceAdd, Nat.reduceSub, Nat.reduceMul, w1, e2, ii_div]
    congr 2; omega
  · unfold f_Walks_wayAt
    simp (disch := omega) only [Option.bind_some, if_true, if_false, not_true_eq_false, not_false_eq_true, z0, ii_add, ii_sub, ii_mul, ifLeT, ifLeF, ifLtT, ifLtF, ifEqT, ifEqF, ifNeT, ifNeF, ifIn, nixZ, ii_i64, o0, o1, isInT, isInF, tn14, tn12, tn2, tn21, tn47, tn48, tn49, tn471, tn472, Int.reduceToNat, Int.toNat_natCast, Int.reduceAdd, Int.reduceSub, Int.reduceMul, Int.reduceNeg, Nat.reduceAdd, Nat.reduceSub, Nat.reduceMul, w1, e2, ii_rem]
    congr 2; omega
theorem wk_l (C : CRep S B h) (V : VS S) {v : Nat} (hv : v < (sW S).length) : h.1 (h.2.2 11 v) 1 = ii ((sW S).getD v []).length ∧ ((sW S).getD v []).length ≤ 64 := by
  have h4 := V.2.2.2.2.2.2.2.2
  have hm := h4.2 _ (getD_mem (l := sW S) (i := v) [] hv)
  obtain ⟨c1, c3, c4, c5⟩ := C.2.2.2.2.2.2
  obtain ⟨w1, w2⟩ := c5 v hv
  have eww : ww h v = h.2.2 11 v := by unfold ww; rw [if_pos (by omega)]
  rw [eww] at w1
  exact ⟨w1, hm.1⟩
theorem k_perform (V : VS S) (C : CRep S B h) (R : RRep S g) (hB : B < 900000) {a : Int} (a0 : -2147483648 ≤ a) (a1 : a ≤ 2147483647) : Call S B h g (f_HF_perform (ii a) h) (f_R_perform (ii a) g) := by
  have R0 := R.keep V (RS.t0 g (v := ii 0)).1
  obtain ⟨o, wr, ho, X⟩ := rx_of C V R0
  obtain ⟨E, Ch, M, Rh, D, W, Vd⟩ := X
  have hcl := W.cells
  have Kt := RS.t0 g (v := ii 0)
  have h4 := V.2.2.2.2.2.2.2.2.1
  unfold f_HF_perform f_R_perform
  rw [C_hasW C V a0 a1, R_isW R0 V a0 a1]
  generalize hg0 : wI g 80 0 (ii 0) = g0 at *
  by_cases q0 : cellsM (sH S) = 0
  · rw [C_hhF E Ch q0, if_pos i00, Rh.2.2.2.2.2.1, q0]
    by_cases q : 0 ≤ a ∧ a < (sW S).length
    · rw [if_pos q, if_neg i10, if_pos i00]
      exact call_same V C R rfl rfl (CS.rf _) Kt
    · rw [if_neg q, if_pos i00]
      exact call_same V C R rfl rfl (CS.rf _) Kt
  · rw [C_hhT E Ch W q0, if_neg i10]
    by_cases q : 0 ≤ a ∧ a < (sW S).length
    · have HWd := W.hw (c := 0) (by omega) (by omega)
      have hw := HWd.1
      obtain ⟨v, rfl⟩ := Int.eq_ofNat_of_zero_le q.1
      have hv : v < (sW S).length := by omega
      rw [if_pos q, if_neg i10, if_neg i10, Rh.2.2.2.2.2.1, if_neg (show ¬ ii (cellsM (sH S)) = 0 by rw [ii_z (by omega) (by omega)]; exact q0)]
      have hl64 := (wk_l C V hv).2
      simp (disch := omega) only [Option.bind_some, if_true, if_false, not_true_eq_false, not_false_eq_true, z0, ii_add, ii_sub, ii_mul, ifLeT, ifLeF, ifLtT, ifLtF, ifEqT, ifEqF, ifNeT, ifNeF, ifIn, nixZ, ii_i64, o0, o1, isInT, isInF, tn14, tn12, tn2, tn21, tn47, tn48, tn49, tn471, tn472, Int.reduceToNat, Int.toNat_natCast, Int.reduceAdd, Int.reduceSub, Int.reduceMul, Int.reduceNeg, Nat.reduceAdd, Nat.reduceSub, Nat.reduceMul]
      have Lw := C.lws V
      have key := lrel (fun n k (x : AH) => HF_perform_L26 n (h.2.2 11 v) (ii k) x) (fun n k (y : AH) => R_perform_L24 n (ii v) (ii k) y) ((sW S).getD v []).length (fun k x y => ∃ Sk, VS Sk ∧ CRep Sk (B + k) x ∧ RRep Sk y ∧ (sH Sk = sH S ∧ sW Sk = sW S) ∧ CKm h x ∧ KC g0 y) (fun x y => ∃ z h1 g1 S', x = some (z, h1) ∧ y = some (z, g1) ∧ VS S' ∧ CRep S' (B + 64) h1 ∧ RRep S' g1 ∧ KR h h1 ∧ KC g0 g1) ?_ ?_ ((sW S).getD v []).length 0 FU FU h g0 (by omega) (by unfold FU; omega) (by unfold FU; omega) ⟨S, V, C, R0, ⟨rfl, rfl⟩, CKm.rf _, KC.rf _⟩
      · obtain ⟨z, h1, g1, S', k1, k2, k3, k4, k5, k6, k7⟩ := key
        exact ⟨z, h1, g1, S', k1, k2, k3, k4, k5, k6, Kt.2.tr k7⟩
      · rintro n m x y ⟨Sk, r1, r2, r3, ⟨r4, r5⟩, r6, r7⟩
        have hv' : v < (sW Sk).length := by rw [r5]; exact hv
        have el := (wk_l r2 r1 hv').1
        rw [r6.2.2.2.2.1 11 (by omega), r5] at el
        have e96 := (r3.2.2.2.2.2.2.2.1.2 v hv').1
        rw [r5] at e96
        simp (disch := omega) only [Option.bind_some, if_true, if_false, not_true_eq_false, not_false_eq_true, z0, ii_add, ii_sub, ii_mul, ifLeT, ifLeF, ifLtT, ifLtF, ifEqT, ifEqF, ifNeT, ifNeF, ifIn, nixZ, ii_i64, o0, o1, isInT, isInF, tn14, tn12, tn2, tn21, tn47, tn48, tn49, tn471, tn472, Int.reduceToNat, Int.toNat_natCast, Int.reduceAdd, Int.reduceSub, Int.reduceMul, Int.reduceNeg, Nat.reduceAdd, Nat.reduceSub, Nat.reduceMul, HF_perform_L26, HF_perform_L26_b, R_perform_L24, R_perform_L24_b, el, e96]
        exact ⟨_, _, _, Sk, rfl, rfl, r1, CRep.mono r2 (by omega), r3, r6.2.2.2.2.2, r7⟩
      · rintro n m k x y hk ⟨Sk, r1, r2, r3, ⟨r4, r5⟩, r6, r7⟩
        have hv' : v < (sW Sk).length := by rw [r5]; exact hv
        have el := (wk_l r2 r1 hv').1
        rw [r6.2.2.2.2.1 11 (by omega), r5] at el
        have e96 := (r3.2.2.2.2.2.2.2.1.2 v hv').1
        rw [r5] at e96
        obtain ⟨f, w, efw, hf9, hw3, ef, ew⟩ := wk_c r2 r1 hv' (i := k) (by rw [r5]; exact hk)
        rw [r6.2.2.2.2.1 11 (by omega)] at ef ew
        obtain ⟨e95a, e95b⟩ := (r3.2.2.2.2.2.2.2.1.2 v hv').2 k (by rw [r5]; exact hk)
        rw [efw] at e95a e95b
        have t1 : (2 * (64 * (v : Int) + k)).toNat = 128 * v + 2 * k := by omega
        have t2 : (2 * (64 * (v : Int) + k) + 1).toNat = 128 * v + 2 * k + 1 := by omega
        obtain ⟨o', wr', ho', X'⟩ := rx_of r2 r1 r3
        obtain ⟨E', Ch', M', Rh', D', W', Vd'⟩ := X'
        have HWk : HW (sH Sk) := by rw [r4]; exact HWd
        by_cases q3 : (f : Int) < (sH Sk) 7
        · have e1 := C_goal E' Ch' M' Vd' HWk q3 (way := w) (by omega) (by omega)
          have e2 := R_where Rh' D' Vd' HWk q3 (way := w) (by omega) (by omega)
          have hgo := goM_lo HWk (d := sD Sk) f w
          have hck := HWk.cells
          by_cases q4 : goM (sH Sk) (sD Sk) f w = -1
          · left
            rw [q4] at e1 e2
            simp (disch := omega) only [Option.bind_some, if_true, if_false, not_true_eq_false, not_false_eq_true, z0, ii_add, ii_sub, ii_mul, ifLeT, ifLeF, ifLtT, ifLtF, ifEqT, ifEqF, ifNeT, ifNeF, ifIn, nixZ, ii_i64, o0, o1, isInT, isInF, tn14, tn12, tn2, tn21, tn47, tn48, tn49, tn471, tn472, Int.reduceToNat, Int.toNat_natCast, Int.reduceAdd, Int.reduceSub, Int.reduceMul, Int.reduceNeg, Nat.reduceAdd, Nat.reduceSub, Nat.reduceMul, HF_perform_L26, HF_perform_L26_b, R_perform_L24, R_perform_L24_b, el, e96, ef, ew, t1, t2, e95a, e95b, e1, e2]
            exact ⟨_, _, _, Sk, rfl, rfl, r1, CRep.mono r2 (by omega), r3, r6.2.2.2.2.2, r7⟩
          · right
            obtain ⟨c, hc⟩ := Int.eq_ofNat_of_zero_le (show 0 ≤ goM (sH Sk) (sD Sk) f w by omega)
            have hcc : (c : Int) < cellsM (sH Sk) := by omega
            obtain ⟨h1, s1, s2, s3⟩ := stp_c2 r2 r1 HWk (by omega) q3 hcc false
            obtain ⟨g1, g2, u1, u2, u3, u4⟩ := stp_r r3 r1 HWk (r2.lws r1) q3 (way := w) (by omega) (by omega) hc
            have htl := stT_lo (S := Sk) HWk (c := c) q3
            rw [hc] at e1 e2
            have s1' : f_HF_stepTo (ii f) (ii c) (ii 0) x = some (ii (stT (sH Sk) (sD Sk) (sL Sk) (sO Sk) f c), h1) := s1
            obtain ⟨_, _, A1, F1⟩ := R_rem r3.2.2.2.1 r3.2.2.1 r1.2.2.2.1.1
            have e95' : g1.1 95 = y.1 95 := by
              obtain ⟨g1', u1', _, F1'⟩ := R_rem r3.2.2.2.1 r3.2.2.1 r1.2.2.2.1.1
              rw [u1] at u1'
              cases u1'
              exact F1'.1 95 (by decide) (by decide)
            simp (disch := omega) only [Option.bind_some, if_true, if_false, not_true_eq_false, not_false_eq_true, z0, ii_add, ii_sub, ii_mul, ifLeT, ifLeF, ifLtT, ifLtF, ifEqT, ifEqF, ifNeT, ifNeF, ifIn, nixZ, ii_i64, o0, o1, isInT, isInF, tn14, tn12, tn2, tn21, tn47, tn48, tn49, tn471, tn472, Int.reduceToNat, Int.toNat_natCast, Int.reduceAdd, Int.reduceSub, Int.reduceMul, Int.reduceNeg, Nat.reduceAdd, Nat.reduceSub, Nat.reduceMul, HF_perform_L26, HF_perform_L26_b, R_perform_L24, R_perform_L24_b, el, e96, ef, ew, t1, t2, e95a, e95b, e1, e2, s1', u1, e95', u2]
            exact ⟨h1, g2, rfl, rfl, nS Sk f c (stT (sH Sk) (sD Sk) (sL Sk) (sO Sk) f c), nS_vs r1 HWk q3 hcc htl.1 htl.2, s2, u3, ⟨r4, r5⟩, r6.tr s3, r7.tr u4.1⟩
        · left
          have e1 := C_goal_out (p := 13) (a := ii w) E' Ch' W' (f := f) (by omega) (by omega) (by omega)
          have e2 := R_where_out (a := 97) (n := 227) (b := ii w) Rh' W' (f := f) (by omega) (by omega) (by omega)
          simp (disch := omega) only [Option.bind_some, if_true, if_false, not_true_eq_false, not_false_eq_true, z0, ii_add, ii_sub, ii_mul, ifLeT, ifLeF, ifLtT, ifLtF, ifEqT, ifEqF, ifNeT, ifNeF, ifIn, nixZ, ii_i64, o0, o1, isInT, isInF, tn14, tn12, tn2, tn21, tn47, tn48, tn49, tn471, tn472, Int.reduceToNat, Int.toNat_natCast, Int.reduceAdd, Int.reduceSub, Int.reduceMul, Int.reduceNeg, Nat.reduceAdd, Nat.reduceSub, Nat.reduceMul, HF_perform_L26, HF_perform_L26_b, R_perform_L24, R_perform_L24_b, el, e96, ef, ew, t1, t2, e95a, e95b, e1, e2]
          exact ⟨_, _, _, Sk, rfl, rfl, r1, CRep.mono r2 (by omega), r3, r6.2.2.2.2.2, r7⟩
    · rw [if_neg q, if_pos i00, if_pos i00]
      exact call_same V C R rfl rfl (CS.rf _) Kt
end WK
