/-! reads: richest, nearest, meets, right, best, heap, chance -/
theorem mk_T {P : Nat → Bool} {n : Nat} (h : P n = true) : mkI P (n + 1) = mkI P n ||| bitI (n : Int) := by rw [mkI, if_pos h]
theorem mk_F {P : Nat → Bool} {n : Nat} (h : P n = false) : mkI P (n + 1) = mkI P n := by rw [mkI, if_neg (by rw [h]; decide)]
theorem or_0 (x : Int32) : x ||| ii 0 = x := by
  apply tb_ext
  intro i hi
  rw [tb_or, tb_0, Bool.or_false]
theorem vcnt_s {hd : Nat → Int} {c : Int} {v : Nat} : vcnt hd c (v + 1) = vcnt hd c v + (if vAt hd v c = -1 then 0 else 1) := rfl
section Q3
variable {hd : Nat → Int} {d : DY} {o wr : Nat} {h g : AH}
theorem q_richest (X : RX hd d o wr h (wI g 80 0 (ii 0))) : ∃ x, f_HF_richest h = some x ∧ f_R_richest g = some (x, wI g 80 0 (ii 0)) := by
  obtain ⟨E, C, M, R, D, W, V⟩ := X
  have hf := W.nf
  unfold f_R_richest f_HF_richest
  generalize wI g 80 0 (ii 0) = g at *
  refine lrel (fun n k (a : Int × Int) => HF_richest_L6 n (ii a.1) (ii a.2) (ii k) h) (fun n k (b : Int) => R_richest_L9 n (ii b) (ii k) g) (hd 7).toNat (fun k a b => a.1 = b ∧ ((b = -1 ∧ a.2 = 0) ∨ (∃ j : Nat, b = j ∧ j < k ∧ a.2 = vI (d (2 * j + 1))))) (fun x y => ∃ z, x = some z ∧ y = some (z, g)) ?_ ?_ (hd 7).toNat 0 FU FU (-1, 0) (-1) (by omega) (by unfold FU; omega) (by unfold FU; omega) ⟨rfl, Or.inl ⟨rfl, rfl⟩⟩
  · rintro n m ⟨a1, a2⟩ b ⟨r1, r2⟩
    simp only at r1 r2
    subst r1
    simp (disch := omega) only [Option.bind_some, if_true, if_false, not_true_eq_false, not_false_eq_true, z0, ii_add, ii_sub, ii_mul, ifLeT, ifLeF, ifLtT, ifLtF, ifEqT, ifEqF, ifNeT, ifNeF, ifIn, nixZ, ii_i64, o0, o1, isInT, isInF, tn14, tn12, tn2, tn21, tn47, tn48, tn49, tn471, tn472, Int.reduceToNat, Int.toNat_natCast, Int.reduceAdd, Int.reduceSub, Int.reduceMul, Int.reduceNeg, Nat.reduceAdd, Nat.reduceSub, Nat.reduceMul, HF_richest_L6, HF_richest_L6_b, R_richest_L9, R_richest_L9_b, E, C.2.2.2.2.2.1, R.2.2.2.2.1]
    exact ⟨_, rfl, rfl⟩
  · rintro n m k ⟨a1, a2⟩ b hk ⟨r1, r2⟩
    simp only at r1 r2
    subst r1
    right
    have HWd := W.hf (f := k) (by omega) (by omega)
    have e1 := D.i (j := 2 * k + 1) (by omega)
    have e2 := C_payOf M (f := k) (by omega) HWd
    rw [vI_ii (d (2 * k + 1))] at e2
    have hv := vI_lo (d (2 * k + 1))
    rcases r2 with ⟨z1, z2⟩ | ⟨j, z1, z2, z3⟩
    · subst z1 z2
      by_cases q : vI (d (2 * k + 1)) ≤ 0
      · simp (disch := omega) only [Option.bind_some, if_true, if_false, not_true_eq_false, not_false_eq_true, z0, ii_add, ii_sub, ii_mul, ifLeT, ifLeF, ifLtT, ifLtF, ifEqT, ifEqF, ifNeT, ifNeF, ifIn, nixZ, ii_i64, o0, o1, isInT, isInF, tn14, tn12, tn2, tn21, tn47, tn48, tn49, tn471, tn472, Int.reduceToNat, Int.toNat_natCast, Int.reduceAdd, Int.reduceSub, Int.reduceMul, Int.reduceNeg, Nat.reduceAdd, Nat.reduceSub, Nat.reduceMul, HF_richest_L6, HF_richest_L6_b, R_richest_L9, R_richest_L9_b, E, C.2.2.2.2.2.1, R.2.2.2.2.1, e1, e2]
        exact ⟨(-1, 0), -1, rfl, rfl, rfl, Or.inl ⟨rfl, rfl⟩⟩
      · simp (disch := omega) only [Option.bind_some, if_true, if_false, not_true_eq_false, not_false_eq_true, z0, ii_add, ii_sub, ii_mul, ifLeT, ifLeF, ifLtT, ifLtF, ifEqT, ifEqF, ifNeT, ifNeF, ifIn, nixZ, ii_i64, o0, o1, isInT, isInF, tn14, tn12, tn2, tn21, tn47, tn48, tn49, tn471, tn472, Int.reduceToNat, Int.toNat_natCast, Int.reduceAdd, Int.reduceSub, Int.reduceMul, Int.reduceNeg, Nat.reduceAdd, Nat.reduceSub, Nat.reduceMul, HF_richest_L6, HF_richest_L6_b, R_richest_L9, R_richest_L9_b, E, C.2.2.2.2.2.1, R.2.2.2.2.1, e1, e2]
        exact ⟨(k, vI (d (2 * k + 1))), k, rfl, rfl, rfl, Or.inr ⟨k, rfl, by omega, rfl⟩⟩
    · subst z1 z3
      have hv2 := vI_lo (d (2 * j + 1))
      have e3 := D.i (j := 2 * j + 1) (by omega)
      by_cases q : vI (d (2 * k + 1)) ≤ vI (d (2 * j + 1))
      · simp (disch := omega) only [Option.bind_some, if_true, if_false, not_true_eq_false, not_false_eq_true, z0, ii_add, ii_sub, ii_mul, ifLeT, ifLeF, ifLtT, ifLtF, ifEqT, ifEqF, ifNeT, ifNeF, ifIn, nixZ, ii_i64, o0, o1, isInT, isInF, tn14, tn12, tn2, tn21, tn47, tn48, tn49, tn471, tn472, Int.reduceToNat, Int.toNat_natCast, Int.reduceAdd, Int.reduceSub, Int.reduceMul, Int.reduceNeg, Nat.reduceAdd, Nat.reduceSub, Nat.reduceMul, HF_richest_L6, HF_richest_L6_b, R_richest_L9, R_richest_L9_b, E, C.2.2.2.2.2.1, R.2.2.2.2.1, e1, e2, e3]
        exact ⟨(j, vI (d (2 * j + 1))), j, rfl, rfl, rfl, Or.inr ⟨j, rfl, by omega, rfl⟩⟩
      · simp (disch := omega) only [Option.bind_some, if_true, if_false, not_true_eq_false, not_false_eq_true, z0, ii_add, ii_sub, ii_mul, ifLeT, ifLeF, ifLtT, ifLtF, ifEqT, ifEqF, ifNeT, ifNeF, ifIn, nixZ, ii_i64, o0, o1, isInT, isInF, tn14, tn12, tn2, tn21, tn47, tn48, tn49, tn471, tn472, Int.reduceToNat, Int.toNat_natCast, Int.reduceAdd, Int.reduceSub, Int.reduceMul, Int.reduceNeg, Nat.reduceAdd, Nat.reduceSub, Nat.reduceMul, HF_richest_L6, HF_richest_L6_b, R_richest_L9, R_richest_L9_b, E, C.2.2.2.2.2.1, R.2.2.2.2.1, e1, e2, e3]
        exact ⟨(k, vI (d (2 * k + 1))), k, rfl, rfl, rfl, Or.inr ⟨k, rfl, by omega, rfl⟩⟩
theorem C_col (C : CH hd o h) (W : HW hd) {c : Int} (h0 : 0 ≤ c) (h1 : c < cellsM hd) : f_Heath_columnOf o (ii c) h = some (ii (c % hd 0)) := by
  have hcl := W.cells
  have hw := W.1
  unfold f_Heath_columnOf
  rw [C.1, if_pos (by rw [ii_le (by omega) (by omega) (by omega) (by omega)]; omega), if_pos (by rw [ii_z (by omega) (by omega)]; omega), ii_rem h0 (by omega) (by omega) (by omega)]
theorem C_row (C : CH hd o h) (W : HW hd) {c : Int} (h0 : 0 ≤ c) (h1 : c < cellsM hd) : f_Heath_rowOf o (ii c) h = some (ii (c / hd 0)) := by
  have hcl := W.cells
  have hw := W.1
  unfold f_Heath_rowOf
  rw [C.1, if_pos (by rw [ii_le (by omega) (by omega) (by omega) (by omega)]; omega), if_pos (by rw [ii_z (by omega) (by omega)]; omega), ii_div h0 (by omega) (by omega) (by omega)]
def ab (x : Int) : Int := if 0 ≤ x then x else -x
theorem ab_ii {x : Int} (h1 : -2147483647 ≤ x) (h2 : x ≤ 2147483647) : p_Math_abs (ii x) = ii (ab x) := by
  unfold p_Math_abs ab
  by_cases q : 0 ≤ x
  · rw [if_pos q]; simp (disch := omega) only [Option.bind_some, if_true, if_false, not_true_eq_false, not_false_eq_true, z0, ii_add, ii_sub, ii_mul, ifLeT, ifLeF, ifLtT, ifLtF, ifEqT, ifEqF, ifNeT, ifNeF, ifIn, nixZ, ii_i64, o0, o1, isInT, isInF, tn14, tn12, tn2, tn21, tn47, tn48, tn49, tn471, tn472, Int.reduceToNat, Int.toNat_natCast, Int.reduceAdd, Int.reduceSub, Int.reduceMul, Int.reduceNeg, Nat.reduceAdd, Nat.reduceSub, Nat.reduceMul]
  · rw [if_neg q]; simp (disch := omega) only [Option.bind_some, if_true, if_false, not_true_eq_false, not_false_eq_true, z0, ii_add, ii_sub, ii_mul, ifLeT, ifLeF, ifLtT, ifLtF, ifEqT, ifEqF, ifNeT, ifNeF, ifIn, nixZ, ii_i64, o0, o1, isInT, isInF, tn14, tn12, tn2, tn21, tn47, tn48, tn49, tn471, tn472, Int.reduceToNat, Int.toNat_natCast, Int.reduceAdd, Int.reduceSub, Int.reduceMul, Int.reduceNeg, Nat.reduceAdd, Nat.reduceSub, Nat.reduceMul]; congr 1; omega
theorem ab_sw (a b : Int) : ab (a - b) = ab (b - a) := by unfold ab; split <;> split <;> omega
theorem ab_lo {x n : Int} (h1 : -n ≤ x) (h2 : x ≤ n) : 0 ≤ ab x ∧ ab x ≤ n := by unfold ab; split <;> omega
/-- how far -/
def farM (hd : Nat → Int) (c c' : Int) : Int := ab (c % hd 0 - c' % hd 0) + ab (c / hd 0 - c' / hd 0)
theorem farM_lo (W : HW hd) {c c' : Int} (h0 : 0 ≤ c) (h1 : c < cellsM hd) (h0' : 0 ≤ c') (h1' : c' < cellsM hd) : 0 ≤ farM hd c c' ∧ farM hd c c' ≤ 100 := by
  have hw := W.1
  have m1 := mod_lt6 (c := c) (show 0 < hd 0 by omega)
  have m2 := mod_lt6 (c := c') (show 0 < hd 0 by omega)
  have d1 := div_lt (show 0 < hd 0 by omega) h0 (show c < hd 0 * hd 1 from h1)
  have d2 := div_lt (show 0 < hd 0 by omega) h0' (show c' < hd 0 * hd 1 from h1')
  have a1 := ab_lo (x := c % hd 0 - c' % hd 0) (n := 10) (by omega) (by omega)
  have a2 := ab_lo (x := c / hd 0 - c' / hd 0) (n := 10) (by omega) (by omega)
  unfold farM
  omega
theorem C_steps (C : CH hd o h) (W : HW hd) {c c' : Int} (h0 : 0 ≤ c) (h1 : c < cellsM hd) (h0' : 0 ≤ c') (h1' : c' < cellsM hd) : f_Heath_stepsBetween o (ii c) (ii c') h = some (ii (farM hd c c')) := by
  have hw := W.1
  have m1 := mod_lt6 (c := c) (show 0 < hd 0 by omega)
  have m2 := mod_lt6 (c := c') (show 0 < hd 0 by omega)
  have d1 := div_lt (show 0 < hd 0 by omega) h0 (show c < hd 0 * hd 1 from h1)
  have d2 := div_lt (show 0 < hd 0 by omega) h0' (show c' < hd 0 * hd 1 from h1')
  unfold f_Heath_stepsBetween farM
  simp (disch := omega) only [Option.bind_some, if_true, if_false, not_true_eq_false, not_false_eq_true, z0, ii_add, ii_sub, ii_mul, ifLeT, ifLeF, ifLtT, ifLtF, ifEqT, ifEqF, ifNeT, ifNeF, ifIn, nixZ, ii_i64, o0, o1, isInT, isInF, tn14, tn12, tn2, tn21, tn47, tn48, tn49, tn471, tn472, Int.reduceToNat, Int.toNat_natCast, Int.reduceAdd, Int.reduceSub, Int.reduceMul, Int.reduceNeg, Nat.reduceAdd, Nat.reduceSub, Nat.reduceMul, C_col C W, C_row C W, ab_ii]
theorem q_nearest (X : RX hd d o wr h (wI g 80 0 (ii 0))) {f : Int} (c0 : -2147483648 ≤ f) (c1 : f ≤ 2147483647) : ∃ x, f_HF_nearest (ii f) h = some x ∧ f_R_nearest (ii f) g = some (x, wI g 80 0 (ii 0)) := by
  obtain ⟨E, C, M, R, D, W, V⟩ := X
  have hc := W.cells
  have hf := W.nf
  unfold f_R_nearest f_HF_nearest
  generalize wI g 80 0 (ii 0) = g at *
  rw [E, C_isFork C W c0 c1, R_isFork R W c0 c1]
  by_cases q : 0 ≤ f ∧ f < hd 7
  · rw [if_pos q]
    have HWd := W.hf q.1 q.2
    have hw := HWd.1
    obtain ⟨u, rfl⟩ := Int.eq_ofNat_of_zero_le q.1
    have ep := D.i (j := 2 * u) (by omega)
    have hp := V.plc W q.2
    have ec := C_placeOf M HWd q.2
    rw [vI_ii (d (2 * u))] at ec
    have e85 := R.1 0 (by omega)
    simp (disch := omega) only [Option.bind_some, if_true, if_false, not_true_eq_false, not_false_eq_true, z0, ii_add, ii_sub, ii_mul, ifLeT, ifLeF, ifLtT, ifLtF, ifEqT, ifEqF, ifNeT, ifNeF, ifIn, nixZ, ii_i64, o0, o1, isInT, isInF, tn14, tn12, tn2, tn21, tn47, tn48, tn49, tn471, tn472, Int.reduceToNat, Int.toNat_natCast, Int.reduceAdd, Int.reduceSub, Int.reduceMul, Int.reduceNeg, Nat.reduceAdd, Nat.reduceSub, Nat.reduceMul, ep]
    refine lrel (fun n k (a : Int) => HF_nearest_L17 n (ii u) (ii a) (ii k) h) (fun n k (b : Int) => R_nearest_L29 n (ii (vI (d (2 * u)))) (ii b) (ii k) g) (cellsM hd).toNat (fun k a b => a = b ∧ -1 ≤ a ∧ a ≤ 100) (fun x y => ∃ z, x = some z ∧ y = some (z, g)) ?_ ?_ (cellsM hd).toNat 0 FU FU (-1) (-1) (by omega) (by unfold FU; omega) (by unfold FU; omega) ⟨rfl, by omega, by omega⟩
    · rintro n m a b ⟨r1, r2⟩
      subst r1
      simp (disch := omega) only [Option.bind_some, if_true, if_false, not_true_eq_false, not_false_eq_true, z0, ii_add, ii_sub, ii_mul, ifLeT, ifLeF, ifLtT, ifLtF, ifEqT, ifEqF, ifNeT, ifNeF, ifIn, nixZ, ii_i64, o0, o1, isInT, isInF, tn14, tn12, tn2, tn21, tn47, tn48, tn49, tn471, tn472, Int.reduceToNat, Int.toNat_natCast, Int.reduceAdd, Int.reduceSub, Int.reduceMul, Int.reduceNeg, Nat.reduceAdd, Nat.reduceSub, Nat.reduceMul, HF_nearest_L17, HF_nearest_L17_b, R_nearest_L29, R_nearest_L29_b, E, C.2.2.2.2.1, R.2.2.2.2.2.1]
      exact ⟨_, rfl, rfl⟩
    · rintro n m k a b hk ⟨r1, r2, r3⟩
      subst r1
      right
      by_cases q1 : depM hd k = -1
      · simp (disch := omega) only [Option.bind_some, if_true, if_false, not_true_eq_false, not_false_eq_true, z0, ii_add, ii_sub, ii_mul, ifLeT, ifLeF, ifLtT, ifLtF, ifEqT, ifEqF, ifNeT, ifNeF, ifIn, nixZ, ii_i64, o0, o1, isInT, isInF, tn14, tn12, tn2, tn21, tn47, tn48, tn49, tn471, tn472, Int.reduceToNat, Int.toNat_natCast, Int.reduceAdd, Int.reduceSub, Int.reduceMul, Int.reduceNeg, Nat.reduceAdd, Nat.reduceSub, Nat.reduceMul, HF_nearest_L17, HF_nearest_L17_b, R_nearest_L29, R_nearest_L29_b, E, C.2.2.2.2.1, R.2.2.2.2.2.1, C_hasWater C HWd, R_hasWater R HWd, if_pos q1]
        exact ⟨a, a, rfl, rfl, rfl, by omega, by omega⟩
      · have hfl := farM_lo HWd (c := vI (d (2 * u))) (c' := k) (by omega) (by omega) (by omega) (by omega)
        have m1 := mod_lt6 (c := vI (d (2 * u))) (show 0 < hd 0 by omega)
        have m2 := mod_lt6 (c := (k : Int)) (show 0 < hd 0 by omega)
        have d1 := div_lt (c := vI (d (2 * u))) (show 0 < hd 0 by omega) (by omega) (show vI (d (2 * u)) < hd 0 * hd 1 from hp.2)
        have d2 := div_lt (c := (k : Int)) (show 0 < hd 0 by omega) (by omega) (show (k : Int) < hd 0 * hd 1 by unfold cellsM at hk; omega)
        have esw : ab ((k : Int) % hd 0 - vI (d (2 * u)) % hd 0) + ab ((k : Int) / hd 0 - vI (d (2 * u)) / hd 0) = farM hd (vI (d (2 * u))) k := by
          unfold farM; rw [ab_sw, ab_sw ((k : Int) / hd 0)]
        by_cases q2 : a = -1
        · simp (disch := omega) only [Option.bind_some, if_true, if_false, not_true_eq_false, not_false_eq_true, z0, ii_add, ii_sub, ii_mul, ifLeT, ifLeF, ifLtT, ifLtF, ifEqT, ifEqF, ifNeT, ifNeF, ifIn, nixZ, ii_i64, o0, o1, isInT, isInF, tn14, tn12, tn2, tn21, tn47, tn48, tn49, tn471, tn472, Int.reduceToNat, Int.toNat_natCast, Int.reduceAdd, Int.reduceSub, Int.reduceMul, Int.reduceNeg, Nat.reduceAdd, Nat.reduceSub, Nat.reduceMul, HF_nearest_L17, HF_nearest_L17_b, R_nearest_L29, R_nearest_L29_b, E, C.2.2.2.2.1, R.2.2.2.2.2.1, C_hasWater C HWd, R_hasWater R HWd, if_neg q1, ec, C_steps C HWd, e85, ii_rem, ii_div, ab_ii, esw]
          exact ⟨farM hd (vI (d (2 * u))) k, farM hd (vI (d (2 * u))) k, rfl, rfl, rfl, by omega, by omega⟩
        · by_cases q3 : a ≤ farM hd (vI (d (2 * u))) k
          · simp (disch := omega) only [Option.bind_some, if_true, if_false, not_true_eq_false, not_false_eq_true, z0, ii_add, ii_sub, ii_mul, ifLeT, ifLeF, ifLtT, ifLtF, ifEqT, ifEqF, ifNeT, ifNeF, ifIn, nixZ, ii_i64, o0, o1, isInT, isInF, tn14, tn12, tn2, tn21, tn47, tn48, tn49, tn471, tn472, Int.reduceToNat, Int.toNat_natCast, Int.reduceAdd, Int.reduceSub, Int.reduceMul, Int.reduceNeg, Nat.reduceAdd, Nat.reduceSub, Nat.reduceMul, HF_nearest_L17, HF_nearest_L17_b, R_nearest_L29, R_nearest_L29_b, E, C.2.2.2.2.1, R.2.2.2.2.2.1, C_hasWater C HWd, R_hasWater R HWd, if_neg q1, ec, C_steps C HWd, e85, ii_rem, ii_div, ab_ii, esw, p_Math_min]
            exact ⟨a, a, rfl, rfl, rfl, by omega, by omega⟩
          · simp (disch := omega) only [Option.bind_some, if_true, if_false, not_true_eq_false, not_false_eq_true, z0, ii_add, ii_sub, ii_mul, ifLeT, ifLeF, ifLtT, ifLtF, ifEqT, ifEqF, ifNeT, ifNeF, ifIn, nixZ, ii_i64, o0, o1, isInT, isInF, tn14, tn12, tn2, tn21, tn47, tn48, tn49, tn471, tn472, Int.reduceToNat, Int.toNat_natCast, Int.reduceAdd, Int.reduceSub, Int.reduceMul, Int.reduceNeg, Nat.reduceAdd, Nat.reduceSub, Nat.reduceMul, HF_nearest_L17, HF_nearest_L17_b, R_nearest_L29, R_nearest_L29_b, E, C.2.2.2.2.1, R.2.2.2.2.2.1, C_hasWater C HWd, R_hasWater R HWd, if_neg q1, ec, C_steps C HWd, e85, ii_rem, ii_div, ab_ii, esw, p_Math_min]
            exact ⟨farM hd (vI (d (2 * u))) k, farM hd (vI (d (2 * u))) k, rfl, rfl, rfl, by omega, by omega⟩
  · rw [if_neg q]
    simp (disch := omega) only [Option.bind_some, if_true, if_false, not_true_eq_false, not_false_eq_true, z0, ii_add, ii_sub, ii_mul, ifLeT, ifLeF, ifLtT, ifLtF, ifEqT, ifEqF, ifNeT, ifNeF, ifIn, nixZ, ii_i64, o0, o1, isInT, isInF, tn14, tn12, tn2, tn21, tn47, tn48, tn49, tn471, tn472, Int.reduceToNat, Int.toNat_natCast, Int.reduceAdd, Int.reduceSub, Int.reduceMul, Int.reduceNeg, Nat.reduceAdd, Nat.reduceSub, Nat.reduceMul]
    exact ⟨_, rfl, rfl⟩
theorem vcnt_lo (c : Int) : ∀ n : Nat, vcnt hd c n ≤ n
  | 0 => Nat.le_refl 0
  | n + 1 => by have := vcnt_lo c n; unfold vcnt; split <;> omega
theorem R_vcnt (R : RH hd g) (W : HW hd) {c : Int} {b : Int32} (c0 : -2147483648 ≤ c) (c1 : c ≤ 2147483647) : R_meets_L31 FU b (ii c) (ii 0) (ii 0) g = some (ii (vcnt hd c (hd 4).toNat)) := by
  have hw := W.1
  refine lup (fun n k (a : Int) => R_meets_L31 n b (ii c) (ii a) (ii k) g) (hd 4).toNat (fun k a => a = vcnt hd c k) (fun x => x = some (ii (vcnt hd c (hd 4).toNat))) ?_ ?_ (hd 4).toNat 0 FU 0 (by omega) (by unfold FU; omega) rfl
  · rintro n a r
    subst r
    simp (disch := omega) only [Option.bind_some, if_true, if_false, not_true_eq_false, not_false_eq_true, z0, ii_add, ii_sub, ii_mul, ifLeT, ifLeF, ifLtT, ifLtF, ifEqT, ifEqF, ifNeT, ifNeF, ifIn, nixZ, ii_i64, o0, o1, isInT, isInF, tn14, tn12, tn2, tn21, tn47, tn48, tn49, tn471, tn472, Int.reduceToNat, Int.toNat_natCast, Int.reduceAdd, Int.reduceSub, Int.reduceMul, Int.reduceNeg, Nat.reduceAdd, Nat.reduceSub, Nat.reduceMul, R_meets_L31, R_meets_L31_b, R.2.1]
  · rintro n k a hk r
    subst r
    right
    have hva := vAt_lo W (v := k) (by omega) c
    by_cases q : vAt hd k c = -1
    · simp (disch := omega) only [Option.bind_some, if_true, if_false, not_true_eq_false, not_false_eq_true, z0, ii_add, ii_sub, ii_mul, ifLeT, ifLeF, ifLtT, ifLtF, ifEqT, ifEqF, ifNeT, ifNeF, ifIn, nixZ, ii_i64, o0, o1, isInT, isInF, tn14, tn12, tn2, tn21, tn47, tn48, tn49, tn471, tn472, Int.reduceToNat, Int.toNat_natCast, Int.reduceAdd, Int.reduceSub, Int.reduceMul, Int.reduceNeg, Nat.reduceAdd, Nat.reduceSub, Nat.reduceMul, R_meets_L31, R_meets_L31_b, R.2.1, R_veinAt R W]
      exact ⟨_, rfl, by rw [vcnt_s, if_pos q]; omega⟩
    · simp (disch := omega) only [Option.bind_some, if_true, if_false, not_true_eq_false, not_false_eq_true, z0, ii_add, ii_sub, ii_mul, ifLeT, ifLeF, ifLtT, ifLtF, ifEqT, ifEqF, ifNeT, ifNeF, ifIn, nixZ, ii_i64, o0, o1, isInT, isInF, tn14, tn12, tn2, tn21, tn47, tn48, tn49, tn471, tn472, Int.reduceToNat, Int.toNat_natCast, Int.reduceAdd, Int.reduceSub, Int.reduceMul, Int.reduceNeg, Nat.reduceAdd, Nat.reduceSub, Nat.reduceMul, R_meets_L31, R_meets_L31_b, R.2.1, R_veinAt R W]
      exact ⟨_, rfl, by rw [vcnt_s, if_neg q]; omega⟩
theorem R_meets (R : RH hd g) (W : HW hd) : R_meets_L18 FU (ii 0) (ii 0) g = some (mkI (fun c => decide (2 ≤ vcnt hd c (hd 4).toNat)) (cellsM hd).toNat, g) := by
  have hc := W.cells
  refine lup (fun n k (a : Int32) => R_meets_L18 n a (ii k) g) (cellsM hd).toNat (fun k a => a = mkI (fun c => decide (2 ≤ vcnt hd c (hd 4).toNat)) k) (fun x => x = some (mkI (fun c => decide (2 ≤ vcnt hd c (hd 4).toNat)) (cellsM hd).toNat, g)) ?_ ?_ (cellsM hd).toNat 0 FU (ii 0) (by omega) (by unfold FU; omega) rfl
  · rintro n a r
    subst r
    simp (disch := omega) only [Option.bind_some, if_true, if_false, not_true_eq_false, not_false_eq_true, z0, ii_add, ii_sub, ii_mul, ifLeT, ifLeF, ifLtT, ifLtF, ifEqT, ifEqF, ifNeT, ifNeF, ifIn, nixZ, ii_i64, o0, o1, isInT, isInF, tn14, tn12, tn2, tn21, tn47, tn48, tn49, tn471, tn472, Int.reduceToNat, Int.toNat_natCast, Int.reduceAdd, Int.reduceSub, Int.reduceMul, Int.reduceNeg, Nat.reduceAdd, Nat.reduceSub, Nat.reduceMul, R_meets_L18, R_meets_L18_b, R.2.2.2.2.2.1]
  · rintro n k a hk r
    subst r
    right
    have hv := vcnt_lo (hd := hd) (k : Int) (hd 4).toNat
    have hw := W.1
    by_cases q : vcnt hd k (hd 4).toNat ≤ 1
    · simp (disch := omega) only [Option.bind_some, if_true, if_false, not_true_eq_false, not_false_eq_true, z0, ii_add, ii_sub, ii_mul, ifLeT, ifLeF, ifLtT, ifLtF, ifEqT, ifEqF, ifNeT, ifNeF, ifIn, nixZ, ii_i64, o0, o1, isInT, isInF, tn14, tn12, tn2, tn21, tn47, tn48, tn49, tn471, tn472, Int.reduceToNat, Int.toNat_natCast, Int.reduceAdd, Int.reduceSub, Int.reduceMul, Int.reduceNeg, Nat.reduceAdd, Nat.reduceSub, Nat.reduceMul, R_meets_L18, R_meets_L18_b, R.2.2.2.2.2.1, R_vcnt R W]
      refine ⟨_, rfl, ?_⟩
      rw [mk_F (by simp; omega), or_0]
    · simp (disch := omega) only [Option.bind_some, if_true, if_false, not_true_eq_false, not_false_eq_true, z0, ii_add, ii_sub, ii_mul, ifLeT, ifLeF, ifLtT, ifLtF, ifEqT, ifEqF, ifNeT, ifNeF, ifIn, nixZ, ii_i64, o0, o1, isInT, isInF, tn14, tn12, tn2, tn21, tn47, tn48, tn49, tn471, tn472, Int.reduceToNat, Int.toNat_natCast, Int.reduceAdd, Int.reduceSub, Int.reduceMul, Int.reduceNeg, Nat.reduceAdd, Nat.reduceSub, Nat.reduceMul, R_meets_L18, R_meets_L18_b, R.2.2.2.2.2.1, R_vcnt R W]
      refine ⟨_, rfl, ?_⟩
      rw [mk_T (by simp; omega)]
      rfl
theorem q_meets (X : RX hd d o wr h (wI g 80 0 (ii 0))) : f_R_meets g = some (p_HF_meets h, wI g 80 0 (ii 0)) := by
  obtain ⟨E, C, M, R, D, W, V⟩ := X
  have hc := W.cells
  unfold f_R_meets p_HF_meets
  generalize wI g 80 0 (ii 0) = g at *
  by_cases q : cellsM hd = 0
  · simp (disch := omega) only [Option.bind_some, if_true, if_false, not_true_eq_false, not_false_eq_true, z0, ii_add, ii_sub, ii_mul, ifLeT, ifLeF, ifLtT, ifLtF, ifEqT, ifEqF, ifNeT, ifNeF, ifIn, nixZ, ii_i64, o0, o1, isInT, isInF, tn14, tn12, tn2, tn21, tn47, tn48, tn49, tn471, tn472, Int.reduceToNat, Int.toNat_natCast, Int.reduceAdd, Int.reduceSub, Int.reduceMul, Int.reduceNeg, Nat.reduceAdd, Nat.reduceSub, Nat.reduceMul, C_hhF E C, R.2.2.2.2.2.1]
  · have HWd := W.hw (c := 0) (by omega) (by omega)
    simp (disch := omega) only [Option.bind_some, if_true, if_false, not_true_eq_false, not_false_eq_true, z0, ii_add, ii_sub, ii_mul, ifLeT, ifLeF, ifLtT, ifLtF, ifEqT, ifEqF, ifNeT, ifNeF, ifIn, nixZ, ii_i64, o0, o1, isInT, isInF, tn14, tn12, tn2, tn21, tn47, tn48, tn49, tn471, tn472, Int.reduceToNat, Int.toNat_natCast, Int.reduceAdd, Int.reduceSub, Int.reduceMul, Int.reduceNeg, Nat.reduceAdd, Nat.reduceSub, Nat.reduceMul, C_hhT E C W, R.2.2.2.2.2.1, R_meets R HWd, E]
    congr 2
    apply tb_ext
    intro i hi
    have hm := C.2.2.2.2.2.2.2.2.2 i hi
    rw [R_has _ hi] at hm
    rw [tb_mk _ (by omega)]
    cases hb : tb (h.1 o 13) i
    · rw [hb] at hm
      simp only [Bool.and_eq_false_iff, decide_eq_false_iff_not]
      by_cases qi : (i : Int) < cellsM hd
      · right
        intro z
        exact absurd (hm.mpr ⟨qi, z⟩) (by decide)
      · left; omega
    · rw [hb] at hm
      have := hm.mp rfl
      simp only [Bool.and_eq_true, decide_eq_true_eq]
      exact ⟨by omega, this.2⟩
end Q3
