/-! reads: right, best, heap, chance -/
section Q4
variable {hd : Nat → Int} {d : DY} {o wr : Nat} {h g : AH}
theorem C_t0 (C : CH hd o h) (W : HW hd) {f : Nat} (hf : (f : Int) < hd 7) : f_Heath_trait o (ii f) (ii 0) h = some (ii (fkM hd f 0)) := C_trait C W hf (k := 0) (by omega)
theorem C_t1 (C : CH hd o h) (W : HW hd) {f : Nat} (hf : (f : Int) < hd 7) : f_Heath_trait o (ii f) (ii 1) h = some (ii (fkM hd f 1)) := C_trait C W hf (k := 1) (by omega)
theorem C_t2 (C : CH hd o h) (W : HW hd) {f : Nat} (hf : (f : Int) < hd 7) : f_Heath_trait o (ii f) (ii 2) h = some (ii (fkM hd f 2)) := C_trait C W hf (k := 2) (by omega)
theorem C_t3 (C : CH hd o h) (W : HW hd) {f : Nat} (hf : (f : Int) < hd 7) : f_Heath_trait o (ii f) (ii 3) h = some (ii (wiM hd f)) := C_trait C W hf (k := 3) (by omega)
theorem C_t4 (C : CH hd o h) (W : HW hd) {f : Nat} (hf : (f : Int) < hd 7) : f_Heath_trait o (ii f) (ii 4) h = some (ii (fkM hd f 4)) := C_trait C W hf (k := 4) (by omega)
theorem C_t5 (C : CH hd o h) (W : HW hd) {f : Nat} (hf : (f : Int) < hd 7) : f_Heath_trait o (ii f) (ii 5) h = some (ii (fkM hd f 5)) := C_trait C W hf (k := 5) (by omega)
theorem R_t0 (R : RH hd h) {f : Nat} (hf : f < 6) : f_R_told (ii f) (ii 0) h = some (ii (fkM hd f 0)) := R_told R hf (k := 0) (by omega)
theorem R_t1 (R : RH hd h) {f : Nat} (hf : f < 6) : f_R_told (ii f) (ii 1) h = some (ii (fkM hd f 1)) := R_told R hf (k := 1) (by omega)
theorem R_t2 (R : RH hd h) {f : Nat} (hf : f < 6) : f_R_told (ii f) (ii 2) h = some (ii (fkM hd f 2)) := R_told R hf (k := 2) (by omega)
theorem R_t3 (R : RH hd h) {f : Nat} (hf : f < 6) : f_R_told (ii f) (ii 3) h = some (ii (fkM hd f 3)) := R_told R hf (k := 3) (by omega)
theorem R_t4 (R : RH hd h) {f : Nat} (hf : f < 6) : f_R_told (ii f) (ii 4) h = some (ii (fkM hd f 4)) := R_told R hf (k := 4) (by omega)
theorem R_t5 (R : RH hd h) {f : Nat} (hf : f < 6) : f_R_told (ii f) (ii 5) h = some (ii (fkM hd f 5)) := R_told R hf (k := 5) (by omega)
theorem C_fkI {p : Nat} (M : MR hd d wr (mvO h p)) (V : DW hd d) (W : HS hd) {i j : Nat} (hi : i < bL d) (e : j = bL d - 1 - i) : f_Moor_forkOn p (ii i) h = some (ii (vI (d (47 + 3 * j)))) := by rw [C_forkOn M V W hi, ← vI_ii, e]
theorem C_ceI {p : Nat} (M : MR hd d wr (mvO h p)) (V : DW hd d) (W : HS hd) {i j : Nat} (hi : i < bL d) (e : j = bL d - 1 - i) : f_Moor_cellOn p (ii i) h = some (ii (vI (d (48 + 3 * j)))) := by rw [C_cellOn M V W hi, ← vI_ii, e]
theorem C_twI {p : Nat} (M : MR hd d wr (mvO h p)) (V : DW hd d) (W : HS hd) {i j : Nat} (hi : i < bL d) (e : j = bL d - 1 - i) : f_Moor_twitchOn p (ii i) h = some (ii (vI (d (49 + 3 * j)))) := by rw [C_twitchOn M V W hi, ← vI_ii, e]
/-- what the j-th of the book says of a fork -/
def trT (hd : Nat → Int) (d : DY) (f j : Nat) : Int := if vI (d (47 + 3 * j)) = f ∧ 0 < vI (d (49 + 3 * j)) then (if watM hd (vI (d (48 + 3 * j))) (vI (d 45)) ≠ -1 ∧ watM hd (vI (d (48 + 3 * j))) (vI (d 45)) ≤ fkM hd f 1 then 1 else -1) else 0
def truM (hd : Nat → Int) (d : DY) (f : Nat) : Int := sumN (trT hd d f) (bL d)
theorem truM_lo (V : DW hd d) (f : Nat) : -60 ≤ truM hd d f ∧ truM hd d f ≤ 60 := by
  have h1 := sumN_lo (f := trT hd d f) (a := -1) (b := 1) (n := bL d) (fun i hi => by unfold trT; split; split <;> omega; omega)
  have := V.bl.2
  unfold truM
  omega
theorem C_truth (E : h.2.2 0 13 = o) (C : CH hd o h) (M : MR hd d wr (mvO h 13)) (V : DW hd d) (W : HW hd) {f : Nat} (hf : (f : Int) < hd 7) : f_HF_truthOf (ii f) h = some (ii (truM hd d f)) := by
  have hb := V.bl
  have hs := V.sea
  have hw := W.1
  have hcl := W.cells
  have hfk := W.2.2.2.2 f hf
  unfold f_HF_truthOf truM
  rw [← sumN_rev]
  refine lup (fun n k (a : Int) => HF_truthOf_L4 n (ii f) (ii a) (ii k) h) (bL d) (fun k a => a = sumN (fun i => trT hd d f (bL d - 1 - i)) k) (fun x => x = some (ii (sumN (fun i => trT hd d f (bL d - 1 - i)) (bL d)))) ?_ ?_ (bL d) 0 FU 0 (by omega) (by unfold FU; omega) rfl
  · rintro n a r
    subst r
    simp (disch := omega) only [Option.bind_some, if_true, if_false, not_true_eq_false, not_false_eq_true, z0, ii_add, ii_sub, ii_mul, ifLeT, ifLeF, ifLtT, ifLtF, ifEqT, ifEqF, ifNeT, ifNeF, ifIn, nixZ, ii_i64, o0, o1, isInT, isInF, tn14, tn12, tn2, tn21, tn47, tn48, tn49, tn471, tn472, Int.reduceToNat, Int.toNat_natCast, Int.reduceAdd, Int.reduceSub, Int.reduceMul, Int.reduceNeg, Nat.reduceAdd, Nat.reduceSub, Nat.reduceMul, HF_truthOf_L4, HF_truthOf_L4_b, C_bookLength M]
  · rintro n k a hk r
    subst r
    right
    obtain ⟨j, hj⟩ : ∃ j, j = bL d - 1 - k := ⟨_, rfl⟩
    have hbk := V.bk (Or.inr W) (j := j) (by omega)
    have et : sumN (fun i => trT hd d f (bL d - 1 - i)) (k + 1) = sumN (fun i => trT hd d f (bL d - 1 - i)) k + trT hd d f j := by rw [sumN, ← hj]
    have hl := watM_lo W (vI (d (48 + 3 * j))) (vI (d 45))
    rw [et]
    unfold trT at *
    by_cases q1 : vI (d (47 + 3 * j)) = f
    · by_cases q2 : 0 < vI (d (49 + 3 * j))
      · rw [if_pos ⟨q1, q2⟩]
        by_cases q3 : watM hd (vI (d (48 + 3 * j))) (vI (d 45)) = -1
        · rw [if_neg (fun z => z.1 q3)]
          simp (disch := omega) only [Option.bind_some, if_true, if_false, not_true_eq_false, not_false_eq_true, z0, ii_add, ii_sub, ii_mul, ifLeT, ifLeF, ifLtT, ifLtF, ifEqT, ifEqF, ifNeT, ifNeF, ifIn, nixZ, ii_i64, o0, o1, isInT, isInF, tn14, tn12, tn2, tn21, tn47, tn48, tn49, tn471, tn472, Int.reduceToNat, Int.toNat_natCast, Int.reduceAdd, Int.reduceSub, Int.reduceMul, Int.reduceNeg, Nat.reduceAdd, Nat.reduceSub, Nat.reduceMul, HF_truthOf_L4, HF_truthOf_L4_b, C_bookLength M, C_fkI M V (Or.inr W) hk hj, C_ceI M V (Or.inr W) hk hj, C_twI M V (Or.inr W) hk hj, E, M_sea M, C_waterIn C W]
          exact ⟨_, rfl, rfl⟩
        · by_cases q4 : watM hd (vI (d (48 + 3 * j))) (vI (d 45)) ≤ fkM hd f 1
          · rw [if_pos ⟨q3, q4⟩]
            simp (disch := omega) only [Option.bind_some, if_true, if_false, not_true_eq_false, not_false_eq_true, z0, ii_add, ii_sub, ii_mul, ifLeT, ifLeF, ifLtT, ifLtF, ifEqT, ifEqF, ifNeT, ifNeF, ifIn, nixZ, ii_i64, o0, o1, isInT, isInF, tn14, tn12, tn2, tn21, tn47, tn48, tn49, tn471, tn472, Int.reduceToNat, Int.toNat_natCast, Int.reduceAdd, Int.reduceSub, Int.reduceMul, Int.reduceNeg, Nat.reduceAdd, Nat.reduceSub, Nat.reduceMul, HF_truthOf_L4, HF_truthOf_L4_b, C_bookLength M, C_fkI M V (Or.inr W) hk hj, C_ceI M V (Or.inr W) hk hj, C_twI M V (Or.inr W) hk hj, E, M_sea M, C_waterIn C W, C_t1 C W hf]
            exact ⟨_, rfl, rfl⟩
          · rw [if_neg (fun z => q4 z.2)]
            simp (disch := omega) only [Option.bind_some, if_true, if_false, not_true_eq_false, not_false_eq_true, z0, ii_add, ii_sub, ii_mul, ifLeT, ifLeF, ifLtT, ifLtF, ifEqT, ifEqF, ifNeT, ifNeF, ifIn, nixZ, ii_i64, o0, o1, isInT, isInF, tn14, tn12, tn2, tn21, tn47, tn48, tn49, tn471, tn472, Int.reduceToNat, Int.toNat_natCast, Int.reduceAdd, Int.reduceSub, Int.reduceMul, Int.reduceNeg, Nat.reduceAdd, Nat.reduceSub, Nat.reduceMul, HF_truthOf_L4, HF_truthOf_L4_b, C_bookLength M, C_fkI M V (Or.inr W) hk hj, C_ceI M V (Or.inr W) hk hj, C_twI M V (Or.inr W) hk hj, E, M_sea M, C_waterIn C W, C_t1 C W hf]
            exact ⟨_, rfl, rfl⟩
      · rw [if_neg (fun z => q2 z.2)]
        simp (disch := omega) only [Option.bind_some, if_true, if_false, not_true_eq_false, not_false_eq_true, z0, ii_add, ii_sub, ii_mul, ifLeT, ifLeF, ifLtT, ifLtF, ifEqT, ifEqF, ifNeT, ifNeF, ifIn, nixZ, ii_i64, o0, o1, isInT, isInF, tn14, tn12, tn2, tn21, tn47, tn48, tn49, tn471, tn472, Int.reduceToNat, Int.toNat_natCast, Int.reduceAdd, Int.reduceSub, Int.reduceMul, Int.reduceNeg, Nat.reduceAdd, Nat.reduceSub, Nat.reduceMul, HF_truthOf_L4, HF_truthOf_L4_b, C_bookLength M, C_fkI M V (Or.inr W) hk hj, C_twI M V (Or.inr W) hk hj]
        exact ⟨_, rfl, by simp⟩
    · rw [if_neg (fun z => q1 z.1)]
      simp (disch := omega) only [Option.bind_some, if_true, if_false, not_true_eq_false, not_false_eq_true, z0, ii_add, ii_sub, ii_mul, ifLeT, ifLeF, ifLtT, ifLtF, ifEqT, ifEqF, ifNeT, ifNeF, ifIn, nixZ, ii_i64, o0, o1, isInT, isInF, tn14, tn12, tn2, tn21, tn47, tn48, tn49, tn471, tn472, Int.reduceToNat, Int.toNat_natCast, Int.reduceAdd, Int.reduceSub, Int.reduceMul, Int.reduceNeg, Nat.reduceAdd, Nat.reduceSub, Nat.reduceMul, HF_truthOf_L4, HF_truthOf_L4_b, C_bookLength M, C_fkI M V (Or.inr W) hk hj]
      exact ⟨_, rfl, by simp⟩
theorem R_truth (R : RH hd g) (D : RDy d g 97) (V : DW hd d) (W : HW hd) {f : Nat} (hf : (f : Int) < hd 7) : f_R_rightOf (ii f) g = some (ii (truM hd d f)) := by
  have hb := V.bl
  have hs := V.sea
  have hw := W.1
  have hcl := W.cells
  have hfk := W.2.2.2.2 f hf
  have e46 := D.i (j := 46) (by omega)
  have e45 := D.i (j := 45) (by omega)
  rw [hb.1] at e46
  unfold f_R_rightOf truM
  refine lup (fun n k (a : Int) => R_rightOf_L4 n (ii f) (ii a) (ii k) g) (bL d) (fun k a => a = sumN (trT hd d f) k) (fun x => x = some (ii (sumN (trT hd d f) (bL d)))) ?_ ?_ (bL d) 0 FU 0 (by omega) (by unfold FU; omega) rfl
  · rintro n a r
    subst r
    simp (disch := omega) only [Option.bind_some, if_true, if_false, not_true_eq_false, not_false_eq_true, z0, ii_add, ii_sub, ii_mul, ifLeT, ifLeF, ifLtT, ifLtF, ifEqT, ifEqF, ifNeT, ifNeF, ifIn, nixZ, ii_i64, o0, o1, isInT, isInF, tn14, tn12, tn2, tn21, tn47, tn48, tn49, tn471, tn472, Int.reduceToNat, Int.toNat_natCast, Int.reduceAdd, Int.reduceSub, Int.reduceMul, Int.reduceNeg, Nat.reduceAdd, Nat.reduceSub, Nat.reduceMul, R_rightOf_L4, R_rightOf_L4_b, e46]
  · rintro n k a hk r
    subst r
    right
    have hbk := V.bk (Or.inr W) (j := k) (by omega)
    have e1 := D.i (j := 47 + 3 * k) (by omega)
    have e2 := D.i (j := 48 + 3 * k) (by omega)
    have e3 := D.i (j := 49 + 3 * k) (by omega)
    have et : sumN (trT hd d f) (k + 1) = sumN (trT hd d f) k + trT hd d f k := by rw [sumN]
    have hl := watM_lo W (vI (d (48 + 3 * k))) (vI (d 45))
    rw [et]
    have ett : trT hd d f k = if vI (d (47 + 3 * k)) = f ∧ 0 < vI (d (49 + 3 * k)) then (if watM hd (vI (d (48 + 3 * k))) (vI (d 45)) ≠ -1 ∧ watM hd (vI (d (48 + 3 * k))) (vI (d 45)) ≤ fkM hd f 1 then 1 else -1) else 0 := rfl
    rw [ett]
    by_cases q1 : vI (d (47 + 3 * k)) = f
    · by_cases q2 : 0 < vI (d (49 + 3 * k))
      · rw [if_pos ⟨q1, q2⟩]
        by_cases q3 : watM hd (vI (d (48 + 3 * k))) (vI (d 45)) = -1
        · rw [if_neg (fun z => z.1 q3)]
          simp (disch := omega) only [Option.bind_some, if_true, if_false, not_true_eq_false, not_false_eq_true, z0, ii_add, ii_sub, ii_mul, ifLeT, ifLeF, ifLtT, ifLtF, ifEqT, ifEqF, ifNeT, ifNeF, ifIn, nixZ, ii_i64, o0, o1, isInT, isInF, tn14, tn12, tn2, tn21, tn47, tn48, tn49, tn471, tn472, Int.reduceToNat, Int.toNat_natCast, Int.reduceAdd, Int.reduceSub, Int.reduceMul, Int.reduceNeg, Nat.reduceAdd, Nat.reduceSub, Nat.reduceMul, R_rightOf_L4, R_rightOf_L4_b, e46, e1, e2, e3, e45, R_depthOf R W]
          exact ⟨_, rfl, rfl⟩
        · by_cases q4 : watM hd (vI (d (48 + 3 * k))) (vI (d 45)) ≤ fkM hd f 1
          · rw [if_pos ⟨q3, q4⟩]
            simp (disch := omega) only [Option.bind_some, if_true, if_false, not_true_eq_false, not_false_eq_true, z0, ii_add, ii_sub, ii_mul, ifLeT, ifLeF, ifLtT, ifLtF, ifEqT, ifEqF, ifNeT, ifNeF, ifIn, nixZ, ii_i64, o0, o1, isInT, isInF, tn14, tn12, tn2, tn21, tn47, tn48, tn49, tn471, tn472, Int.reduceToNat, Int.toNat_natCast, Int.reduceAdd, Int.reduceSub, Int.reduceMul, Int.reduceNeg, Nat.reduceAdd, Nat.reduceSub, Nat.reduceMul, R_rightOf_L4, R_rightOf_L4_b, e46, e1, e2, e3, e45, R_depthOf R W, R_t1 R]
            exact ⟨_, rfl, rfl⟩
          · rw [if_neg (fun z => q4 z.2)]
            simp (disch := omega) only [Option.bind_some, if_true, if_false, not_true_eq_false, not_false_eq_true, z0, ii_add, ii_sub, ii_mul, ifLeT, ifLeF, ifLtT, ifLtF, ifEqT, ifEqF, ifNeT, ifNeF, ifIn, nixZ, ii_i64, o0, o1, isInT, isInF, tn14, tn12, tn2, tn21, tn47, tn48, tn49, tn471, tn472, Int.reduceToNat, Int.toNat_natCast, Int.reduceAdd, Int.reduceSub, Int.reduceMul, Int.reduceNeg, Nat.reduceAdd, Nat.reduceSub, Nat.reduceMul, R_rightOf_L4, R_rightOf_L4_b, e46, e1, e2, e3, e45, R_depthOf R W, R_t1 R]
            exact ⟨_, rfl, rfl⟩
      · rw [if_neg (fun z => q2 z.2)]
        simp (disch := omega) only [Option.bind_some, if_true, if_false, not_true_eq_false, not_false_eq_true, z0, ii_add, ii_sub, ii_mul, ifLeT, ifLeF, ifLtT, ifLtF, ifEqT, ifEqF, ifNeT, ifNeF, ifIn, nixZ, ii_i64, o0, o1, isInT, isInF, tn14, tn12, tn2, tn21, tn47, tn48, tn49, tn471, tn472, Int.reduceToNat, Int.toNat_natCast, Int.reduceAdd, Int.reduceSub, Int.reduceMul, Int.reduceNeg, Nat.reduceAdd, Nat.reduceSub, Nat.reduceMul, R_rightOf_L4, R_rightOf_L4_b, e46, e1, e2, e3]
        exact ⟨_, rfl, by simp⟩
    · rw [if_neg (fun z => q1 z.1)]
      simp (disch := omega) only [Option.bind_some, if_true, if_false, not_true_eq_false, not_false_eq_true, z0, ii_add, ii_sub, ii_mul, ifLeT, ifLeF, ifLtT, ifLtF, ifEqT, ifEqF, ifNeT, ifNeF, ifIn, nixZ, ii_i64, o0, o1, isInT, isInF, tn14, tn12, tn2, tn21, tn47, tn48, tn49, tn471, tn472, Int.reduceToNat, Int.toNat_natCast, Int.reduceAdd, Int.reduceSub, Int.reduceMul, Int.reduceNeg, Nat.reduceAdd, Nat.reduceSub, Nat.reduceMul, R_rightOf_L4, R_rightOf_L4_b, e46, e1, e2, e3]
      exact ⟨_, rfl, by simp⟩
theorem q_right (X : RX hd d o wr h (wI g 80 0 (ii 0))) {f : Int} (c0 : -2147483648 ≤ f) (c1 : f ≤ 2147483647) : ∃ x, f_HF_right (ii f) h = some x ∧ f_R_right (ii f) g = some (x, wI g 80 0 (ii 0)) := by
  obtain ⟨E, C, M, R, D, W, V⟩ := X
  unfold f_R_right f_HF_right
  generalize wI g 80 0 (ii 0) = g at *
  rw [E, C_isFork C W c0 c1, R_isFork R W c0 c1]
  by_cases q : 0 ≤ f ∧ f < hd 7
  · rw [if_pos q]
    have HWd := W.hf q.1 q.2
    obtain ⟨u, rfl⟩ := Int.eq_ofNat_of_zero_le q.1
    simp (disch := omega) only [Option.bind_some, if_true, if_false, not_true_eq_false, not_false_eq_true, z0, ii_add, ii_sub, ii_mul, ifLeT, ifLeF, ifLtT, ifLtF, ifEqT, ifEqF, ifNeT, ifNeF, ifIn, nixZ, ii_i64, o0, o1, isInT, isInF, tn14, tn12, tn2, tn21, tn47, tn48, tn49, tn471, tn472, Int.reduceToNat, Int.toNat_natCast, Int.reduceAdd, Int.reduceSub, Int.reduceMul, Int.reduceNeg, Nat.reduceAdd, Nat.reduceSub, Nat.reduceMul, C_truth E C M V HWd q.2, R_truth R D V HWd q.2]
    exact ⟨_, rfl, rfl⟩
  · rw [if_neg q]
    simp (disch := omega) only [Option.bind_some, if_true, if_false, not_true_eq_false, not_false_eq_true, z0, ii_add, ii_sub, ii_mul, ifLeT, ifLeF, ifLtT, ifLtF, ifEqT, ifEqF, ifNeT, ifNeF, ifIn, nixZ, ii_i64, o0, o1, isInT, isInF, tn14, tn12, tn2, tn21, tn47, tn48, tn49, tn471, tn472, Int.reduceToNat, Int.toNat_natCast, Int.reduceAdd, Int.reduceSub, Int.reduceMul, Int.reduceNeg, Nat.reduceAdd, Nat.reduceSub, Nat.reduceMul]
    exact ⟨_, rfl, rfl⟩
theorem q_best (X : RX hd d o wr h (wI g 80 0 (ii 0))) : ∃ x, f_HF_best h = some x ∧ f_R_best g = some (x, wI g 80 0 (ii 0)) := by
  obtain ⟨E, C, M, R, D, W, V⟩ := X
  have hc := W.cells
  unfold f_R_best f_HF_best
  generalize wI g 80 0 (ii 0) = g at *
  by_cases q : cellsM hd = 0
  · simp (disch := omega) only [Option.bind_some, if_true, if_false, not_true_eq_false, not_false_eq_true, z0, ii_add, ii_sub, ii_mul, ifLeT, ifLeF, ifLtT, ifLtF, ifEqT, ifEqF, ifNeT, ifNeF, ifIn, nixZ, ii_i64, o0, o1, isInT, isInF, tn14, tn12, tn2, tn21, tn47, tn48, tn49, tn471, tn472, Int.reduceToNat, Int.toNat_natCast, Int.reduceAdd, Int.reduceSub, Int.reduceMul, Int.reduceNeg, Nat.reduceAdd, Nat.reduceSub, Nat.reduceMul, C_hhF E C, R.2.2.2.2.2.1]
    exact ⟨_, rfl, rfl⟩
  · have HWd := W.hw (c := 0) (by omega) (by omega)
    have hw := HWd.1
    simp (disch := omega) only [Option.bind_some, if_true, if_false, not_true_eq_false, not_false_eq_true, z0, ii_add, ii_sub, ii_mul, ifLeT, ifLeF, ifLtT, ifLtF, ifEqT, ifEqF, ifNeT, ifNeF, ifIn, nixZ, ii_i64, o0, o1, isInT, isInF, tn14, tn12, tn2, tn21, tn47, tn48, tn49, tn471, tn472, Int.reduceToNat, Int.toNat_natCast, Int.reduceAdd, Int.reduceSub, Int.reduceMul, Int.reduceNeg, Nat.reduceAdd, Nat.reduceSub, Nat.reduceMul, C_hhT E C W, R.2.2.2.2.2.1]
    refine lrel (fun n k (a : Nat) => HF_best_L13 n (ii a) (ii k) h) (fun n k (b : Nat) => R_best_L18 n (ii b) (ii k) g) (hd 7).toNat (fun k a b => a = b ∧ (a : Int) < hd 7) (fun x y => ∃ z, x = some z ∧ y = some (z, g)) ?_ ?_ ((hd 7).toNat - 1) 1 FU FU 0 0 (by omega) (by unfold FU; omega) (by unfold FU; omega) ⟨rfl, by omega⟩
    · rintro n m a b ⟨r1, r2⟩
      subst r1
      simp (disch := omega) only [Option.bind_some, if_true, if_false, not_true_eq_false, not_false_eq_true, z0, ii_add, ii_sub, ii_mul, ifLeT, ifLeF, ifLtT, ifLtF, ifEqT, ifEqF, ifNeT, ifNeF, ifIn, nixZ, ii_i64, o0, o1, isInT, isInF, tn14, tn12, tn2, tn21, tn47, tn48, tn49, tn471, tn472, Int.reduceToNat, Int.toNat_natCast, Int.reduceAdd, Int.reduceSub, Int.reduceMul, Int.reduceNeg, Nat.reduceAdd, Nat.reduceSub, Nat.reduceMul, HF_best_L13, HF_best_L13_b, R_best_L18, R_best_L18_b, E, C.2.2.2.2.2.1, R.2.2.2.2.1]
      exact ⟨_, rfl, rfl⟩
    · rintro n m k a b hk ⟨r1, r2⟩
      subst r1
      right
      have t1 := truM_lo (hd := hd) V a
      have t2 := truM_lo (hd := hd) V k
      by_cases q1 : truM hd d k ≤ truM hd d a
      · simp (disch := omega) only [Option.bind_some, if_true, if_false, not_true_eq_false, not_false_eq_true, z0, ii_add, ii_sub, ii_mul, ifLeT, ifLeF, ifLtT, ifLtF, ifEqT, ifEqF, ifNeT, ifNeF, ifIn, nixZ, ii_i64, o0, o1, isInT, isInF, tn14, tn12, tn2, tn21, tn47, tn48, tn49, tn471, tn472, Int.reduceToNat, Int.toNat_natCast, Int.reduceAdd, Int.reduceSub, Int.reduceMul, Int.reduceNeg, Nat.reduceAdd, Nat.reduceSub, Nat.reduceMul, HF_best_L13, HF_best_L13_b, R_best_L18, R_best_L18_b, E, C.2.2.2.2.2.1, R.2.2.2.2.1, C_truth E C M V HWd, R_truth R D V HWd]
        exact ⟨a, a, rfl, rfl, rfl, by omega⟩
      · simp (disch := omega) only [Option.bind_some, if_true, if_false, not_true_eq_false, not_false_eq_true, z0, ii_add, ii_sub, ii_mul, ifLeT, ifLeF, ifLtT, ifLtF, ifEqT, ifEqF, ifNeT, ifNeF, ifIn, nixZ, ii_i64, o0, o1, isInT, isInF, tn14, tn12, tn2, tn21, tn47, tn48, tn49, tn471, tn472, Int.reduceToNat, Int.toNat_natCast, Int.reduceAdd, Int.reduceSub, Int.reduceMul, Int.reduceNeg, Nat.reduceAdd, Nat.reduceSub, Nat.reduceMul, HF_best_L13, HF_best_L13_b, R_best_L18, R_best_L18_b, E, C.2.2.2.2.2.1, R.2.2.2.2.1, C_truth E C M V HWd, R_truth R D V HWd]
        exact ⟨k, k, rfl, rfl, rfl, by omega⟩
def twT (d : DY) (c j : Nat) : Int := if vI (d (48 + 3 * j)) = c ∧ 0 < vI (d (49 + 3 * j)) then 1 else 0
def twM (d : DY) (c : Nat) : Int := sumN (twT d c) (bL d)
theorem twM_lo (V : DW hd d) (f : Nat) : 0 ≤ twM d f ∧ twM d f ≤ 60 := by
  have h1 := sumN_lo (f := twT d f) (a := 0) (b := 1) (n := bL d) (fun i hi => by unfold twT; split <;> omega)
  have := V.bl.2
  unfold twM
  omega
theorem C_twM (M : MR hd d wr (mvO h 13)) (V : DW hd d) (W : HW hd) {c : Nat} (hc : c < 30) : f_Moor_twitchesIn 13 (ii c) h = some (ii (twM d c)) := by
  have hb := V.bl
  have hcl := W.cells
  unfold f_Moor_twitchesIn twM
  rw [← sumN_rev]
  refine lup (fun n k (a : Int) => Moor_twitchesIn_L4 n 13 (ii c) (ii a) (ii k) h) (bL d) (fun k a => a = sumN (fun i => twT d c (bL d - 1 - i)) k) (fun x => x = some (ii (sumN (fun i => twT d c (bL d - 1 - i)) (bL d)))) ?_ ?_ (bL d) 0 FU 0 (by omega) (by unfold FU; omega) rfl
  · rintro n a r
    subst r
    simp (disch := omega) only [Option.bind_some, if_true, if_false, not_true_eq_false, not_false_eq_true, z0, ii_add, ii_sub, ii_mul, ifLeT, ifLeF, ifLtT, ifLtF, ifEqT, ifEqF, ifNeT, ifNeF, ifIn, nixZ, ii_i64, o0, o1, isInT, isInF, tn14, tn12, tn2, tn21, tn47, tn48, tn49, tn471, tn472, Int.reduceToNat, Int.toNat_natCast, Int.reduceAdd, Int.reduceSub, Int.reduceMul, Int.reduceNeg, Nat.reduceAdd, Nat.reduceSub, Nat.reduceMul, Moor_twitchesIn_L4, Moor_twitchesIn_L4_b, C_bookLength M]
  · rintro n k a hk r
    subst r
    right
    obtain ⟨j, hj⟩ : ∃ j, j = bL d - 1 - k := ⟨_, rfl⟩
    have hbk := V.bk (Or.inr W) (j := j) (by omega)
    have et : sumN (fun i => twT d c (bL d - 1 - i)) (k + 1) = sumN (fun i => twT d c (bL d - 1 - i)) k + twT d c j := by rw [sumN, ← hj]
    rw [et]
    have ett : twT d c j = if vI (d (48 + 3 * j)) = c ∧ 0 < vI (d (49 + 3 * j)) then 1 else 0 := rfl
    rw [ett]
    by_cases q1 : vI (d (48 + 3 * j)) = c
    · by_cases q2 : 0 < vI (d (49 + 3 * j))
      · rw [if_pos ⟨q1, q2⟩]
        simp (disch := omega) only [Option.bind_some, if_true, if_false, not_true_eq_false, not_false_eq_true, z0, ii_add, ii_sub, ii_mul, ifLeT, ifLeF, ifLtT, ifLtF, ifEqT, ifEqF, ifNeT, ifNeF, ifIn, nixZ, ii_i64, o0, o1, isInT, isInF, tn14, tn12, tn2, tn21, tn47, tn48, tn49, tn471, tn472, Int.reduceToNat, Int.toNat_natCast, Int.reduceAdd, Int.reduceSub, Int.reduceMul, Int.reduceNeg, Nat.reduceAdd, Nat.reduceSub, Nat.reduceMul, Moor_twitchesIn_L4, Moor_twitchesIn_L4_b, C_bookLength M, C_ceI M V (Or.inr W) hk hj, C_twI M V (Or.inr W) hk hj]
        exact ⟨_, rfl, rfl⟩
      · rw [if_neg (fun z => q2 z.2)]
        simp (disch := omega) only [Option.bind_some, if_true, if_false, not_true_eq_false, not_false_eq_true, z0, ii_add, ii_sub, ii_mul, ifLeT, ifLeF, ifLtT, ifLtF, ifEqT, ifEqF, ifNeT, ifNeF, ifIn, nixZ, ii_i64, o0, o1, isInT, isInF, tn14, tn12, tn2, tn21, tn47, tn48, tn49, tn471, tn472, Int.reduceToNat, Int.toNat_natCast, Int.reduceAdd, Int.reduceSub, Int.reduceMul, Int.reduceNeg, Nat.reduceAdd, Nat.reduceSub, Nat.reduceMul, Moor_twitchesIn_L4, Moor_twitchesIn_L4_b, C_bookLength M, C_ceI M V (Or.inr W) hk hj, C_twI M V (Or.inr W) hk hj]
        exact ⟨_, rfl, rfl⟩
    · rw [if_neg (fun z => q1 z.1)]
      simp (disch := omega) only [Option.bind_some, if_true, if_false, not_true_eq_false, not_false_eq_true, z0, ii_add, ii_sub, ii_mul, ifLeT, ifLeF, ifLtT, ifLtF, ifEqT, ifEqF, ifNeT, ifNeF, ifIn, nixZ, ii_i64, o0, o1, isInT, isInF, tn14, tn12, tn2, tn21, tn47, tn48, tn49, tn471, tn472, Int.reduceToNat, Int.toNat_natCast, Int.reduceAdd, Int.reduceSub, Int.reduceMul, Int.reduceNeg, Nat.reduceAdd, Nat.reduceSub, Nat.reduceMul, Moor_twitchesIn_L4, Moor_twitchesIn_L4_b, C_bookLength M, C_ceI M V (Or.inr W) hk hj]
      exact ⟨_, rfl, rfl⟩
theorem R_twM (D : RDy d g 97) (V : DW hd d) (W : HW hd) {c : Nat} (hc : c < 30) {v1 v2 : Int32} : R_heap_L25 FU v1 v2 (ii c) (ii 0) (ii 0) g = some (ii (twM d c)) := by
  have hb := V.bl
  have hcl := W.cells
  have e46 := D.i (j := 46) (by omega)
  rw [hb.1] at e46
  unfold twM
  refine lup (fun n k (a : Int) => R_heap_L25 n v1 v2 (ii c) (ii a) (ii k) g) (bL d) (fun k a => a = sumN (twT d c) k) (fun x => x = some (ii (sumN (twT d c) (bL d)))) ?_ ?_ (bL d) 0 FU 0 (by omega) (by unfold FU; omega) rfl
  · rintro n a r
    subst r
    simp (disch := omega) only [Option.bind_some, if_true, if_false, not_true_eq_false, not_false_eq_true, z0, ii_add, ii_sub, ii_mul, ifLeT, ifLeF, ifLtT, ifLtF, ifEqT, ifEqF, ifNeT, ifNeF, ifIn, nixZ, ii_i64, o0, o1, isInT, isInF, tn14, tn12, tn2, tn21, tn47, tn48, tn49, tn471, tn472, Int.reduceToNat, Int.toNat_natCast, Int.reduceAdd, Int.reduceSub, Int.reduceMul, Int.reduceNeg, Nat.reduceAdd, Nat.reduceSub, Nat.reduceMul, R_heap_L25, R_heap_L25_b, e46]
  · rintro n k a hk r
    subst r
    right
    have hbk := V.bk (Or.inr W) (j := k) (by omega)
    have e2 := D.i (j := 48 + 3 * k) (by omega)
    have e3 := D.i (j := 49 + 3 * k) (by omega)
    have et : sumN (twT d c) (k + 1) = sumN (twT d c) k + twT d c k := by rw [sumN]
    rw [et]
    have ett : twT d c k = if vI (d (48 + 3 * k)) = c ∧ 0 < vI (d (49 + 3 * k)) then 1 else 0 := rfl
    rw [ett]
    by_cases q1 : vI (d (48 + 3 * k)) = c
    · by_cases q2 : 0 < vI (d (49 + 3 * k))
      · rw [if_pos ⟨q1, q2⟩]
        simp (disch := omega) only [Option.bind_some, if_true, if_false, not_true_eq_false, not_false_eq_true, z0, ii_add, ii_sub, ii_mul, ifLeT, ifLeF, ifLtT, ifLtF, ifEqT, ifEqF, ifNeT, ifNeF, ifIn, nixZ, ii_i64, o0, o1, isInT, isInF, tn14, tn12, tn2, tn21, tn47, tn48, tn49, tn471, tn472, Int.reduceToNat, Int.toNat_natCast, Int.reduceAdd, Int.reduceSub, Int.reduceMul, Int.reduceNeg, Nat.reduceAdd, Nat.reduceSub, Nat.reduceMul, R_heap_L25, R_heap_L25_b, e46, e2, e3]
        exact ⟨_, rfl, rfl⟩
      · rw [if_neg (fun z => q2 z.2)]
        simp (disch := omega) only [Option.bind_some, if_true, if_false, not_true_eq_false, not_false_eq_true, z0, ii_add, ii_sub, ii_mul, ifLeT, ifLeF, ifLtT, ifLtF, ifEqT, ifEqF, ifNeT, ifNeF, ifIn, nixZ, ii_i64, o0, o1, isInT, isInF, tn14, tn12, tn2, tn21, tn47, tn48, tn49, tn471, tn472, Int.reduceToNat, Int.toNat_natCast, Int.reduceAdd, Int.reduceSub, Int.reduceMul, Int.reduceNeg, Nat.reduceAdd, Nat.reduceSub, Nat.reduceMul, R_heap_L25, R_heap_L25_b, e46, e2, e3]
        exact ⟨_, rfl, rfl⟩
    · rw [if_neg (fun z => q1 z.1)]
      simp (disch := omega) only [Option.bind_some, if_true, if_false, not_true_eq_false, not_false_eq_true, z0, ii_add, ii_sub, ii_mul, ifLeT, ifLeF, ifLtT, ifLtF, ifEqT, ifEqF, ifNeT, ifNeF, ifIn, nixZ, ii_i64, o0, o1, isInT, isInF, tn14, tn12, tn2, tn21, tn47, tn48, tn49, tn471, tn472, Int.reduceToNat, Int.toNat_natCast, Int.reduceAdd, Int.reduceSub, Int.reduceMul, Int.reduceNeg, Nat.reduceAdd, Nat.reduceSub, Nat.reduceMul, R_heap_L25, R_heap_L25_b, e46, e2, e3]
      exact ⟨_, rfl, rfl⟩
theorem q_heap (X : RX hd d o wr h (wI g 80 0 (ii 0))) : ∃ x, f_HF_heap h = some x ∧ f_R_heap g = some (x, wI g 80 0 (ii 0)) := by
  obtain ⟨E, C, M, R, D, W, V⟩ := X
  have hc := W.cells
  unfold f_R_heap f_HF_heap
  generalize wI g 80 0 (ii 0) = g at *
  refine lrel (fun n k (a : Int × Int) => HF_heap_L6 n (ii a.1) (ii a.2) (ii k) h) (fun n k (b : Int × Int) => R_heap_L11 n (ii b.1) (ii b.2) (ii k) g) (cellsM hd).toNat (fun k a b => a = b ∧ 0 ≤ a.2 ∧ a.2 ≤ 60) (fun x y => ∃ z, x = some z ∧ y = some (z, g)) ?_ ?_ (cellsM hd).toNat 0 FU FU (-1, 0) (-1, 0) (by omega) (by unfold FU; omega) (by unfold FU; omega) ⟨rfl, by simp only; omega, by simp only; omega⟩
  · rintro n m a b ⟨r1, r2⟩
    subst r1
    simp (disch := omega) only [Option.bind_some, if_true, if_false, not_true_eq_false, not_false_eq_true, z0, ii_add, ii_sub, ii_mul, ifLeT, ifLeF, ifLtT, ifLtF, ifEqT, ifEqF, ifNeT, ifNeF, ifIn, nixZ, ii_i64, o0, o1, isInT, isInF, tn14, tn12, tn2, tn21, tn47, tn48, tn49, tn471, tn472, Int.reduceToNat, Int.toNat_natCast, Int.reduceAdd, Int.reduceSub, Int.reduceMul, Int.reduceNeg, Nat.reduceAdd, Nat.reduceSub, Nat.reduceMul, HF_heap_L6, HF_heap_L6_b, R_heap_L11, R_heap_L11_b, E, C.2.2.2.2.1, R.2.2.2.2.2.1]
    exact ⟨_, rfl, rfl⟩
  · rintro n m k ⟨a1, a2⟩ b hk ⟨r1, r2, r3⟩
    subst r1
    simp only at r2 r3
    right
    have HWd := W.hw (c := k) (by omega) (by omega)
    have t2 := twM_lo (hd := hd) V k
    by_cases q1 : twM d k ≤ a2
    · simp (disch := omega) only [Option.bind_some, if_true, if_false, not_true_eq_false, not_false_eq_true, z0, ii_add, ii_sub, ii_mul, ifLeT, ifLeF, ifLtT, ifLtF, ifEqT, ifEqF, ifNeT, ifNeF, ifIn, nixZ, ii_i64, o0, o1, isInT, isInF, tn14, tn12, tn2, tn21, tn47, tn48, tn49, tn471, tn472, Int.reduceToNat, Int.toNat_natCast, Int.reduceAdd, Int.reduceSub, Int.reduceMul, Int.reduceNeg, Nat.reduceAdd, Nat.reduceSub, Nat.reduceMul, HF_heap_L6, HF_heap_L6_b, R_heap_L11, R_heap_L11_b, E, C.2.2.2.2.1, R.2.2.2.2.2.1, C_twM M V HWd, R_twM D V HWd]
      exact ⟨(a1, a2), (a1, a2), rfl, rfl, rfl, r2, r3⟩
    · simp (disch := omega) only [Option.bind_some, if_true, if_false, not_true_eq_false, not_false_eq_true, z0, ii_add, ii_sub, ii_mul, ifLeT, ifLeF, ifLtT, ifLtF, ifEqT, ifEqF, ifNeT, ifNeF, ifIn, nixZ, ii_i64, o0, o1, isInT, isInF, tn14, tn12, tn2, tn21, tn47, tn48, tn49, tn471, tn472, Int.reduceToNat, Int.toNat_natCast, Int.reduceAdd, Int.reduceSub, Int.reduceMul, Int.reduceNeg, Nat.reduceAdd, Nat.reduceSub, Nat.reduceMul, HF_heap_L6, HF_heap_L6_b, R_heap_L11, R_heap_L11_b, E, C.2.2.2.2.1, R.2.2.2.2.2.1, C_twM M V HWd, R_twM D V HWd]
      exact ⟨(k, twM d k), (k, twM d k), rfl, rfl, rfl, t2⟩
end Q4
