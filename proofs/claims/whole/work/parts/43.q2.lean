/-! reads: book, trail, costs, shallow, richest, nearest, meets -/
section Q2
variable {hd : Nat → Int} {d : DY} {o wr : Nat} {h g : AH}
theorem watM_lo (W : HW hd) (c s : Int) : watM hd c s = -1 ∨ (0 ≤ watM hd c s ∧ watM hd c s ≤ 99) := by
  have hw := W.1
  unfold watM
  split
  · exact Or.inl rfl
  · right
    have := depM_lo W c
    have ha : 0 ≤ addM hd s := by unfold addM; split; omega; split <;> omega
    unfold cap99
    split <;> omega
theorem q_book (X : RX hd d o wr h (wI g 80 0 (ii 0))) {i a : Int} (c0 : -2147483648 ≤ i) (c1 : i ≤ 2147483647) (a0 : -2147483648 ≤ a) (a1 : a ≤ 2147483647) : ∃ x, f_HF_book (ii i) (ii a) h = some x ∧ f_R_book (ii i) (ii a) g = some (x, wI g 80 0 (ii 0)) := by
  obtain ⟨E, C, M, R, D, W, V⟩ := X
  obtain ⟨hb1, hb2⟩ := V.bl
  unfold f_R_book f_HF_book
  generalize wI g 80 0 (ii 0) = g at *
  have e46 := D.i (j := 46) (by omega)
  rw [hb1] at e46
  rw [C_bookLength M]
  by_cases q : 0 ≤ i ∧ i < bL d
  · obtain ⟨n, rfl⟩ := Int.eq_ofNat_of_zero_le q.1
    by_cases q2 : 0 ≤ a ∧ a ≤ 2
    · rcases (show a = 0 ∨ a = 1 ∨ a = 2 by omega) with e | e | e <;> subst e
      · have ei : (47 + 3 * ((bL d : Int) - 1 - n) + 0).toNat = 47 + 3 * (bL d - 1 - n) := by omega
        simp (disch := omega) only [Option.bind_some, if_true, if_false, not_true_eq_false, not_false_eq_true, z0, ii_add, ii_sub, ii_mul, ifLeT, ifLeF, ifLtT, ifLtF, ifEqT, ifEqF, ifNeT, ifNeF, ifIn, nixZ, ii_i64, o0, o1, isInT, isInF, tn14, tn12, tn2, tn21, tn47, tn48, tn49, tn471, tn472, Int.reduceToNat, Int.toNat_natCast, Int.reduceAdd, Int.reduceSub, Int.reduceMul, Int.reduceNeg, Nat.reduceAdd, Nat.reduceSub, Nat.reduceMul, e46, C_forkOn M V W, ei, D (47 + 3 * (bL d - 1 - n))]
        exact ⟨_, rfl, rfl⟩
      · have ei : (47 + 3 * ((bL d : Int) - 1 - n) + 1).toNat = 48 + 3 * (bL d - 1 - n) := by omega
        simp (disch := omega) only [Option.bind_some, if_true, if_false, not_true_eq_false, not_false_eq_true, z0, ii_add, ii_sub, ii_mul, ifLeT, ifLeF, ifLtT, ifLtF, ifEqT, ifEqF, ifNeT, ifNeF, ifIn, nixZ, ii_i64, o0, o1, isInT, isInF, tn14, tn12, tn2, tn21, tn47, tn48, tn49, tn471, tn472, Int.reduceToNat, Int.toNat_natCast, Int.reduceAdd, Int.reduceSub, Int.reduceMul, Int.reduceNeg, Nat.reduceAdd, Nat.reduceSub, Nat.reduceMul, e46, C_cellOn M V W, ei, D (48 + 3 * (bL d - 1 - n))]
        exact ⟨_, rfl, rfl⟩
      · have ei : (47 + 3 * ((bL d : Int) - 1 - n) + 2).toNat = 49 + 3 * (bL d - 1 - n) := by omega
        simp (disch := omega) only [Option.bind_some, if_true, if_false, not_true_eq_false, not_false_eq_true, z0, ii_add, ii_sub, ii_mul, ifLeT, ifLeF, ifLtT, ifLtF, ifEqT, ifEqF, ifNeT, ifNeF, ifIn, nixZ, ii_i64, o0, o1, isInT, isInF, tn14, tn12, tn2, tn21, tn47, tn48, tn49, tn471, tn472, Int.reduceToNat, Int.toNat_natCast, Int.reduceAdd, Int.reduceSub, Int.reduceMul, Int.reduceNeg, Nat.reduceAdd, Nat.reduceSub, Nat.reduceMul, e46, C_twitchOn M V W, ei, D (49 + 3 * (bL d - 1 - n))]
        exact ⟨_, rfl, rfl⟩
    · simp (disch := omega) only [Option.bind_some, if_true, if_false, not_true_eq_false, not_false_eq_true, z0, ii_add, ii_sub, ii_mul, ifLeT, ifLeF, ifLtT, ifLtF, ifEqT, ifEqF, ifNeT, ifNeF, ifIn, nixZ, ii_i64, o0, o1, isInT, isInF, tn14, tn12, tn2, tn21, tn47, tn48, tn49, tn471, tn472, Int.reduceToNat, Int.toNat_natCast, Int.reduceAdd, Int.reduceSub, Int.reduceMul, Int.reduceNeg, Nat.reduceAdd, Nat.reduceSub, Nat.reduceMul, e46]
      exact ⟨_, rfl, rfl⟩
  · by_cases q2 : i < 0
    · simp (disch := omega) only [Option.bind_some, if_true, if_false, not_true_eq_false, not_false_eq_true, z0, ii_add, ii_sub, ii_mul, ifLeT, ifLeF, ifLtT, ifLtF, ifEqT, ifEqF, ifNeT, ifNeF, ifIn, nixZ, ii_i64, o0, o1, isInT, isInF, tn14, tn12, tn2, tn21, tn47, tn48, tn49, tn471, tn472, Int.reduceToNat, Int.toNat_natCast, Int.reduceAdd, Int.reduceSub, Int.reduceMul, Int.reduceNeg, Nat.reduceAdd, Nat.reduceSub, Nat.reduceMul, e46]
      exact ⟨_, rfl, rfl⟩
    · simp (disch := omega) only [Option.bind_some, if_true, if_false, not_true_eq_false, not_false_eq_true, z0, ii_add, ii_sub, ii_mul, ifLeT, ifLeF, ifLtT, ifLtF, ifEqT, ifEqF, ifNeT, ifNeF, ifIn, nixZ, ii_i64, o0, o1, isInT, isInF, tn14, tn12, tn2, tn21, tn47, tn48, tn49, tn471, tn472, Int.reduceToNat, Int.toNat_natCast, Int.reduceAdd, Int.reduceSub, Int.reduceMul, Int.reduceNeg, Nat.reduceAdd, Nat.reduceSub, Nat.reduceMul, e46]
      exact ⟨_, rfl, rfl⟩
theorem C_freeOf (E : h.2.2 0 13 = o) (C : CH hd o h) (M : MR hd d wr (mvO h 13)) {gu : Int} (hg : gu = 0 ∨ gu = 1) : f_HF_freeOf (ii gu) h = some ((bitI (cellsM hd) - ii 1) &&& (d (13 - gu.toNat) ^^^ ii (-1))) := by
  unfold f_HF_freeOf p_Heath_allCells p_HF_bit
  rcases hg with e | e <;> subst e
  · simp (disch := omega) only [Option.bind_some, if_true, if_false, not_true_eq_false, not_false_eq_true, z0, ii_add, ii_sub, ii_mul, ifLeT, ifLeF, ifLtT, ifLtF, ifEqT, ifEqF, ifNeT, ifNeF, ifIn, nixZ, ii_i64, o0, o1, isInT, isInF, tn14, tn12, tn2, tn21, tn47, tn48, tn49, tn471, tn472, Int.reduceToNat, Int.toNat_natCast, Int.reduceAdd, Int.reduceSub, Int.reduceMul, Int.reduceNeg, Nat.reduceAdd, Nat.reduceSub, Nat.reduceMul, E, C.2.2.2.2.1, C_trailOf M]
    rfl
  · simp (disch := omega) only [Option.bind_some, if_true, if_false, not_true_eq_false, not_false_eq_true, z0, ii_add, ii_sub, ii_mul, ifLeT, ifLeF, ifLtT, ifLtF, ifEqT, ifEqF, ifNeT, ifNeF, ifIn, nixZ, ii_i64, o0, o1, isInT, isInF, tn14, tn12, tn2, tn21, tn47, tn48, tn49, tn471, tn472, Int.reduceToNat, Int.toNat_natCast, Int.reduceAdd, Int.reduceSub, Int.reduceMul, Int.reduceNeg, Nat.reduceAdd, Nat.reduceSub, Nat.reduceMul, E, C.2.2.2.2.1, C_trailOf M]
    rfl
theorem q_trail (X : RX hd d o wr h (wI g 80 0 (ii 0))) {i a : Int} (c0 : -2147483648 ≤ i) (c1 : i ≤ 2147483647) (a0 : -2147483648 ≤ a) (a1 : a ≤ 2147483647) : ∃ x, f_HF_trail (ii i) (ii a) h = some x ∧ f_R_trail (ii i) (ii a) g = some (x, wI g 80 0 (ii 0)) := by
  obtain ⟨E, C, M, R, D, W, V⟩ := X
  have hc := W.cells
  unfold f_R_trail f_HF_trail
  generalize wI g 80 0 (ii 0) = g at *
  by_cases q : cellsM hd = 0
  · simp (disch := omega) only [Option.bind_some, if_true, if_false, not_true_eq_false, not_false_eq_true, z0, ii_add, ii_sub, ii_mul, ifLeT, ifLeF, ifLtT, ifLtF, ifEqT, ifEqF, ifNeT, ifNeF, ifIn, nixZ, ii_i64, o0, o1, isInT, isInF, tn14, tn12, tn2, tn21, tn47, tn48, tn49, tn471, tn472, Int.reduceToNat, Int.toNat_natCast, Int.reduceAdd, Int.reduceSub, Int.reduceMul, Int.reduceNeg, Nat.reduceAdd, Nat.reduceSub, Nat.reduceMul, C_hhF E C, R.2.2.2.2.2.1]
    exact ⟨_, rfl, rfl⟩
  · by_cases q2 : 0 ≤ i ∧ i ≤ 1
    · have e12 := D 12 (by omega)
      have e13 := D 13 (by omega)
      rcases (show i = 0 ∨ i = 1 by omega) with e | e <;> subst e
      · by_cases qa : 0 ≤ a ∧ a ≤ 1
        · rcases (show a = 0 ∨ a = 1 by omega) with e | e <;> subst e
          · simp (disch := omega) only [Option.bind_some, if_true, if_false, not_true_eq_false, not_false_eq_true, z0, ii_add, ii_sub, ii_mul, ifLeT, ifLeF, ifLtT, ifLtF, ifEqT, ifEqF, ifNeT, ifNeF, ifIn, nixZ, ii_i64, o0, o1, isInT, isInF, tn14, tn12, tn2, tn21, tn47, tn48, tn49, tn471, tn472, Int.reduceToNat, Int.toNat_natCast, Int.reduceAdd, Int.reduceSub, Int.reduceMul, Int.reduceNeg, Nat.reduceAdd, Nat.reduceSub, Nat.reduceMul, C_hhT E C W, R.2.2.2.2.2.1, C_trailOf M, e12, e13]
            exact ⟨_, rfl, rfl⟩
          · simp (disch := omega) only [Option.bind_some, if_true, if_false, not_true_eq_false, not_false_eq_true, z0, ii_add, ii_sub, ii_mul, ifLeT, ifLeF, ifLtT, ifLtF, ifEqT, ifEqF, ifNeT, ifNeF, ifIn, nixZ, ii_i64, o0, o1, isInT, isInF, tn14, tn12, tn2, tn21, tn47, tn48, tn49, tn471, tn472, Int.reduceToNat, Int.toNat_natCast, Int.reduceAdd, Int.reduceSub, Int.reduceMul, Int.reduceNeg, Nat.reduceAdd, Nat.reduceSub, Nat.reduceMul, C_hhT E C W, R.2.2.2.2.2.1, C_freeOf E C M, e12, e13]
            exact ⟨_, rfl, rfl⟩
        · simp (disch := omega) only [Option.bind_some, if_true, if_false, not_true_eq_false, not_false_eq_true, z0, ii_add, ii_sub, ii_mul, ifLeT, ifLeF, ifLtT, ifLtF, ifEqT, ifEqF, ifNeT, ifNeF, ifIn, nixZ, ii_i64, o0, o1, isInT, isInF, tn14, tn12, tn2, tn21, tn47, tn48, tn49, tn471, tn472, Int.reduceToNat, Int.toNat_natCast, Int.reduceAdd, Int.reduceSub, Int.reduceMul, Int.reduceNeg, Nat.reduceAdd, Nat.reduceSub, Nat.reduceMul, C_hhT E C W, R.2.2.2.2.2.1]
          exact ⟨_, rfl, rfl⟩
      · by_cases qa : 0 ≤ a ∧ a ≤ 1
        · rcases (show a = 0 ∨ a = 1 by omega) with e | e <;> subst e
          · simp (disch := omega) only [Option.bind_some, if_true, if_false, not_true_eq_false, not_false_eq_true, z0, ii_add, ii_sub, ii_mul, ifLeT, ifLeF, ifLtT, ifLtF, ifEqT, ifEqF, ifNeT, ifNeF, ifIn, nixZ, ii_i64, o0, o1, isInT, isInF, tn14, tn12, tn2, tn21, tn47, tn48, tn49, tn471, tn472, Int.reduceToNat, Int.toNat_natCast, Int.reduceAdd, Int.reduceSub, Int.reduceMul, Int.reduceNeg, Nat.reduceAdd, Nat.reduceSub, Nat.reduceMul, C_hhT E C W, R.2.2.2.2.2.1, C_trailOf M, e12, e13]
            exact ⟨_, rfl, rfl⟩
          · simp (disch := omega) only [Option.bind_some, if_true, if_false, not_true_eq_false, not_false_eq_true, z0, ii_add, ii_sub, ii_mul, ifLeT, ifLeF, ifLtT, ifLtF, ifEqT, ifEqF, ifNeT, ifNeF, ifIn, nixZ, ii_i64, o0, o1, isInT, isInF, tn14, tn12, tn2, tn21, tn47, tn48, tn49, tn471, tn472, Int.reduceToNat, Int.toNat_natCast, Int.reduceAdd, Int.reduceSub, Int.reduceMul, Int.reduceNeg, Nat.reduceAdd, Nat.reduceSub, Nat.reduceMul, C_hhT E C W, R.2.2.2.2.2.1, C_freeOf E C M, e12, e13]
            exact ⟨_, rfl, rfl⟩
        · simp (disch := omega) only [Option.bind_some, if_true, if_false, not_true_eq_false, not_false_eq_true, z0, ii_add, ii_sub, ii_mul, ifLeT, ifLeF, ifLtT, ifLtF, ifEqT, ifEqF, ifNeT, ifNeF, ifIn, nixZ, ii_i64, o0, o1, isInT, isInF, tn14, tn12, tn2, tn21, tn47, tn48, tn49, tn471, tn472, Int.reduceToNat, Int.toNat_natCast, Int.reduceAdd, Int.reduceSub, Int.reduceMul, Int.reduceNeg, Nat.reduceAdd, Nat.reduceSub, Nat.reduceMul, C_hhT E C W, R.2.2.2.2.2.1]
          exact ⟨_, rfl, rfl⟩
    · by_cases q3 : i < 0
      · simp (disch := omega) only [Option.bind_some, if_true, if_false, not_true_eq_false, not_false_eq_true, z0, ii_add, ii_sub, ii_mul, ifLeT, ifLeF, ifLtT, ifLtF, ifEqT, ifEqF, ifNeT, ifNeF, ifIn, nixZ, ii_i64, o0, o1, isInT, isInF, tn14, tn12, tn2, tn21, tn47, tn48, tn49, tn471, tn472, Int.reduceToNat, Int.toNat_natCast, Int.reduceAdd, Int.reduceSub, Int.reduceMul, Int.reduceNeg, Nat.reduceAdd, Nat.reduceSub, Nat.reduceMul, C_hhT E C W, R.2.2.2.2.2.1]
        exact ⟨_, rfl, rfl⟩
      · simp (disch := omega) only [Option.bind_some, if_true, if_false, not_true_eq_false, not_false_eq_true, z0, ii_add, ii_sub, ii_mul, ifLeT, ifLeF, ifLtT, ifLtF, ifEqT, ifEqF, ifNeT, ifNeF, ifIn, nixZ, ii_i64, o0, o1, isInT, isInF, tn14, tn12, tn2, tn21, tn47, tn48, tn49, tn471, tn472, Int.reduceToNat, Int.toNat_natCast, Int.reduceAdd, Int.reduceSub, Int.reduceMul, Int.reduceNeg, Nat.reduceAdd, Nat.reduceSub, Nat.reduceMul, C_hhT E C W, R.2.2.2.2.2.1]
        exact ⟨_, rfl, rfl⟩
/-- how deep a well would be sunk -/
def wdM (hd : Nat → Int) (c s : Int) : Int := if watM hd c s = -1 ∨ 60 < watM hd c s then 60 else watM hd c s
theorem wdM_lo (W : HW hd) (c s : Int) : 0 ≤ wdM hd c s ∧ wdM hd c s ≤ 60 := by
  have := watM_lo W c s
  unfold wdM
  split <;> omega
theorem C_isWet (E : h.2.2 0 13 = o) (C : CH hd o h) (M : MR hd d wr (mvO h 13)) (V : DW hd d) (W : HW hd) {c : Int} (h0 : 0 ≤ c) (h1 : c < cellsM hd) : f_HF_isWet (ii c) h = some (if watM hd c (vI (d 45)) = -1 ∨ 60 < watM hd c (vI (d 45)) then ii 0 else ii 1) := by
  have hs := V.sea
  have hl := watM_lo W c (vI (d 45))
  unfold f_HF_isWet
  by_cases q : watM hd c (vI (d 45)) = -1
  · rw [if_pos (Or.inl q)]
    simp (disch := omega) only [Option.bind_some, if_true, if_false, not_true_eq_false, not_false_eq_true, z0, ii_add, ii_sub, ii_mul, ifLeT, ifLeF, ifLtT, ifLtF, ifEqT, ifEqF, ifNeT, ifNeF, ifIn, nixZ, ii_i64, o0, o1, isInT, isInF, tn14, tn12, tn2, tn21, tn47, tn48, tn49, tn471, tn472, Int.reduceToNat, Int.toNat_natCast, Int.reduceAdd, Int.reduceSub, Int.reduceMul, Int.reduceNeg, Nat.reduceAdd, Nat.reduceSub, Nat.reduceMul, E, M_sea M, C_waterIn C W]
  · by_cases q2 : 60 < watM hd c (vI (d 45))
    · rw [if_pos (Or.inr q2)]
      simp (disch := omega) only [Option.bind_some, if_true, if_false, not_true_eq_false, not_false_eq_true, z0, ii_add, ii_sub, ii_mul, ifLeT, ifLeF, ifLtT, ifLtF, ifEqT, ifEqF, ifNeT, ifNeF, ifIn, nixZ, ii_i64, o0, o1, isInT, isInF, tn14, tn12, tn2, tn21, tn47, tn48, tn49, tn471, tn472, Int.reduceToNat, Int.toNat_natCast, Int.reduceAdd, Int.reduceSub, Int.reduceMul, Int.reduceNeg, Nat.reduceAdd, Nat.reduceSub, Nat.reduceMul, E, M_sea M, C_waterIn C W]
    · rw [if_neg (by omega)]
      simp (disch := omega) only [Option.bind_some, if_true, if_false, not_true_eq_false, not_false_eq_true, z0, ii_add, ii_sub, ii_mul, ifLeT, ifLeF, ifLtT, ifLtF, ifEqT, ifEqF, ifNeT, ifNeF, ifIn, nixZ, ii_i64, o0, o1, isInT, isInF, tn14, tn12, tn2, tn21, tn47, tn48, tn49, tn471, tn472, Int.reduceToNat, Int.toNat_natCast, Int.reduceAdd, Int.reduceSub, Int.reduceMul, Int.reduceNeg, Nat.reduceAdd, Nat.reduceSub, Nat.reduceMul, E, M_sea M, C_waterIn C W]
theorem C_wellDepth (E : h.2.2 0 13 = o) (C : CH hd o h) (M : MR hd d wr (mvO h 13)) (V : DW hd d) (W : HW hd) {c : Int} (h0 : 0 ≤ c) (h1 : c < cellsM hd) : f_HF_wellDepth (ii c) h = some (ii (wdM hd c (vI (d 45)))) := by
  have hs := V.sea
  have hl := watM_lo W c (vI (d 45))
  unfold f_HF_wellDepth wdM
  rw [C_isWet E C M V W h0 h1]
  by_cases q : watM hd c (vI (d 45)) = -1 ∨ 60 < watM hd c (vI (d 45))
  · rw [if_pos q, if_pos q]
    simp (disch := omega) only [Option.bind_some, if_true, if_false, not_true_eq_false, not_false_eq_true, z0, ii_add, ii_sub, ii_mul, ifLeT, ifLeF, ifLtT, ifLtF, ifEqT, ifEqF, ifNeT, ifNeF, ifIn, nixZ, ii_i64, o0, o1, isInT, isInF, tn14, tn12, tn2, tn21, tn47, tn48, tn49, tn471, tn472, Int.reduceToNat, Int.toNat_natCast, Int.reduceAdd, Int.reduceSub, Int.reduceMul, Int.reduceNeg, Nat.reduceAdd, Nat.reduceSub, Nat.reduceMul]
  · rw [if_neg q, if_neg q]
    simp (disch := omega) only [Option.bind_some, if_true, if_false, not_true_eq_false, not_false_eq_true, z0, ii_add, ii_sub, ii_mul, ifLeT, ifLeF, ifLtT, ifLtF, ifEqT, ifEqF, ifNeT, ifNeF, ifIn, nixZ, ii_i64, o0, o1, isInT, isInF, tn14, tn12, tn2, tn21, tn47, tn48, tn49, tn471, tn472, Int.reduceToNat, Int.toNat_natCast, Int.reduceAdd, Int.reduceSub, Int.reduceMul, Int.reduceNeg, Nat.reduceAdd, Nat.reduceSub, Nat.reduceMul, E, M_sea M, C_waterIn C W]
theorem R_sunkTo (R : RH hd g) (W : HW hd) {c s : Int} (h0 : -2147483648 ≤ c) (h1 : c ≤ 2147483647) (s0 : 0 ≤ s) (s1 : s ≤ 3) : f_R_sunkTo (ii c) (ii s) g = some (ii (wdM hd c s)) := by
  have hl := watM_lo W c s
  unfold f_R_sunkTo wdM p_Math_min
  by_cases q : watM hd c s = -1
  · rw [if_pos (Or.inl q)]
    simp (disch := omega) only [Option.bind_some, if_true, if_false, not_true_eq_false, not_false_eq_true, z0, ii_add, ii_sub, ii_mul, ifLeT, ifLeF, ifLtT, ifLtF, ifEqT, ifEqF, ifNeT, ifNeF, ifIn, nixZ, ii_i64, o0, o1, isInT, isInF, tn14, tn12, tn2, tn21, tn47, tn48, tn49, tn471, tn472, Int.reduceToNat, Int.toNat_natCast, Int.reduceAdd, Int.reduceSub, Int.reduceMul, Int.reduceNeg, Nat.reduceAdd, Nat.reduceSub, Nat.reduceMul, R_depthOf R W]
  · by_cases q2 : 60 < watM hd c s
    · rw [if_pos (Or.inr q2)]
      simp (disch := omega) only [Option.bind_some, if_true, if_false, not_true_eq_false, not_false_eq_true, z0, ii_add, ii_sub, ii_mul, ifLeT, ifLeF, ifLtT, ifLtF, ifEqT, ifEqF, ifNeT, ifNeF, ifIn, nixZ, ii_i64, o0, o1, isInT, isInF, tn14, tn12, tn2, tn21, tn47, tn48, tn49, tn471, tn472, Int.reduceToNat, Int.toNat_natCast, Int.reduceAdd, Int.reduceSub, Int.reduceMul, Int.reduceNeg, Nat.reduceAdd, Nat.reduceSub, Nat.reduceMul, R_depthOf R W]
    · rw [if_neg (by omega)]
      by_cases q3 : watM hd c s = 60
      · simp (disch := omega) only [Option.bind_some, if_true, if_false, not_true_eq_false, not_false_eq_true, z0, ii_add, ii_sub, ii_mul, ifLeT, ifLeF, ifLtT, ifLtF, ifEqT, ifEqF, ifNeT, ifNeF, ifIn, nixZ, ii_i64, o0, o1, isInT, isInF, tn14, tn12, tn2, tn21, tn47, tn48, tn49, tn471, tn472, Int.reduceToNat, Int.toNat_natCast, Int.reduceAdd, Int.reduceSub, Int.reduceMul, Int.reduceNeg, Nat.reduceAdd, Nat.reduceSub, Nat.reduceMul, R_depthOf R W, q3]
      · simp (disch := omega) only [Option.bind_some, if_true, if_false, not_true_eq_false, not_false_eq_true, z0, ii_add, ii_sub, ii_mul, ifLeT, ifLeF, ifLtT, ifLtF, ifEqT, ifEqF, ifNeT, ifNeF, ifIn, nixZ, ii_i64, o0, o1, isInT, isInF, tn14, tn12, tn2, tn21, tn47, tn48, tn49, tn471, tn472, Int.reduceToNat, Int.toNat_natCast, Int.reduceAdd, Int.reduceSub, Int.reduceMul, Int.reduceNeg, Nat.reduceAdd, Nat.reduceSub, Nat.reduceMul, R_depthOf R W]
theorem C_footPrice (E : h.2.2 0 13 = o) (C : CH hd o h) (W : HW hd) {c : Int} (h0 : 0 ≤ c) (h1 : c < cellsM hd) : f_HF_footPrice (ii c) h = some (ii (hd 3 + rkM hd c)) := by
  unfold f_HF_footPrice
  simp (disch := omega) only [Option.bind_some, if_true, if_false, not_true_eq_false, not_false_eq_true, z0, ii_add, ii_sub, ii_mul, ifLeT, ifLeF, ifLtT, ifLtF, ifEqT, ifEqF, ifNeT, ifNeF, ifIn, nixZ, ii_i64, o0, o1, isInT, isInF, tn14, tn12, tn2, tn21, tn47, tn48, tn49, tn471, tn472, Int.reduceToNat, Int.toNat_natCast, Int.reduceAdd, Int.reduceSub, Int.reduceMul, Int.reduceNeg, Nat.reduceAdd, Nat.reduceSub, Nat.reduceMul, E, C_rockIn C W, C.2.2.2.1]
theorem C_priceNow (E : h.2.2 0 13 = o) (C : CH hd o h) (M : MR hd d wr (mvO h 13)) (V : DW hd d) (W : HW hd) {c : Int} (h0 : 0 ≤ c) (h1 : c < cellsM hd) : f_HF_priceNow (ii c) h = some (ii (wdM hd c (vI (d 45)) * (hd 3 + rkM hd c))) := by
  unfold f_HF_priceNow
  simp (disch := omega) only [Option.bind_some, if_true, if_false, not_true_eq_false, not_false_eq_true, z0, ii_add, ii_sub, ii_mul, ifLeT, ifLeF, ifLtT, ifLtF, ifEqT, ifEqF, ifNeT, ifNeF, ifIn, nixZ, ii_i64, o0, o1, isInT, isInF, tn14, tn12, tn2, tn21, tn47, tn48, tn49, tn471, tn472, Int.reduceToNat, Int.toNat_natCast, Int.reduceAdd, Int.reduceSub, Int.reduceMul, Int.reduceNeg, Nat.reduceAdd, Nat.reduceSub, Nat.reduceMul, C_wellDepth E C M V W, C_footPrice E C W]
theorem R_costOf (R : RH hd g) (W : HW hd) {c s : Int} (h0 : -2147483648 ≤ c) (h1 : c ≤ 2147483647) (s0 : 0 ≤ s) (s1 : s ≤ 3) : f_R_costOf (ii c) (ii s) g = some (ii (wdM hd c s * (hd 3 + rkM hd c))) := by
  unfold f_R_costOf
  simp (disch := omega) only [Option.bind_some, if_true, if_false, not_true_eq_false, not_false_eq_true, z0, ii_add, ii_sub, ii_mul, ifLeT, ifLeF, ifLtT, ifLtF, ifEqT, ifEqF, ifNeT, ifNeF, ifIn, nixZ, ii_i64, o0, o1, isInT, isInF, tn14, tn12, tn2, tn21, tn47, tn48, tn49, tn471, tn472, Int.reduceToNat, Int.toNat_natCast, Int.reduceAdd, Int.reduceSub, Int.reduceMul, Int.reduceNeg, Nat.reduceAdd, Nat.reduceSub, Nat.reduceMul, R_sunkTo R W, R_footAt R (Or.inr W)]
theorem q_costs (X : RX hd d o wr h (wI g 80 0 (ii 0))) {c : Int} (c0 : -2147483648 ≤ c) (c1 : c ≤ 2147483647) : ∃ x, f_HF_costs (ii c) h = some x ∧ f_R_costs (ii c) g = some (x, wI g 80 0 (ii 0)) := by
  obtain ⟨E, C, M, R, D, W, V⟩ := X
  have hc := W.cells
  have hs := V.sea
  unfold f_R_costs f_HF_costs p_HF_canSink
  generalize wI g 80 0 (ii 0) = g at *
  rw [E, C_isCell C W c0 c1, R_isCell R W c0 c1]
  by_cases q : 0 ≤ c ∧ c < cellsM hd
  · rw [if_pos q]
    have HWd := W.hw q.1 q.2
    obtain ⟨n, rfl⟩ := Int.eq_ofNat_of_zero_le q.1
    have hw := V.wel (c := n) (by omega)
    have e45 := D.i (j := 45) (by omega)
    have e14 := D.i (j := 14 + n) (by omega)
    by_cases q3 : vI (d (14 + n)) = 0
    · simp (disch := omega) only [Option.bind_some, if_true, if_false, not_true_eq_false, not_false_eq_true, z0, ii_add, ii_sub, ii_mul, ifLeT, ifLeF, ifLtT, ifLtF, ifEqT, ifEqF, ifNeT, ifNeF, ifIn, nixZ, ii_i64, o0, o1, isInT, isInF, tn14, tn12, tn2, tn21, tn47, tn48, tn49, tn471, tn472, Int.reduceToNat, Int.toNat_natCast, Int.reduceAdd, Int.reduceSub, Int.reduceMul, Int.reduceNeg, Nat.reduceAdd, Nat.reduceSub, Nat.reduceMul, M_wlF M V, e14, e45, C_priceNow E C M V HWd, R_costOf R HWd]
      exact ⟨_, rfl, rfl⟩
    · simp (disch := omega) only [Option.bind_some, if_true, if_false, not_true_eq_false, not_false_eq_true, z0, ii_add, ii_sub, ii_mul, ifLeT, ifLeF, ifLtT, ifLtF, ifEqT, ifEqF, ifNeT, ifNeF, ifIn, nixZ, ii_i64, o0, o1, isInT, isInF, tn14, tn12, tn2, tn21, tn47, tn48, tn49, tn471, tn472, Int.reduceToNat, Int.toNat_natCast, Int.reduceAdd, Int.reduceSub, Int.reduceMul, Int.reduceNeg, Nat.reduceAdd, Nat.reduceSub, Nat.reduceMul, M_wlT M V, e14, e45]
      exact ⟨_, rfl, rfl⟩
  · rw [if_neg q]
    simp (disch := omega) only [Option.bind_some, if_true, if_false, not_true_eq_false, not_false_eq_true, z0, ii_add, ii_sub, ii_mul, ifLeT, ifLeF, ifLtT, ifLtF, ifEqT, ifEqF, ifNeT, ifNeF, ifIn, nixZ, ii_i64, o0, o1, isInT, isInF, tn14, tn12, tn2, tn21, tn47, tn48, tn49, tn471, tn472, Int.reduceToNat, Int.toNat_natCast, Int.reduceAdd, Int.reduceSub, Int.reduceMul, Int.reduceNeg, Nat.reduceAdd, Nat.reduceSub, Nat.reduceMul]
    exact ⟨_, rfl, rfl⟩
theorem q_shallow (X : RX hd d o wr h (wI g 80 0 (ii 0))) : ∃ x, f_HF_shallow h = some x ∧ f_R_shallow g = some (x, wI g 80 0 (ii 0)) := by
  obtain ⟨E, C, M, R, D, W, V⟩ := X
  have hc := W.cells
  have hs := V.sea
  unfold f_R_shallow f_HF_shallow
  generalize wI g 80 0 (ii 0) = g at *
  have e45 := D.i (j := 45) (by omega)
  refine lrel (fun n k (a : Int × Int) => HF_shallow_L7 n (ii a.1) (ii a.2) (ii k) h) (fun n k (b : Int) => R_shallow_L9 n (ii b) (ii k) g) (cellsM hd).toNat (fun k a b => a.1 = b ∧ ((b = -1 ∧ a.2 = 100) ∨ (0 ≤ b ∧ b < k ∧ a.2 = watM hd b (vI (d 45)) ∧ 0 ≤ a.2 ∧ a.2 ≤ 99))) (fun x y => ∃ z, x = some z ∧ y = some (z, g)) ?_ ?_ (cellsM hd).toNat 0 FU FU (-1, 100) (-1) (by omega) (by unfold FU; omega) (by unfold FU; omega) ⟨rfl, Or.inl ⟨rfl, rfl⟩⟩
  · rintro n m ⟨a1, a2⟩ b ⟨r1, r2⟩
    subst r1
    simp (disch := omega) only [Option.bind_some, if_true, if_false, not_true_eq_false, not_false_eq_true, z0, ii_add, ii_sub, ii_mul, ifLeT, ifLeF, ifLtT, ifLtF, ifEqT, ifEqF, ifNeT, ifNeF, ifIn, nixZ, ii_i64, o0, o1, isInT, isInF, tn14, tn12, tn2, tn21, tn47, tn48, tn49, tn471, tn472, Int.reduceToNat, Int.toNat_natCast, Int.reduceAdd, Int.reduceSub, Int.reduceMul, Int.reduceNeg, Nat.reduceAdd, Nat.reduceSub, Nat.reduceMul, HF_shallow_L7, HF_shallow_L7_b, R_shallow_L9, R_shallow_L9_b, E, C.2.2.2.2.1, R.2.2.2.2.2.1]
    exact ⟨_, rfl, rfl⟩
  · rintro n m k ⟨a1, a2⟩ b hk ⟨r1, r2⟩
    simp only at r1 r2
    subst r1
    right
    have HWd := W.hw (c := k) (by omega) (by omega)
    have hl := watM_lo HWd k (vI (d 45))
    by_cases q1 : watM hd k (vI (d 45)) = -1
    · simp (disch := omega) only [Option.bind_some, if_true, if_false, not_true_eq_false, not_false_eq_true, z0, ii_add, ii_sub, ii_mul, ifLeT, ifLeF, ifLtT, ifLtF, ifEqT, ifEqF, ifNeT, ifNeF, ifIn, nixZ, ii_i64, o0, o1, isInT, isInF, tn14, tn12, tn2, tn21, tn47, tn48, tn49, tn471, tn472, Int.reduceToNat, Int.toNat_natCast, Int.reduceAdd, Int.reduceSub, Int.reduceMul, Int.reduceNeg, Nat.reduceAdd, Nat.reduceSub, Nat.reduceMul, HF_shallow_L7, HF_shallow_L7_b, R_shallow_L9, R_shallow_L9_b, E, C.2.2.2.2.1, R.2.2.2.2.2.1, M_sea M, C_waterIn C HWd, e45, R_depthOf R HWd]
      exact ⟨(a1, a2), a1, rfl, rfl, rfl, by omega⟩
    · rcases r2 with ⟨z1, z2⟩ | ⟨z0', z1, z2, z3, z4⟩
      · subst z1 z2
        simp (disch := omega) only [Option.bind_some, if_true, if_false, not_true_eq_false, not_false_eq_true, z0, ii_add, ii_sub, ii_mul, ifLeT, ifLeF, ifLtT, ifLtF, ifEqT, ifEqF, ifNeT, ifNeF, ifIn, nixZ, ii_i64, o0, o1, isInT, isInF, tn14, tn12, tn2, tn21, tn47, tn48, tn49, tn471, tn472, Int.reduceToNat, Int.toNat_natCast, Int.reduceAdd, Int.reduceSub, Int.reduceMul, Int.reduceNeg, Nat.reduceAdd, Nat.reduceSub, Nat.reduceMul, HF_shallow_L7, HF_shallow_L7_b, R_shallow_L9, R_shallow_L9_b, E, C.2.2.2.2.1, R.2.2.2.2.2.1, M_sea M, C_waterIn C HWd, e45, R_depthOf R HWd]
        exact ⟨(k, watM hd k (vI (d 45))), k, rfl, rfl, rfl, Or.inr ⟨by omega, by omega, rfl, by simp only; omega, by simp only; omega⟩⟩
      · by_cases q3 : a2 ≤ watM hd k (vI (d 45))
        · simp (disch := omega) only [Option.bind_some, if_true, if_false, not_true_eq_false, not_false_eq_true, z0, ii_add, ii_sub, ii_mul, ifLeT, ifLeF, ifLtT, ifLtF, ifEqT, ifEqF, ifNeT, ifNeF, ifIn, nixZ, ii_i64, o0, o1, isInT, isInF, tn14, tn12, tn2, tn21, tn47, tn48, tn49, tn471, tn472, Int.reduceToNat, Int.toNat_natCast, Int.reduceAdd, Int.reduceSub, Int.reduceMul, Int.reduceNeg, Nat.reduceAdd, Nat.reduceSub, Nat.reduceMul, HF_shallow_L7, HF_shallow_L7_b, R_shallow_L9, R_shallow_L9_b, E, C.2.2.2.2.1, R.2.2.2.2.2.1, M_sea M, C_waterIn C HWd, e45, R_depthOf R HWd, ← z2]
          exact ⟨(a1, a2), a1, rfl, rfl, rfl, Or.inr ⟨z0', by omega, z2, z3, z4⟩⟩
        · simp (disch := omega) only [Option.bind_some, if_true, if_false, not_true_eq_false, not_false_eq_true, z0, ii_add, ii_sub, ii_mul, ifLeT, ifLeF, ifLtT, ifLtF, ifEqT, ifEqF, ifNeT, ifNeF, ifIn, nixZ, ii_i64, o0, o1, isInT, isInF, tn14, tn12, tn2, tn21, tn47, tn48, tn49, tn471, tn472, Int.reduceToNat, Int.toNat_natCast, Int.reduceAdd, Int.reduceSub, Int.reduceMul, Int.reduceNeg, Nat.reduceAdd, Nat.reduceSub, Nat.reduceMul, HF_shallow_L7, HF_shallow_L7_b, R_shallow_L9, R_shallow_L9_b, E, C.2.2.2.2.1, R.2.2.2.2.2.1, M_sea M, C_waterIn C HWd, e45, R_depthOf R HWd, ← z2]
          exact ⟨(k, watM hd k (vI (d 45))), k, rfl, rfl, rfl, Or.inr ⟨by omega, by omega, rfl, by simp only; omega, by simp only; omega⟩⟩
end Q2
