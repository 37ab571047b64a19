/-! reads: rule, cell, book, trail, costs, count .. -/
theorem isInT {z a b : Int} (h : a ≤ z) (h' : z ≤ b) (h3 : -2147483648 ≤ a) (h6 : b ≤ 2147483647) : p_R_isIn (Int64.ofInt z) (Int64.ofInt a) (Int64.ofInt b) = ii 1 := by
  unfold p_R_isIn
  simp (disch := omega) only [lcmp_lt, lcmp_gt]
  rw [if_neg (by omega), if_neg (by omega)]
theorem isInF {z a b : Int} (h : z < a ∨ b < z) (h1 : -2147483648 ≤ z) (h2 : z ≤ 2147483647) (h3 : -2147483648 ≤ a) (h4 : a ≤ 2147483647) (h5 : -2147483648 ≤ b) (h6 : b ≤ 2147483647) : p_R_isIn (Int64.ofInt z) (Int64.ofInt a) (Int64.ofInt b) = ii 0 := by
  unfold p_R_isIn
  simp (disch := omega) only [lcmp_lt, lcmp_gt]
  by_cases q : z < a
  · rw [if_pos q]
  · rw [if_neg q, if_pos (by omega)]
theorem tn14 (n : Nat) : (14 + (n : Int)).toNat = 14 + n := by omega
theorem tn12 (n : Nat) : (12 + (n : Int)).toNat = 12 + n := by omega
theorem tn2 (n : Nat) : (2 * (n : Int)).toNat = 2 * n := by omega
theorem tn21 (n : Nat) : (2 * (n : Int) + 1).toNat = 2 * n + 1 := by omega
theorem tn47 (n : Nat) : (47 + 3 * (n : Int)).toNat = 47 + 3 * n := by omega
theorem tn48 (n : Nat) : (48 + 3 * (n : Int)).toNat = 48 + 3 * n := by omega
theorem tn49 (n : Nat) : (49 + 3 * (n : Int)).toNat = 49 + 3 * n := by omega
theorem tn471 (n : Nat) : (47 + 3 * (n : Int) + 1).toNat = 48 + 3 * n := by omega
theorem tn472 (n : Nat) : (47 + 3 * (n : Int) + 2).toNat = 49 + 3 * n := by omega
section Q1
variable {hd : Nat → Int} {d : DY} {o wr : Nat} {h g : AH}
theorem C_hhF (E : h.2.2 0 13 = o) (C : CH hd o h) (q : cellsM hd = 0) : p_HF_hasHeath h = ii 0 := by
  unfold p_HF_hasHeath
  rw [E, C.2.2.2.2.1]
  simp (disch := omega) only [Option.bind_some, if_true, if_false, not_true_eq_false, not_false_eq_true, z0, ii_add, ii_sub, ii_mul, ifLeT, ifLeF, ifLtT, ifLtF, ifEqT, ifEqF, ifNeT, ifNeF, ifIn, nixZ]
theorem C_hhT (E : h.2.2 0 13 = o) (C : CH hd o h) (W : HS hd) (q : cellsM hd ≠ 0) : p_HF_hasHeath h = ii 1 := by
  have := W.cells
  unfold p_HF_hasHeath
  rw [E, C.2.2.2.2.1]
  simp (disch := omega) only [Option.bind_some, if_true, if_false, not_true_eq_false, not_false_eq_true, z0, ii_add, ii_sub, ii_mul, ifLeT, ifLeF, ifLtT, ifLtF, ifEqT, ifEqF, ifNeT, ifNeF, ifIn, nixZ]
theorem M_wlT (M : MR hd d wr (mvO h 13)) (V : DW hd d) {c : Nat} (hc : c < 30) (q : 0 < vI (d (14 + c))) : p_HF_holds (h.1 13 6) (ii c) = ii 1 := by
  rw [M_wells M, M_well V hc, if_neg]
  intro z
  rw [z] at q
  exact absurd q (by decide)
theorem M_wlF (M : MR hd d wr (mvO h 13)) (V : DW hd d) {c : Nat} (hc : c < 30) (q : vI (d (14 + c)) = 0) : p_HF_holds (h.1 13 6) (ii c) = ii 0 := by
  rw [M_wells M, M_well V hc, if_pos]
  rw [vI_ii (d (14 + c)), q]; rfl
theorem M_sea (M : MR hd d wr (mvO h 13)) : h.1 13 8 = ii (vI (d 45)) := by rw [M_season M]; exact vI_ii _
theorem q_rule (X : RX hd d o wr h (wI g 80 0 (ii 0))) {a : Int} (a0 : -2147483648 ≤ a) (a1 : a ≤ 2147483647) : f_R_rule (ii a) g = some (p_HF_rule (ii a) h, wI g 80 0 (ii 0)) := by
  obtain ⟨E, C, M, R, D, W, V⟩ := X
  have hc := W.cells
  unfold f_R_rule p_HF_rule
  generalize wI g 80 0 (ii 0) = g at *
  by_cases q : cellsM hd = 0
  · simp (disch := omega) only [Option.bind_some, if_true, if_false, not_true_eq_false, not_false_eq_true, z0, ii_add, ii_sub, ii_mul, ifLeT, ifLeF, ifLtT, ifLtF, ifEqT, ifEqF, ifNeT, ifNeF, ifIn, nixZ, C_hhF E C, R.2.2.2.2.2.1]
  · by_cases q2 : 0 ≤ a ∧ a ≤ 3
    · have e0 := R.1 0 (by omega)
      have e1 := R.1 1 (by omega)
      have e2 := R.1 2 (by omega)
      have e3 := R.1 3 (by omega)
      rcases (show a = 0 ∨ a = 1 ∨ a = 2 ∨ a = 3 by omega) with e | e | e | e <;> subst e <;> simp (disch := omega) only [Option.bind_some, if_true, if_false, not_true_eq_false, not_false_eq_true, z0, ii_add, ii_sub, ii_mul, ifLeT, ifLeF, ifLtT, ifLtF, ifEqT, ifEqF, ifNeT, ifNeF, ifIn, nixZ, C_hhT E C W, R.2.2.2.2.2.1, ii_i64, o0, isInT, E, C.1, C.2.1, C.2.2.1, C.2.2.2.1, Int.toNat_zero, Int.toNat_one, Int.reduceToNat, e0, e1, e2, e3]
    · simp (disch := omega) only [Option.bind_some, if_true, if_false, not_true_eq_false, not_false_eq_true, z0, ii_add, ii_sub, ii_mul, ifLeT, ifLeF, ifLtT, ifLtF, ifEqT, ifEqF, ifNeT, ifNeF, ifIn, nixZ, C_hhT E C W, R.2.2.2.2.2.1, ii_i64, o0, isInF]
theorem q_cell (X : RX hd d o wr h (wI g 80 0 (ii 0))) {c a : Int} (c0 : -2147483648 ≤ c) (c1 : c ≤ 2147483647) (a0 : -2147483648 ≤ a) (a1 : a ≤ 2147483647) : ∃ x, f_HF_cell (ii c) (ii a) h = some x ∧ f_R_cell (ii c) (ii a) g = some (x, wI g 80 0 (ii 0)) := by
  obtain ⟨E, C, M, R, D, W, V⟩ := X
  have hc := W.cells
  have hs := V.sea
  unfold f_R_cell f_HF_cell
  generalize wI g 80 0 (ii 0) = g at *
  rw [E, C_isCell C W c0 c1, R_isCell R W c0 c1]
  by_cases q : 0 ≤ c ∧ c < cellsM hd
  · rw [if_pos q]
    have HWd := W.hw q.1 q.2
    obtain ⟨n, rfl⟩ := Int.eq_ofNat_of_zero_le q.1
    have hw := V.wel (c := n) (by omega)
    have e45 := D.i (j := 45) (by omega)
    have e14 := D.i (j := 14 + n) (by omega)
    by_cases q2 : 0 ≤ a ∧ a ≤ 4
    · rcases (show a = 0 ∨ a = 1 ∨ a = 2 ∨ a = 3 ∨ a = 4 by omega) with e | e | e | e | e <;> subst e
      · simp (disch := omega) only [Option.bind_some, if_true, if_false, not_true_eq_false, not_false_eq_true, z0, ii_add, ii_sub, ii_mul, ifLeT, ifLeF, ifLtT, ifLtF, ifEqT, ifEqF, ifNeT, ifNeF, ifIn, nixZ, ii_i64, o0, isInT, M_sea M, C_waterIn C HWd, Int.reduceToNat, e45, R_depthOf R HWd]
        exact ⟨_, rfl, rfl⟩
      · simp (disch := omega) only [Option.bind_some, if_true, if_false, not_true_eq_false, not_false_eq_true, z0, ii_add, ii_sub, ii_mul, ifLeT, ifLeF, ifLtT, ifLtF, ifEqT, ifEqF, ifNeT, ifNeF, ifIn, nixZ, ii_i64, o0, isInT, C_ironIn C HWd, R_ironAt R W]
        exact ⟨_, rfl, rfl⟩
      · simp (disch := omega) only [Option.bind_some, if_true, if_false, not_true_eq_false, not_false_eq_true, z0, ii_add, ii_sub, ii_mul, ifLeT, ifLeF, ifLtT, ifLtF, ifEqT, ifEqF, ifNeT, ifNeF, ifIn, nixZ, ii_i64, o0, isInT, C_rockIn C HWd, R_rockAt R W]
        exact ⟨_, rfl, rfl⟩
      · by_cases q3 : vI (d (14 + n)) = 0
        · simp (disch := omega) only [Option.bind_some, if_true, if_false, not_true_eq_false, not_false_eq_true, z0, ii_add, ii_sub, ii_mul, ifLeT, ifLeF, ifLtT, ifLtF, ifEqT, ifEqF, ifNeT, ifNeF, ifIn, nixZ, ii_i64, o0, isInT, M_wlF M V, tn14, e14]
          exact ⟨_, rfl, rfl⟩
        · simp (disch := omega) only [Option.bind_some, if_true, if_false, not_true_eq_false, not_false_eq_true, z0, ii_add, ii_sub, ii_mul, ifLeT, ifLeF, ifLtT, ifLtF, ifEqT, ifEqF, ifNeT, ifNeF, ifIn, nixZ, ii_i64, o0, isInT, M_wlT M V, tn14, e14]
          exact ⟨_, rfl, rfl⟩
      · simp (disch := omega) only [Option.bind_some, if_true, if_false, not_true_eq_false, not_false_eq_true, z0, ii_add, ii_sub, ii_mul, ifLeT, ifLeF, ifLtT, ifLtF, ifEqT, ifEqF, ifNeT, ifNeF, ifIn, nixZ, ii_i64, o0, isInT, tn14, e14, C_sunkTo M]
        exact ⟨_, rfl, by rw [← vI_ii]⟩
    · simp (disch := omega) only [Option.bind_some, if_true, if_false, not_true_eq_false, not_false_eq_true, z0, ii_add, ii_sub, ii_mul, ifLeT, ifLeF, ifLtT, ifLtF, ifEqT, ifEqF, ifNeT, ifNeF, ifIn, nixZ, ii_i64, o0, isInF]
      exact ⟨_, rfl, rfl⟩
  · rw [if_neg q]
    simp (disch := omega) only [Option.bind_some, if_true, if_false, not_true_eq_false, not_false_eq_true, z0, ii_add, ii_sub, ii_mul, ifLeT, ifLeF, ifLtT, ifLtF, ifEqT, ifEqF, ifNeT, ifNeF, ifIn, nixZ]
    exact ⟨_, rfl, rfl⟩
end Q1
