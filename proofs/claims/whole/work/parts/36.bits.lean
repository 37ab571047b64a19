/-! bits -/
def tb (x : Int32) (c : Nat) : Bool := x.toBitVec.getLsbD c
theorem tb_ext {x y : Int32} (h : ∀ i, i < 32 → tb x i = tb y i) : x = y := by
  apply Int32.toBitVec_inj.mp
  exact BitVec.eq_of_getLsbD_eq h
theorem tb_or (x y : Int32) (i : Nat) : tb (x ||| y) i = (tb x i || tb y i) := by
  show (x.toBitVec ||| y.toBitVec).getLsbD i = _
  rw [BitVec.getLsbD_or]; rfl
theorem tb_and (x y : Int32) (i : Nat) : tb (x &&& y) i = (tb x i && tb y i) := by
  show (x.toBitVec &&& y.toBitVec).getLsbD i = _
  rw [BitVec.getLsbD_and]; rfl
theorem tb_not (x : Int32) {i : Nat} (hi : i < 32) : tb (x ^^^ ii (-1)) i = !(tb x i) := by
  show (x.toBitVec ^^^ (ii (-1)).toBitVec).getLsbD i = _
  rw [BitVec.getLsbD_xor]
  have : ∀ i, i < 32 → (ii (-1)).toBitVec.getLsbD i = true := by decide +kernel
  rw [this i hi]
  simp [tb]
theorem tb_0 (i : Nat) : tb (ii 0) i = false := by
  show (0#32).getLsbD i = false
  simp
theorem tb_big (x : Int32) {i : Nat} (h : 32 ≤ i) : tb x i = false := BitVec.getLsbD_of_ge x.toBitVec i h
theorem bitI_nat {n : Nat} (hn : n < 32) : (bitI (n : Int)).toBitVec = BitVec.twoPow 32 n := by
  have h : ∀ n : Nat, n < 32 → (bitI (n : Int)).toBitVec = BitVec.twoPow 32 n := by decide +kernel
  exact h n hn
theorem tb_bit {n : Nat} (hn : n < 32) (i : Nat) : tb (bitI (n : Int)) i = decide (i = n) := by
  unfold tb
  rw [bitI_nat hn, BitVec.getLsbD_twoPow]
  by_cases h : i = n
  · subst h; simp [hn]
  · simp [h, Ne.symm h]
theorem sh_and (x : Int32) {n : Nat} (hn : n < 32) : shrI x (ii n) &&& ii 1 = if tb x n then ii 1 else ii 0 := by
  apply Int32.toBitVec_inj.mp
  show (shrI x (ii n)).toBitVec &&& 1#32 = _
  rw [(sh_bv (v := x) (k := n) hn).1]
  apply BitVec.eq_of_getLsbD_eq
  intro i hi
  rw [BitVec.getLsbD_and, BitVec.getLsbD_sshiftRight]
  by_cases h0 : i = 0
  · subst h0
    simp only [Nat.add_zero, hn, if_true]
    unfold tb
    cases x.toBitVec.getLsbD n <;> rfl
  · have h1 : (1#32).getLsbD i = false := by
      have : ∀ i, i < 32 → i ≠ 0 → (1#32).getLsbD i = false := by decide +kernel
      exact this i hi h0
    rw [h1, Bool.and_false]
    cases tb x n
    · show false = (0#32).getLsbD i; simp
    · show false = (1#32).getLsbD i; exact h1.symm
theorem R_has (x : Int32) {n : Nat} (hn : n < 32) : p_R_has x (ii n) = if tb x n then ii 1 else ii 0 := by
  unfold p_R_has
  rw [sh_and x hn]
  cases tb x n <;> decide
theorem C_holds (x : Int32) {n : Nat} (hn : n < 32) : p_HF_holds x (ii n) = if tb x n then ii 1 else ii 0 := by
  unfold p_HF_holds
  rw [sh_and x hn, if_neg (by rw [z0, ii_lt (by omega) (by omega) (by omega) (by omega)]; omega)]
  cases tb x n <;> decide
theorem C_bit (n : Int) : p_HF_bit (ii n) = bitI n := rfl
theorem R_bit (n : Int) : shlI (ii 1) (ii n) = bitI n := rfl
/-- the cells of P below n -/
def mkI (P : Nat → Bool) : Nat → Int32
  | 0 => ii 0
  | n + 1 => if P n then mkI P n ||| bitI (n : Int) else mkI P n
theorem tb_mk (P : Nat → Bool) {n : Nat} (hn : n ≤ 32) (i : Nat) : tb (mkI P n) i = (decide (i < n) && P i) := by
  induction n with
  | zero => unfold mkI; rw [tb_0]; simp
  | succ n ih =>
    have ih := ih (by omega)
    unfold mkI
    by_cases hP : P n = true
    · rw [if_pos hP, tb_or, ih, tb_bit (by omega)]
      by_cases h : i = n
      · subst h; simp [hP]
      · have : decide (i < n + 1) = decide (i < n) := by simp; omega
        simp [h, this]
    · rw [if_neg hP, ih]
      by_cases h : i = n
      · subst h; simp [hP]
      · have : decide (i < n + 1) = decide (i < n) := by simp; omega
        rw [this]
theorem mk_eq {P Q : Nat → Bool} {n : Nat} (h : ∀ i, i < n → P i = Q i) : mkI P n = mkI Q n := by
  induction n with
  | zero => rfl
  | succ n ih =>
    unfold mkI
    rw [h n (by omega), ih (fun i hi => h i (by omega))]
theorem mk_tb (x : Int32) {n : Nat} (hn : n ≤ 32) (h : ∀ i, n ≤ i → tb x i = false) : x = mkI (fun i => tb x i) n := by
  apply tb_ext
  intro i hi
  rw [tb_mk _ hn]
  by_cases h1 : i < n
  · simp [h1]
  · simp [h1, h i (by omega)]
theorem tb_all {n : Nat} (hn : n ≤ 30) (i : Nat) : tb (bitI (n : Int) - ii 1) i = decide (i < n) := by
  have h : ∀ n : Nat, n ≤ 30 → bitI (n : Int) - ii 1 = mkI (fun _ => true) n := by decide +kernel
  rw [h n hn, tb_mk _ (by omega)]
  simp
theorem tb_pos {x : Int32} (h : ∀ i, 30 ≤ i → tb x i = false) : 0 ≤ x.toInt ∧ x.toInt ≤ 1073741823 := by
  have h1 : x.toBitVec.toNat < 2 ^ 30 := by
    apply Nat.lt_pow_two_of_testBit
    exact fun i hi => h i hi
  have h2 : x.toInt = x.toBitVec.toInt := rfl
  rw [h2, BitVec.toInt_eq_toNat_cond]
  split <;> omega
