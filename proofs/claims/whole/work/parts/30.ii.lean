/-! ints as images of integers; reads behind writes -/
theorem z0 : (0 : Int32) = ii 0 := rfl
theorem z1 : (1 : Int32) = ii 1 := rfl
theorem ii_of (x : Int32) : x = ii x.toInt := (Int32.ofInt_toInt x).symm
theorem ii_ex (x : Int32) : ∃ z : Int, -2147483648 ≤ z ∧ z ≤ 2147483647 ∧ x = ii z := ⟨x.toInt, by have := Int32.le_toInt x; simpa using this, (by have := Int32.toInt_lt x; omega), ii_of x⟩
theorem ii_toInt {a : Int} (h1 : -2147483648 ≤ a) (h2 : a ≤ 2147483647) : (ii a).toInt = a := by
  rw [ii, Int32.toInt_ofInt]
  rw [Int.bmod_eq_of_le]
  · simpa using h1
  · have : a < 2147483648 := by omega
    simpa using this
theorem ii_add (a b : Int) : ii a + ii b = ii (a + b) := by simp [ii, Int32.ofInt_add]
theorem ii_sub (a b : Int) : ii a - ii b = ii (a - b) := by simp [ii, Int32.ofInt_sub]
theorem ii_mul (a b : Int) : ii a * ii b = ii (a * b) := by simp [ii, Int32.ofInt_mul]
theorem ii_neg (a : Int) : - ii a = ii (-a) := by simp [ii, Int32.ofInt_neg]
theorem ii_lt {a b : Int} (h1 : -2147483648 ≤ a) (h2 : a ≤ 2147483647) (h3 : -2147483648 ≤ b) (h4 : b ≤ 2147483647) : (ii a < ii b) ↔ a < b := by
  rw [Int32.lt_iff_toInt_lt, ii_toInt h1 h2, ii_toInt h3 h4]
theorem ii_le {a b : Int} (h1 : -2147483648 ≤ a) (h2 : a ≤ 2147483647) (h3 : -2147483648 ≤ b) (h4 : b ≤ 2147483647) : (ii a ≤ ii b) ↔ a ≤ b := by
  rw [Int32.le_iff_toInt_le, ii_toInt h1 h2, ii_toInt h3 h4]
theorem ii_eq {a b : Int} (h1 : -2147483648 ≤ a) (h2 : a ≤ 2147483647) (h3 : -2147483648 ≤ b) (h4 : b ≤ 2147483647) : (ii a = ii b) ↔ a = b := by
  constructor
  · intro h
    have := congrArg Int32.toInt h
    rwa [ii_toInt h1 h2, ii_toInt h3 h4] at this
  · intro h; rw [h]
theorem ii_nat {a : Int} (h1 : 0 ≤ a) (h2 : a ≤ 2147483647) : (ii a).toNatClampNeg = a.toNat := by
  show (ii a).toInt.toNat = a.toNat
  rw [ii_toInt (by omega) h2]
theorem ii_inb {a : Int} {n : Nat} (h1 : -2147483648 ≤ a) (h2 : a ≤ 2147483647) : inb (ii a) n = true ↔ 0 ≤ a ∧ a < n := by
  simp only [inb, Bool.and_eq_true, decide_eq_true_eq]
  rw [z0, ii_le (by omega) (by omega) h1 h2]
  constructor
  · rintro ⟨a1, a2⟩
    rw [ii_nat a1 h2] at a2
    exact ⟨a1, by omega⟩
  · rintro ⟨a1, a2⟩
    refine ⟨a1, ?_⟩
    rw [ii_nat a1 h2]
    omega
theorem ii_div {a b : Int} (h1 : 0 ≤ a) (h2 : a ≤ 2147483647) (h3 : 0 < b) (h4 : b ≤ 2147483647) : ii a / ii b = ii (a / b) := by
  obtain ⟨n, rfl⟩ := Int.eq_ofNat_of_zero_le h1
  obtain ⟨k, rfl⟩ := Int.eq_ofNat_of_zero_le (show 0 ≤ b by omega)
  have e1 : ii (n : Int) = nI n := (i32_nat n).symm
  have e2 : ii (k : Int) = nI k := (i32_nat k).symm
  rw [e1, e2, pk_div (by omega) (by omega) (by omega)]
  show nI (n / k) = ii ((n : Int) / (k : Int))
  rw [show ((n : Int) / (k : Int)) = ((n / k : Nat) : Int) by simp]
  exact i32_nat (n / k)
theorem ii_rem {a b : Int} (h1 : 0 ≤ a) (h2 : a ≤ 2147483647) (h3 : 0 < b) (h4 : b ≤ 2147483647) : remI (ii a) (ii b) = ii (a % b) := by
  rw [remI, ii_div h1 h2 h3 h4, ii_mul, ii_sub]
  congr 1
  have := Int.mul_ediv_add_emod a b
  rw [Int.mul_comm] at this
  omega
theorem ii_i64 {a : Int} (h1 : -2147483648 ≤ a) (h2 : a ≤ 2147483647) : (ii a).toInt64 = Int64.ofInt a := by
  apply Int64.toInt_inj.mp
  rw [Int32.toInt_toInt64, ii_toInt h1 h2, Int64.toInt_ofInt, Int.bmod_eq_of_le]
  · have : -9223372036854775808 ≤ a := by omega
    simpa using this
  · have : a < 9223372036854775808 := by omega
    simpa using this
/-! heap reads -/
theorem wI_ne {h : AH} {o o' j : Nat} {v : Int32} (n : o' ≠ o) : (wI h o j v).1 o' = h.1 o' := by simp [wI, up2_ne n]
theorem wI_self {h : AH} {o j : Nat} {v : Int32} : (wI h o j v).1 o = upd (h.1 o) j v := by simp [wI, up2_self]
theorem wI_2 {h : AH} {o j : Nat} {v : Int32} : (wI h o j v).2 = h.2 := rfl
theorem wI_rd {h : AH} {o o' j j' : Nat} {v : Int32} : (wI h o j v).1 o' j' = if o' = o then (if j' = j then v else h.1 o j') else h.1 o' j' := by
  by_cases e : o' = o
  · subst e; simp [wI, up2_self, upd]
  · simp [wI, up2_ne e, e]
theorem wL_1 {h : AH} {o j : Nat} {v : Int64} : (wL h o j v).1 = h.1 := rfl
theorem wR_1 {h : AH} {o j v : Nat} : (wR h o j v).1 = h.1 := rfl
theorem wR_rd {h : AH} {o o' j j' v : Nat} : (wR h o j v).2.2 o' j' = if o' = o then (if j' = j then v else h.2.2 o j') else h.2.2 o' j' := by
  by_cases e : o' = o
  · subst e; simp [wR, up2_self, va_up]
  · simp [wR, up2_ne e, e]
theorem wL_22 {h : AH} {o j : Nat} {v : Int64} : (wL h o j v).2.2 = h.2.2 := rfl
theorem wR_21 {h : AH} {o j v : Nat} : (wR h o j v).2.1 = h.2.1 := rfl
theorem wA_ne {h : AH} {o o' : Nat} {g : Nat → Int32} (n : o' ≠ o) : (wA h o g).1 o' = h.1 o' := by simp [wA, up2_ne n]
theorem wA_self {h : AH} {o : Nat} {g : Nat → Int32} : (wA h o g).1 o = g := by simp [wA, up2_self]
theorem wA_2 {h : AH} {o : Nat} {g : Nat → Int32} : (wA h o g).2 = h.2 := rfl
theorem upd_self {f : Nat → Int32} {j : Nat} {v : Int32} : upd f j v j = v := by simp [upd]
theorem upd_ne {f : Nat → Int32} {j k : Nat} {v : Int32} (n : k ≠ j) : upd f j v k = f k := by simp [upd, n]
/-- only the cells S differ (longs and references stay) -/
def Ag (S : List Nat) (h h' : AH) : Prop := (∀ o, o ∉ S → h'.1 o = h.1 o) ∧ h'.2 = h.2
theorem Ag.rf (S : List Nat) (h : AH) : Ag S h h := ⟨fun _ _ => rfl, rfl⟩
theorem Ag.tr {S : List Nat} {h h' h'' : AH} (a : Ag S h h') (b : Ag S h' h'') : Ag S h h'' := ⟨fun o ho => (b.1 o ho).trans (a.1 o ho), b.2.trans a.2⟩
theorem Ag.mono {S T : List Nat} {h h' : AH} (a : Ag S h h') (st : ∀ o ∈ S, o ∈ T) : Ag T h h' := ⟨fun o ho => a.1 o (fun z => ho (st o z)), a.2⟩
theorem Ag.pI {S : List Nat} {h h' : AH} (a : Ag S h h') {o j : Nat} {v : Int32} (ho : o ∈ S) : Ag S h (wI h' o j v) := ⟨fun o' ho' => by rw [wI_ne (o := o) (o' := o') (fun e => by subst e; exact ho' ho)]; exact a.1 o' ho', a.2⟩
theorem Ag.pA {S : List Nat} {h h' : AH} (a : Ag S h h') {o : Nat} {g : Nat → Int32} (ho : o ∈ S) : Ag S h (wA h' o g) := ⟨fun o' ho' => by rw [wA_ne (o := o) (o' := o') (fun e => by subst e; exact ho' ho)]; exact a.1 o' ho', a.2⟩
