/-! the reference's heath -/
def RH (hd : Nat → Int) (h : AH) : Prop :=
  (∀ j, j < 4 → h.1 85 j = ii (hd j)) ∧ h.1 80 30 = ii (hd 4) ∧ h.1 80 31 = ii (hd 5) ∧ h.1 80 32 = ii (hd 6) ∧ h.1 80 33 = ii (hd 7) ∧ h.1 80 34 = ii (cellsM hd) ∧
  (∀ j, j < 52 → h.1 87 j = ii (hd (10 + j))) ∧ (∀ j, j < 12 → h.1 89 j = ii (hd (70 + j))) ∧ (∀ j, j < 12 → h.1 91 j = ii (hd (90 + j))) ∧ ∀ j, j < 36 → h.1 93 j = ii (hd (110 + j))
theorem inbn {z : Int} {j n : Nat} (e : z = j) (hj : j < n) (hn : n < 2147483648) : inb (ii z) n = true := by
  rw [e, ii_inb (by omega) (by omega)]
  omega
theorem nix {z : Int} {j : Nat} (e : z = j) (hj : j < 2147483648) : (ii z).toNatClampNeg = j := by
  rw [e, ii_nat (by omega) (by omega)]
  simp
section RHS
variable {hd : Nat → Int} {h : AH}
theorem R_stepTo (R : RH hd h) (W : HW hd) {c way : Int} (h0 : 0 ≤ c) (h1 : c < cellsM hd) (y0 : 0 ≤ way) (y1 : way ≤ 3) : f_R_stepTo (ii c) (ii way) h = some (ii (nb (hd 0) (hd 1) c way)) := by
  unfold f_R_stepTo
  rw [if_pos (by decide), if_pos (by decide)]
  have e0 : h.1 85 (ii 0).toNatClampNeg = ii (hd 0) := R.1 0 (by omega)
  have e1 : h.1 85 (ii 1).toNatClampNeg = ii (hd 1) := R.1 1 (by omega)
  rw [e0, e1, R_beside h W.1.1 W.1.2.1 W.1.2.2.1 W.1.2.2.2.1 h0 h1 y0 y1]
  rfl
theorem R_veinAt_l (R : RH hd h) (W : HW hd) {v : Nat} (hv : (v : Int) < hd 4) {c : Int} (c0 : -2147483648 ≤ c) (c1 : c ≤ 2147483647) : ∀ (m k n : Nat), (k : Int) + m = hd (10 + 13 * v + 3) → m + 1 < n → R_veinAt_L13 n (ii v) (ii c) (ii (vc hd v k)) (ii k) h = some (ii (vAtF hd v c m k)) := by
  obtain ⟨⟨w1, w2, w3, w4, w5, w6, w7, w8, w9, w10, -⟩, wv, -⟩ := id W
  obtain ⟨d1, d2, f1, f2, l1, l2, wy, wc⟩ := wv v hv
  have v4 : v < 4 := by omega
  have hcm := W.cells
  have e3 : h.1 87 (ii (13 * (v : Int) + 3)).toNatClampNeg = ii (hd (10 + 13 * v + 3)) := by rw [nix (z := 13 * (v : Int) + 3) (j := 13 * v + 3) (by omega) (by omega), R.2.2.2.2.2.2.1 _ (by omega)]; rfl
  have e1 : h.1 87 (ii (13 * (v : Int) + 1)).toNatClampNeg = ii (hd (10 + 13 * v + 1)) := by rw [nix (z := 13 * (v : Int) + 1) (j := 13 * v + 1) (by omega) (by omega), R.2.2.2.2.2.2.1 _ (by omega)]; rfl
  have e2 : h.1 87 (ii (13 * (v : Int) + 2)).toNatClampNeg = ii (hd (10 + 13 * v + 2)) := by rw [nix (z := 13 * (v : Int) + 2) (j := 13 * v + 2) (by omega) (by omega), R.2.2.2.2.2.2.1 _ (by omega)]; rfl
  intro m
  induction m with
  | zero =>
    intro k n hk hn
    obtain ⟨n, rfl⟩ : ∃ z, n = z + 2 := ⟨n - 2, by omega⟩
    show R_veinAt_L13_b (R_veinAt_L13 (n + 1)) (ii v) (ii c) (ii (vc hd v k)) (ii k) h = _
    have hck := wc k (by omega)
    unfold R_veinAt_L13_b
    simp only [ii_mul, ii_add, e1, e2, e3]
    rw [if_pos (inbn (j := 13 * v + 3) (by omega) (by omega) (by omega)), if_neg (by rw [ii_lt (by omega) (by omega) (by omega) (by omega)]; omega)]
    unfold vAtF
    by_cases q : vc hd v k = c
    · rw [if_pos (by rw [q]), if_pos q, if_pos (inbn (j := 13 * v + 1) (by omega) (by omega) (by omega)), if_pos (inbn (j := 13 * v + 2) (by omega) (by omega) (by omega))]
    · rw [if_neg (by rw [ii_eq (by omega) (by omega) c0 c1]; exact q), if_neg q, if_pos (inbn (j := 13 * v + 3) (by omega) (by omega) (by omega)), if_pos (by rw [ii_le (by omega) (by omega) (by omega) (by omega)]; omega)]
      show R_veinAt_L13_b (R_veinAt_L13 n) (ii v) (ii c) (ii (vc hd v k)) (ii (k + 1)) h = _
      unfold R_veinAt_L13_b
      simp only [ii_mul, ii_add, e1, e2, e3]
      rw [if_pos (inbn (j := 13 * v + 3) (by omega) (by omega) (by omega)), if_pos (by rw [ii_lt (by omega) (by omega) (by omega) (by omega)]; omega)]
  | succ m ih =>
    intro k n hk hn
    obtain ⟨n, rfl⟩ : ∃ z, n = z + 1 := ⟨n - 1, by omega⟩
    show R_veinAt_L13_b (R_veinAt_L13 n) (ii v) (ii c) (ii (vc hd v k)) (ii k) h = _
    have hck := wc k (by omega)
    have hyk := wy k (by omega)
    unfold R_veinAt_L13_b
    simp only [ii_mul, ii_add, e1, e2, e3]
    rw [if_pos (inbn (j := 13 * v + 3) (by omega) (by omega) (by omega)), if_neg (by rw [ii_lt (by omega) (by omega) (by omega) (by omega)]; omega)]
    unfold vAtF
    by_cases q : vc hd v k = c
    · rw [if_pos (by rw [q]), if_pos q, if_pos (inbn (j := 13 * v + 1) (by omega) (by omega) (by omega)), if_pos (inbn (j := 13 * v + 2) (by omega) (by omega) (by omega))]
    · rw [if_neg (by rw [ii_eq (by omega) (by omega) c0 c1]; exact q), if_neg q, if_pos (inbn (j := 13 * v + 3) (by omega) (by omega) (by omega)), if_neg (by rw [ii_le (by omega) (by omega) (by omega) (by omega)]; omega), if_pos (inbn (j := 13 * v + 4 + k) (by omega) (by omega) (by omega))]
      have e4 : h.1 87 (ii (13 * (v : Int) + 4 + k)).toNatClampNeg = ii (hd (10 + 13 * v + 4 + k)) := by
        rw [nix (z := 13 * (v : Int) + 4 + k) (j := 13 * v + 4 + k) (by omega) (by omega), R.2.2.2.2.2.2.1 _ (by omega)]
        congr 2; omega
      rw [e4, R_stepTo R W hck.1 hck.2 hyk.1 hyk.2]
      have := ih (k + 1) n (by omega) (by omega)
      exact this
theorem R_veinAt (R : RH hd h) (W : HW hd) {v : Nat} (hv : (v : Int) < hd 4) {c : Int} (c0 : -2147483648 ≤ c) (c1 : c ≤ 2147483647) : f_R_veinAt (ii v) (ii c) h = some (ii (vAt hd v c)) := by
  obtain ⟨⟨w1, w2, w3, w4, w5, w6, w7, w8, w9, w10, -⟩, wv, -⟩ := id W
  obtain ⟨d1, d2, f1, f2, l1, l2, wy, wc⟩ := wv v hv
  unfold f_R_veinAt
  rw [ii_mul, if_pos (inbn (j := 13 * v) (by omega) (by omega) (by omega)), nix (z := 13 * (v : Int)) (j := 13 * v) (by omega) (by omega), R.2.2.2.2.2.2.1 _ (by omega)]
  have := R_veinAt_l R W hv c0 c1 (hd (10 + 13 * v + 3)).toNat 0 FU (by omega) (by unfold FU; omega)
  exact this
theorem vAtF_lo (W : HW hd) {v : Nat} (hv : (v : Int) < hd 4) (c : Int) : ∀ m k : Nat, (k : Int) + m ≤ 8 → vAtF hd v c m k = -1 ∨ (1 ≤ vAtF hd v c m k ∧ vAtF hd v c m k ≤ 132) := by
  obtain ⟨⟨w1, w2, w3, w4, w5, w6, w7, w8, w9, w10, -⟩, wv, -⟩ := id W
  obtain ⟨d1, d2, f1, f2, l1, l2, wy, wc⟩ := wv v hv
  have key : ∀ k : Nat, k ≤ 8 → 1 ≤ hd (10 + 13 * v + 1) + k * hd (10 + 13 * v + 2) ∧ hd (10 + 13 * v + 1) + k * hd (10 + 13 * v + 2) ≤ 132 := by
    intro k hk
    have h1 : (0 : Int) ≤ k * hd (10 + 13 * v + 2) := Int.mul_nonneg (by omega) f1
    have h2 : (k : Int) * hd (10 + 13 * v + 2) ≤ 8 * 9 := Int.mul_le_mul (by omega) f2 f1 (by omega)
    omega
  intro m
  induction m with
  | zero =>
    intro k hk
    unfold vAtF
    split
    · exact Or.inr (key k (by omega))
    · exact Or.inl rfl
  | succ m ih =>
    intro k hk
    unfold vAtF
    split
    · exact Or.inr (key k (by omega))
    · exact ih (k + 1) (by omega)
theorem vAt_lo (W : HW hd) {v : Nat} (hv : (v : Int) < hd 4) (c : Int) : vAt hd v c = -1 ∨ (1 ≤ vAt hd v c ∧ vAt hd v c ≤ 132) := by
  have := (W.2.1 v hv)
  exact vAtF_lo W hv c _ 0 (by omega)
theorem dmin_lo (W : HW hd) (c : Int) : ∀ n : Nat, (n : Int) ≤ hd 4 → dmin hd c n = -1 ∨ (1 ≤ dmin hd c n ∧ dmin hd c n ≤ 132) := by
  intro n
  induction n with
  | zero => intro _; exact Or.inl rfl
  | succ n ih =>
    intro hn
    unfold dmin
    split
    · exact vAt_lo W (by omega) c
    · exact ih (by omega)
theorem depM_lo (W : HW hd) (c : Int) : depM hd c = -1 ∨ (1 ≤ depM hd c ∧ depM hd c ≤ 132) := dmin_lo W c _ (by have := W.1; omega)
end RHS
