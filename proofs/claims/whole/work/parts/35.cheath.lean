/-! the class's heath -/
/-- a set of cells below n as bits -/
def bitI (c : Int) : Int32 := shlI (ii 1) (ii c)
/-- the cells beside c, as the class gathers them -/
def besM (hd : Nat → Int) (c : Int) : Int32 :=
  ((((ii 0) ||| (if nb (hd 0) (hd 1) c 0 = -1 then ii 0 else bitI (nb (hd 0) (hd 1) c 0))) ||| (if nb (hd 0) (hd 1) c 1 = -1 then ii 0 else bitI (nb (hd 0) (hd 1) c 1))) ||| (if nb (hd 0) (hd 1) c 2 = -1 then ii 0 else bitI (nb (hd 0) (hd 1) c 2))) ||| (if nb (hd 0) (hd 1) c 3 = -1 then ii 0 else bitI (nb (hd 0) (hd 1) c 3))
def trM (hd : Nat → Int) (f k : Nat) : Int := if k = 3 then wiM hd f else fkM hd f k
/-- the cells of the first n veins: in one at least, in two at least -/
def vcnt (hd : Nat → Int) (c : Int) : Nat → Nat
  | 0 => 0
  | v + 1 => vcnt hd c v + (if vAt hd v c = -1 then 0 else 1)
def CH (hd : Nat → Int) (o : Nat) (h : AH) : Prop :=
  h.1 o 5 = ii (hd 0) ∧ h.1 o 6 = ii (hd 1) ∧ h.1 o 7 = ii (hd 2) ∧ h.1 o 8 = ii (hd 3) ∧ h.1 o 9 = ii (cellsM hd) ∧ h.1 o 10 = ii (hd 7) ∧ h.1 o 11 = ii (hd 4) ∧
  (∀ c : Nat, (c : Int) < cellsM hd → h.1 (o + 1) c = ii (depM hd c) ∧ h.1 (o + 2) c = ii (irM hd c) ∧ h.1 (o + 3) c = ii (rkM hd c) ∧ h.1 (o + 4) c = besM hd c) ∧
  (∀ f k : Nat, (f : Int) < hd 7 → k < 6 → h.1 (o + 5) (6 * f + k) = ii (trM hd f k)) ∧
  ∀ c : Nat, c < 32 → (p_R_has (h.1 o 13) (ii c) = ii 1 ↔ ((c : Int) < cellsM hd ∧ 2 ≤ vcnt hd c (hd 4).toNat))
section CHS
variable {hd : Nat → Int} {o : Nat} {h : AH}
theorem C_isCell (C : CH hd o h) (W : HS hd) {c : Int} (c0 : -2147483648 ≤ c) (c1 : c ≤ 2147483647) : p_Heath_isCell o (ii c) h = if 0 ≤ c ∧ c < cellsM hd then ii 1 else ii 0 := by
  have hc := W.cells
  unfold p_Heath_isCell
  rw [C.2.2.2.2.1]
  simp (disch := omega) only [z0, ii_lt, ii_le]
  by_cases q : c < 0
  · rw [if_pos q, if_neg (by omega)]
  · rw [if_neg q]
    by_cases q2 : cellsM hd ≤ c
    · rw [if_pos q2, if_neg (by omega)]
    · rw [if_neg q2, if_neg (by omega), if_pos (by omega)]
theorem C_isFork (C : CH hd o h) (W : HS hd) {c : Int} (c0 : -2147483648 ≤ c) (c1 : c ≤ 2147483647) : p_Heath_isFork o (ii c) h = if 0 ≤ c ∧ c < hd 7 then ii 1 else ii 0 := by
  have hc := W.nf
  unfold p_Heath_isFork
  rw [C.2.2.2.2.2.1]
  simp (disch := omega) only [z0, ii_lt, ii_le]
  by_cases q : c < 0
  · rw [if_pos q, if_neg (by omega)]
  · rw [if_neg q]
    by_cases q2 : hd 7 ≤ c
    · rw [if_pos q2, if_neg (by omega)]
    · rw [if_neg q2, if_neg (by omega), if_pos (by omega)]
theorem i10 : ¬ (ii 1 = 0) := by decide
theorem i00 : ii 0 = 0 := rfl
theorem C_in (C : CH hd o h) (W : HS hd) {c : Int} (h0 : 0 ≤ c) (h1 : c < cellsM hd) : p_Heath_isCell o (ii c) h = ii 1 := by
  have := W.cells
  rw [C_isCell C W (by omega) (by omega), if_pos ⟨h0, h1⟩]
theorem C_out (C : CH hd o h) (W : HS hd) {c : Int} (c0 : -2147483648 ≤ c) (c1 : c ≤ 2147483647) (hn : ¬ (0 ≤ c ∧ c < cellsM hd)) : p_Heath_isCell o (ii c) h = ii 0 := by rw [C_isCell C W c0 c1, if_neg hn]
theorem C_fin (C : CH hd o h) (W : HS hd) {c : Int} (h0 : 0 ≤ c) (h1 : c < hd 7) : p_Heath_isFork o (ii c) h = ii 1 := by
  have := W.nf
  rw [C_isFork C W (by omega) (by omega), if_pos ⟨h0, h1⟩]
theorem C_fout (C : CH hd o h) (W : HS hd) {c : Int} (c0 : -2147483648 ≤ c) (c1 : c ≤ 2147483647) (hn : ¬ (0 ≤ c ∧ c < hd 7)) : p_Heath_isFork o (ii c) h = ii 0 := by rw [C_isFork C W c0 c1, if_neg hn]
theorem C_beyond (C : CH hd o h) (W : HW hd) {c way : Int} (h0 : 0 ≤ c) (h1 : c < cellsM hd) (y0 : 0 ≤ way) (y1 : way ≤ 3) : f_Heath_beyond o (ii c) (ii way) h = some (ii (nb (hd 0) (hd 1) c way)) := by
  have hcl := W.cells
  have hw := W.1
  have hm := mod_lt6 (c := c) (show 0 < hd 0 by omega)
  have hdv := div_lt (show 0 < hd 0 by omega) h0 (show c < hd 0 * hd 1 from h1)
  have hdm := Int.mul_ediv_add_emod c (hd 0)
  have ecol : f_Heath_columnOf o (ii c) h = some (ii (c % hd 0)) := by
    unfold f_Heath_columnOf
    rw [C.1, if_pos (by rw [ii_le (by omega) (by omega) (by omega) (by omega)]; omega), if_pos (by rw [ii_z (by omega) (by omega)]; omega), ii_rem h0 (by omega) (by omega) (by omega)]
  have erow : f_Heath_rowOf o (ii c) h = some (ii (c / hd 0)) := by
    unfold f_Heath_rowOf
    rw [C.1, if_pos (by rw [ii_le (by omega) (by omega) (by omega) (by omega)]; omega), if_pos (by rw [ii_z (by omega) (by omega)]; omega), ii_div h0 (by omega) (by omega) (by omega)]
  unfold f_Heath_beyond
  rw [C_in C (Or.inr W) h0 h1, if_neg i10, ecol, erow, C.1, C.2.1]
  rcases (show way = 0 ∨ way = 1 ∨ way = 2 ∨ way = 3 by omega) with e | e | e | e
  · subst e
    rw [if_pos rfl]
    show (if ii (hd 0) ≤ ii (c % hd 0) + ii 1 then _ else _) = _
    have e1 : nb (hd 0) (hd 1) c 0 = if c % hd 0 + 1 < hd 0 then c + 1 else -1 := by
      unfold nb
      simp only [show dx 0 = 1 from rfl, show dy 0 = 0 from rfl]
      by_cases q : c % hd 0 + 1 < hd 0
      · rw [if_pos (by omega), if_pos q]
        rw [Int.add_zero, Int.mul_comm]; omega
      · rw [if_neg (by omega), if_neg q]
    rw [ii_add, ii_add, e1]
    simp (disch := omega) only [ii_le]
    by_cases q : c % hd 0 + 1 < hd 0
    · rw [if_neg (by omega), if_pos q]
    · rw [if_pos (by omega), if_neg q]
  · subst e
    rw [if_neg (by decide), if_pos rfl]
    show (if ii (hd 1) ≤ ii (c / hd 0) + ii 1 then _ else _) = _
    have e1 : nb (hd 0) (hd 1) c 1 = if c / hd 0 + 1 < hd 1 then c + hd 0 else -1 := by
      unfold nb
      simp only [show dx 1 = 0 from rfl, show dy 1 = 1 from rfl]
      by_cases q : c / hd 0 + 1 < hd 1
      · rw [if_pos (by omega), if_pos q]
        rw [Int.add_mul, Int.mul_comm]; omega
      · rw [if_neg (by omega), if_neg q]
    rw [ii_add, ii_add, e1]
    simp (disch := omega) only [ii_le]
    by_cases q : c / hd 0 + 1 < hd 1
    · rw [if_neg (by omega), if_pos q]
    · rw [if_pos (by omega), if_neg q]
  · subst e
    rw [if_neg (by decide), if_neg (by decide), if_pos rfl]
    show (if ii (c % hd 0) ≤ 0 then _ else _) = _
    have e1 : nb (hd 0) (hd 1) c 2 = if 0 < c % hd 0 then c - 1 else -1 := by
      unfold nb
      simp only [show dx 2 = -1 from rfl, show dy 2 = 0 from rfl]
      by_cases q : 0 < c % hd 0
      · rw [if_pos (by omega), if_pos q]
        rw [Int.add_zero, Int.mul_comm]; omega
      · rw [if_neg (by omega), if_neg q]
    rw [ii_sub, e1, z0]
    simp (disch := omega) only [ii_le]
    by_cases q : 0 < c % hd 0
    · rw [if_neg (by omega), if_pos q]
    · rw [if_pos (by omega), if_neg q]
  · subst e
    rw [if_neg (by decide), if_neg (by decide), if_neg (by decide), if_pos rfl]
    show (if ii (c / hd 0) ≤ 0 then _ else _) = _
    have e1 : nb (hd 0) (hd 1) c 3 = if 0 < c / hd 0 then c - hd 0 else -1 := by
      unfold nb
      simp only [show dx 3 = 0 from rfl, show dy 3 = -1 from rfl]
      by_cases q : 0 < c / hd 0
      · rw [if_pos (by omega), if_pos q]
        rw [Int.add_mul, Int.mul_comm]; omega
      · rw [if_neg (by omega), if_neg q]
    rw [ii_sub, e1, z0]
    simp (disch := omega) only [ii_le]
    by_cases q : 0 < c / hd 0
    · rw [if_neg (by omega), if_pos q]
    · rw [if_pos (by omega), if_neg q]
theorem C_beyond_out (C : CH hd o h) (W : HS hd) {c : Int} {a : Int32} (c0 : -2147483648 ≤ c) (c1 : c ≤ 2147483647) (hn : ¬ (0 ≤ c ∧ c < cellsM hd)) : f_Heath_beyond o (ii c) a h = some (ii (-1)) := by
  unfold f_Heath_beyond
  rw [C_out C W c0 c1 hn, if_pos i00]
theorem C_beyond_way (C : CH hd o h) {a way : Int} (y0 : -2147483648 ≤ way) (y1 : way ≤ 2147483647) (hn : ¬ (0 ≤ way ∧ way ≤ 3)) : f_Heath_beyond o (ii a) (ii way) h = some (ii (-1)) := by
  unfold f_Heath_beyond
  by_cases q : p_Heath_isCell o (ii a) h = 0
  · rw [if_pos q]
  · rw [if_neg q]
    simp (disch := omega) only [ii_eq]
    rw [if_neg (by omega), if_neg (by omega), if_neg (by omega), if_neg (by omega)]
theorem C_hasWater (C : CH hd o h) (W : HW hd) {c : Int} (h0 : 0 ≤ c) (h1 : c < cellsM hd) : f_Heath_hasWater o (ii c) h = some (if depM hd c = -1 then ii 0 else ii 1) := by
  have hcl := W.cells
  have hd1 := depM_lo W c
  have e := (C.2.2.2.2.2.2.2.1 c.toNat (by omega)).1
  rw [Int.toNat_of_nonneg h0] at e
  unfold f_Heath_hasWater
  rw [C_in C (Or.inr W) h0 h1, if_neg i10, if_pos (inbn (j := c.toNat) (by omega) (by omega) (by omega)), nix (z := c) (j := c.toNat) (by omega) (by omega), e]
  simp (disch := omega) only [ii_eq]
  split <;> rfl
theorem C_hasWater_out (C : CH hd o h) (W : HS hd) {c : Int} (c0 : -2147483648 ≤ c) (c1 : c ≤ 2147483647) (hn : ¬ (0 ≤ c ∧ c < cellsM hd)) : f_Heath_hasWater o (ii c) h = some (ii 0) := by
  unfold f_Heath_hasWater
  rw [C_out C W c0 c1 hn, if_pos i00]
theorem C_waterIn (C : CH hd o h) (W : HW hd) {c s : Int} (h0 : 0 ≤ c) (h1 : c < cellsM hd) (s0 : 0 ≤ s) (s1 : s ≤ 3) : f_Heath_waterIn o (ii c) (ii s) h = some (ii (watM hd c s)) := by
  have hcl := W.cells
  have hw := W.1
  have hd1 := depM_lo W c
  have e := (C.2.2.2.2.2.2.2.1 c.toNat (by omega)).1
  rw [Int.toNat_of_nonneg h0] at e
  unfold f_Heath_waterIn
  rw [C_hasWater C W h0 h1]
  unfold watM
  by_cases q : depM hd c = -1
  · rw [if_pos q, if_pos q]; rfl
  · rw [if_neg q, if_neg q]
    rw [Option.bind_some, if_neg i10, if_pos (inbn (j := c.toNat) (by omega) (by omega) (by omega)), nix (z := c) (j := c.toNat) (by omega) (by omega), e, C.2.2.1]
    have es : (if ii s = ii 2 then ii 2 else ii s &&& ii 1) * ii (hd 2) = ii (addM hd s) := by
      rcases (show s = 0 ∨ s = 1 ∨ s = 2 ∨ s = 3 by omega) with e | e | e | e <;> subst e
      · show ii 0 * ii (hd 2) = ii 0
        rw [ii_mul]; simp
      · show ii 1 * ii (hd 2) = ii (hd 2)
        rw [ii_mul]; simp
      · show ii 2 * ii (hd 2) = ii (2 * hd 2)
        rw [ii_mul]
      · show ii 1 * ii (hd 2) = ii (hd 2)
        rw [ii_mul]; simp
    have ea : 0 ≤ addM hd s ∧ addM hd s ≤ 18 := by
      rcases (show s = 0 ∨ s = 1 ∨ s = 2 ∨ s = 3 by omega) with e | e | e | e <;> subst e <;> simp [addM] <;> omega
    rw [es, ii_add, min99 (by omega) (by omega)]
theorem C_waterIn_out (C : CH hd o h) (W : HS hd) {c : Int} {a : Int32} (c0 : -2147483648 ≤ c) (c1 : c ≤ 2147483647) (hn : ¬ (0 ≤ c ∧ c < cellsM hd)) : f_Heath_waterIn o (ii c) a h = some (ii (-1)) := by
  unfold f_Heath_waterIn
  rw [C_hasWater_out C W c0 c1 hn]
  rfl
theorem C_ironIn (C : CH hd o h) (W : HW hd) {c : Int} (h0 : 0 ≤ c) (h1 : c < cellsM hd) : f_Heath_ironIn o (ii c) h = some (ii (irM hd c)) := by
  have hcl := W.cells
  have e := (C.2.2.2.2.2.2.2.1 c.toNat (by omega)).2.1
  rw [Int.toNat_of_nonneg h0] at e
  unfold f_Heath_ironIn
  rw [C_in C (Or.inr W) h0 h1, if_neg i10, if_pos (inbn (j := c.toNat) (by omega) (by omega) (by omega)), nix (z := c) (j := c.toNat) (by omega) (by omega), e]
theorem C_rockIn (C : CH hd o h) (W : HW hd) {c : Int} (h0 : 0 ≤ c) (h1 : c < cellsM hd) : f_Heath_rockIn o (ii c) h = some (ii (rkM hd c)) := by
  have hcl := W.cells
  have e := (C.2.2.2.2.2.2.2.1 c.toNat (by omega)).2.2.1
  rw [Int.toNat_of_nonneg h0] at e
  unfold f_Heath_rockIn
  rw [C_in C (Or.inr W) h0 h1, if_neg i10, if_pos (inbn (j := c.toNat) (by omega) (by omega) (by omega)), nix (z := c) (j := c.toNat) (by omega) (by omega), e]
theorem C_besideOf (C : CH hd o h) (W : HW hd) {c : Int} (h0 : 0 ≤ c) (h1 : c < cellsM hd) : f_Heath_besideOf o (ii c) h = some (besM hd c) := by
  have hcl := W.cells
  have e := (C.2.2.2.2.2.2.2.1 c.toNat (by omega)).2.2.2
  rw [Int.toNat_of_nonneg h0] at e
  unfold f_Heath_besideOf
  rw [C_in C (Or.inr W) h0 h1, if_neg i10, if_pos (inbn (j := c.toNat) (by omega) (by omega) (by omega)), nix (z := c) (j := c.toNat) (by omega) (by omega), e]
theorem C_trait (C : CH hd o h) (W : HW hd) {f k : Nat} (hf : (f : Int) < hd 7) (hk : k < 6) : f_Heath_trait o (ii f) (ii k) h = some (ii (trM hd f k)) := by
  have hw := W.1
  unfold f_Heath_trait
  rw [C_fin C (Or.inr W) (by omega) hf, if_neg i10, if_neg (by rw [z0, ii_lt (by omega) (by omega) (by omega) (by omega)]; omega), if_pos (by rw [ii_lt (by omega) (by omega) (by omega) (by omega)]; omega), ii_mul, ii_add, if_pos (inbn (j := 6 * f + k) (by omega) (by omega) (by omega)), nix (z := (f : Int) * 6 + k) (j := 6 * f + k) (by omega) (by omega), C.2.2.2.2.2.2.2.2.1 f k hf hk]
end CHS
