/-! what changes: d as the reference's row 'now' has it: places 2f, pays 2f+1, trails 12 13, wells 14+c, cost 44, season 45, book 46 (length), 47+3j .. (the oldest first) -/
abbrev DY : Type := Nat → Int32
abbrev MV : Type := (Nat → Int32) × (Nat → Int32) × (Nat → Int32) × (Nat → Int32) × (Nat → Int32) × Int32 × Int32 × Int32 × Int32
def mvO (h : AH) (p : Nat) : MV := (h.1 (p + 1), h.1 (p + 2), h.1 (p + 3), h.1 (p + 4), h.1 (p + 5), h.1 p 5, h.1 p 6, h.1 p 7, h.1 p 8)
def wlM (d : DY) : Int32 := mkI (fun c => d (14 + c) != 0) 30
def bkE (d : DY) (j : Nat) : Int32 := (((d (47 + 3 * j)) * (ii 100)) + d (48 + 3 * j)) * (ii 100) + d (49 + 3 * j)
/-- the book's length -/
def bL (d : DY) : Nat := (d 46).toInt.toNat
def DW (hd : Nat → Int) (d : DY) : Prop :=
  (∃ s : Int, 0 ≤ s ∧ s ≤ 3 ∧ d 45 = ii s) ∧
  (∀ f : Nat, (f : Int) < hd 7 → ∃ c : Int, 0 ≤ c ∧ c < cellsM hd ∧ d (2 * f) = ii c) ∧
  (∀ c : Nat, c < 30 → ∃ z : Int, 0 ≤ z ∧ z ≤ 60 ∧ d (14 + c) = ii z ∧ (cellsM hd ≤ c → z = 0)) ∧
  (d 46 = ii (bL d) ∧ bL d ≤ 60) ∧
  ∀ j : Nat, j < bL d → ∃ f c t : Int, (0 ≤ f ∧ f < hd 7 ∧ 0 ≤ c ∧ c < cellsM hd ∧ 0 ≤ t ∧ t ≤ 99) ∧ d (47 + 3 * j) = ii f ∧ d (48 + 3 * j) = ii c ∧ d (49 + 3 * j) = ii t
def MR (hd : Nat → Int) (d : DY) (wr : Nat) (M : MV) : Prop :=
  (∀ f : Nat, (f : Int) < hd 7 → M.1 f = d (2 * f)) ∧
  (∀ f : Nat, f < 6 → M.2.1 f = if (f : Int) < hd 7 then d (2 * f + 1) else ii 0) ∧
  (M.2.2.1 0 = d 12 ∧ M.2.2.1 1 = d 13) ∧
  (M.2.2.2.2.2.1 = ii wr ∧ wr ≤ 1000000 ∧ bL d = min wr 60 ∧ ∀ i, i < bL d → M.2.2.2.1 ((wr - 1 - i) % 100) = bkE d (bL d - 1 - i)) ∧
  (∀ c : Nat, c < 30 → M.2.2.2.2.1 c = d (14 + c)) ∧ M.2.2.2.2.2.2.1 = wlM d ∧ M.2.2.2.2.2.2.2.1 = d 44 ∧ M.2.2.2.2.2.2.2.2 = d 45
section MOOR
variable {hd : Nat → Int} {d : DY} {wr p : Nat} {h : AH}
theorem M_season (M : MR hd d wr (mvO h p)) : h.1 p 8 = d 45 := M.2.2.2.2.2.2.2
theorem M_spent (M : MR hd d wr (mvO h p)) : h.1 p 7 = d 44 := M.2.2.2.2.2.2.1
theorem M_wells (M : MR hd d wr (mvO h p)) : h.1 p 6 = wlM d := M.2.2.2.2.2.1
theorem M_well (D : DW hd d) {c : Nat} (hc : c < 30) : p_HF_holds (wlM d) (ii c) = if d (14 + c) = 0 then ii 0 else ii 1 := by
  rw [C_holds _ (by omega)]
  unfold wlM
  rw [tb_mk _ (by omega)]
  by_cases q : d (14 + c) = 0
  · simp [hc, q]
  · simp [hc, q]
theorem C_placeOf (M : MR hd d wr (mvO h p)) (W : HW hd) {f : Nat} (hf : (f : Int) < hd 7) : f_Moor_placeOf p (ii f) h = some (d (2 * f)) := by
  have hw := W.1
  unfold f_Moor_placeOf
  rw [if_neg (by rw [z0, ii_lt (by omega) (by omega) (by omega) (by omega)]; omega), if_neg (by rw [ii_le (by omega) (by omega) (by omega) (by omega)]; omega), if_pos (inbn (j := f) (by omega) (by omega) (by omega)), nix (z := (f : Int)) (j := f) (by omega) (by omega)]
  rw [show h.1 (p + 1) f = d (2 * f) from M.1 f hf]
theorem C_trailOf (M : MR hd d wr (mvO h p)) {g : Int} (hg : g = 0 ∨ g = 1) : f_Moor_trailOf p (ii g) h = some (d (12 + g.toNat)) := by
  unfold f_Moor_trailOf
  rcases hg with e | e <;> subst e
  · rw [if_pos (by decide), if_pos (by decide)]
    exact congrArg some M.2.2.1.1
  · rw [if_neg (by decide), if_pos (by decide), if_pos (by decide)]
    exact congrArg some M.2.2.1.2
theorem C_sunkTo (M : MR hd d wr (mvO h p)) {c : Nat} (hc : c < 30) : f_Moor_sunkTo p (ii c) h = some (d (14 + c)) := by
  unfold f_Moor_sunkTo
  rw [if_neg (by rw [z0, ii_lt (by omega) (by omega) (by omega) (by omega)]; omega), if_neg (by rw [ii_le (by omega) (by omega) (by omega) (by omega)]; omega), if_pos (inbn (j := c) (by omega) (by omega) (by omega)), nix (z := (c : Int)) (j := c) (by omega) (by omega)]
  rw [show h.1 (p + 5) c = d (14 + c) from M.2.2.2.2.1 c hc]
theorem C_payOf (M : MR hd d wr (mvO h p)) {f : Nat} (hf : (f : Int) < hd 7) (W : HW hd) : f_Moor_payOf p (ii f) h = some (d (2 * f + 1)) := by
  have hw := W.1
  unfold f_Moor_payOf
  rw [if_neg (by rw [z0, ii_lt (by omega) (by omega) (by omega) (by omega)]; omega), if_neg (by rw [ii_le (by omega) (by omega) (by omega) (by omega)]; omega), if_pos (inbn (j := f) (by omega) (by omega) (by omega)), nix (z := (f : Int)) (j := f) (by omega) (by omega)]
  have := M.2.1 f (by omega)
  rw [if_pos hf] at this
  rw [show h.1 (p + 2) f = d (2 * f + 1) from this]
theorem C_bookLength (M : MR hd d wr (mvO h p)) : p_Moor_bookLength p h = ii (bL d) := by
  unfold p_Moor_bookLength p_Math_min
  rw [show h.1 p 5 = ii wr from M.2.2.2.1.1]
  have h1 := M.2.2.2.1.2.1
  rw [M.2.2.2.1.2.2.1]
  by_cases q : (60 : Int) < wr
  · rw [if_pos (by rw [ii_lt (by omega) (by omega) (by omega) (by omega)]; exact q), show min wr 60 = 60 by omega]
    rfl
  · rw [if_neg (by rw [ii_lt (by omega) (by omega) (by omega) (by omega)]; exact q), show min wr 60 = wr by omega]
theorem C_pageAt (M : MR hd d wr (mvO h p)) {i : Nat} (hi : i < bL d) : f_Moor_pageAt p (ii i) h = some (bkE d (bL d - 1 - i)) := by
  have h1 := M.2.2.2.1.2.1
  have h2 := M.2.2.2.1.2.2.1
  unfold f_Moor_pageAt
  rw [show h.1 p 5 = ii wr from M.2.2.2.1.1, ii_sub, ii_sub, ii_rem (by omega) (by omega) (by omega) (by omega), if_pos (by decide), if_neg (by rw [z0, ii_lt (by omega) (by omega) (by omega) (by omega)]; omega), if_pos (inbn (j := (wr - 1 - i) % 100) (by omega) (by omega) (by omega)), nix (z := ((wr : Int) - 1 - i) % 100) (j := (wr - 1 - i) % 100) (by omega) (by omega)]
  exact congrArg some (M.2.2.2.1.2.2.2 i hi)
theorem bk_split (D : DW hd d) (W : HS hd) {j : Nat} (hj : j < bL d) : bkE d j / ii 10000 = d (47 + 3 * j) ∧ remI (bkE d j / ii 100) (ii 100) = d (48 + 3 * j) ∧ remI (bkE d j) (ii 100) = d (49 + 3 * j) := by
  obtain ⟨f, c, t, ⟨f0, f1, c0, c1, t0, t1⟩, e1, e2, e3⟩ := D.2.2.2.2 j hj
  have hn := W.nf
  have hcl := W.cells
  unfold bkE
  rw [e1, e2, e3, ii_mul, ii_add, ii_mul, ii_add]
  refine ⟨?_, ?_, ?_⟩
  · rw [ii_div (by omega) (by omega) (by omega) (by omega)]; congr 1; omega
  · rw [ii_div (by omega) (by omega) (by omega) (by omega), ii_rem (by omega) (by omega) (by omega) (by omega)]; congr 1; omega
  · rw [ii_rem (by omega) (by omega) (by omega) (by omega)]; congr 1; omega
theorem C_forkOn (M : MR hd d wr (mvO h p)) (D : DW hd d) (W : HS hd) {i : Nat} (hi : i < bL d) : f_Moor_forkOn p (ii i) h = some (d (47 + 3 * (bL d - 1 - i))) := by
  unfold f_Moor_forkOn
  rw [C_pageAt M hi, Option.bind_some, if_pos (by decide), (bk_split D W (j := bL d - 1 - i) (by omega)).1]
theorem C_cellOn (M : MR hd d wr (mvO h p)) (D : DW hd d) (W : HS hd) {i : Nat} (hi : i < bL d) : f_Moor_cellOn p (ii i) h = some (d (48 + 3 * (bL d - 1 - i))) := by
  unfold f_Moor_cellOn
  rw [C_pageAt M hi, Option.bind_some, if_pos (by decide), if_pos (by decide), (bk_split D W (j := bL d - 1 - i) (by omega)).2.1]
theorem C_twitchOn (M : MR hd d wr (mvO h p)) (D : DW hd d) (W : HS hd) {i : Nat} (hi : i < bL d) : f_Moor_twitchOn p (ii i) h = some (d (49 + 3 * (bL d - 1 - i))) := by
  unfold f_Moor_twitchOn
  rw [C_pageAt M hi, Option.bind_some, if_pos (by decide), (bk_split D W (j := bL d - 1 - i) (by omega)).2.2]
end MOOR
