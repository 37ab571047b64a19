/-! the heath, as numbers: hd 0 width, 1 height, 2 deeper, 3 foot, 4 veins, 5 irons, 6 rocks, 7 forks; veins from 10 on (13 each), irons 70, rocks 90 (2 each), forks 110 (6 each) -/
def dx (way : Int) : Int := if way = 0 then 1 else if way = 2 then -1 else 0
def dy (way : Int) : Int := if way = 1 then 1 else if way = 3 then -1 else 0
def nb (w hh c way : Int) : Int := if 0 ≤ c % w + dx way ∧ c % w + dx way < w ∧ 0 ≤ c / w + dy way ∧ c / w + dy way < hh then (c / w + dy way) * w + (c % w + dx way) else -1
def cellsM (hd : Nat → Int) : Int := hd 0 * hd 1
def vc (hd : Nat → Int) (v : Nat) : Nat → Int
  | 0 => hd (10 + 13 * v)
  | k + 1 => nb (hd 0) (hd 1) (vc hd v k) (hd (10 + 13 * v + 4 + k))
def vAtF (hd : Nat → Int) (v : Nat) (c : Int) : Nat → Nat → Int
  | 0, k => if vc hd v k = c then hd (10 + 13 * v + 1) + k * hd (10 + 13 * v + 2) else -1
  | n + 1, k => if vc hd v k = c then hd (10 + 13 * v + 1) + k * hd (10 + 13 * v + 2) else vAtF hd v c n (k + 1)
def vAt (hd : Nat → Int) (v : Nat) (c : Int) : Int := vAtF hd v c (hd (10 + 13 * v + 3)).toNat 0
def dmin (hd : Nat → Int) (c : Int) : Nat → Int
  | 0 => -1
  | v + 1 => if vAt hd v c ≠ -1 ∧ (dmin hd c v = -1 ∨ vAt hd v c < dmin hd c v) then vAt hd v c else dmin hd c v
def depM (hd : Nat → Int) (c : Int) : Int := dmin hd c (hd 4).toNat
def cap99 (x : Int) : Int := if x < 99 then x else 99
def addM (hd : Nat → Int) (s : Int) : Int := if s = 0 then 0 else if s = 2 then 2 * hd 2 else hd 2
def watM (hd : Nat → Int) (c s : Int) : Int := if depM hd c = -1 then -1 else cap99 (depM hd c + addM hd s)
theorem min99 {x : Int} (h1 : -2147483648 ≤ x) (h2 : x ≤ 2147483647) : p_Math_min (ii 99) (ii x) = ii (cap99 x) := by
  unfold p_Math_min cap99
  simp (disch := omega) only [ii_lt]
  split <;> rfl
/-- the number of the first of n things that lies in c -/
def thM (hd : Nat → Int) (b : Nat) (c none : Int) : Nat → Nat → Int
  | 0, _ => none
  | n + 1, k => if hd (b + 2 * k) = c then hd (b + 2 * k + 1) else thM hd b c none n (k + 1)
def irM (hd : Nat → Int) (c : Int) : Int := thM hd 70 c (-1) (hd 5).toNat 0
def rkM (hd : Nat → Int) (c : Int) : Int := thM hd 90 c 0 (hd 6).toNat 0
def fkM (hd : Nat → Int) (f k : Nat) : Int := hd (110 + 6 * f + k)
def wiM (hd : Nat → Int) (f : Nat) : Int := if fkM hd f 3 < cellsM hd then fkM hd f 3 else -1
/-- a heath as its text may tell it -/
def HW (hd : Nat → Int) : Prop :=
  (1 ≤ hd 0 ∧ hd 0 ≤ 6 ∧ 1 ≤ hd 1 ∧ hd 1 ≤ 5 ∧ 0 ≤ hd 2 ∧ hd 2 ≤ 9 ∧ 1 ≤ hd 3 ∧ hd 3 ≤ 9 ∧ 0 ≤ hd 4 ∧ hd 4 ≤ 4 ∧ 0 ≤ hd 5 ∧ hd 5 ≤ 6 ∧ 0 ≤ hd 6 ∧ hd 6 ≤ 6 ∧ 1 ≤ hd 7 ∧ hd 7 ≤ 6) ∧
  (∀ v : Nat, (v : Int) < hd 4 → 1 ≤ hd (10 + 13 * v + 1) ∧ hd (10 + 13 * v + 1) ≤ 60 ∧ 0 ≤ hd (10 + 13 * v + 2) ∧ hd (10 + 13 * v + 2) ≤ 9 ∧ 0 ≤ hd (10 + 13 * v + 3) ∧ hd (10 + 13 * v + 3) ≤ 8 ∧
    (∀ k : Nat, (k : Int) < hd (10 + 13 * v + 3) → 0 ≤ hd (10 + 13 * v + 4 + k) ∧ hd (10 + 13 * v + 4 + k) ≤ 3) ∧ ∀ k : Nat, (k : Int) ≤ hd (10 + 13 * v + 3) → 0 ≤ vc hd v k ∧ vc hd v k < cellsM hd) ∧
  (∀ i : Nat, (i : Int) < hd 5 → 0 ≤ hd (70 + 2 * i) ∧ hd (70 + 2 * i) < cellsM hd ∧ 1 ≤ hd (70 + 2 * i + 1) ∧ hd (70 + 2 * i + 1) ≤ 9 ∧ ∀ j : Nat, j < i → hd (70 + 2 * j) ≠ hd (70 + 2 * i)) ∧
  (∀ i : Nat, (i : Int) < hd 6 → 0 ≤ hd (90 + 2 * i) ∧ hd (90 + 2 * i) < cellsM hd ∧ 1 ≤ hd (90 + 2 * i + 1) ∧ hd (90 + 2 * i + 1) ≤ 9 ∧ ∀ j : Nat, j < i → hd (90 + 2 * j) ≠ hd (90 + 2 * i)) ∧
  (∀ f : Nat, (f : Int) < hd 7 → 0 ≤ fkM hd f 0 ∧ fkM hd f 0 < cellsM hd ∧ 0 ≤ fkM hd f 1 ∧ fkM hd f 1 ≤ 60 ∧ 0 ≤ fkM hd f 2 ∧ fkM hd f 2 ≤ 9 ∧ 0 ≤ fkM hd f 3 ∧ fkM hd f 3 ≤ 30 ∧ 0 ≤ fkM hd f 4 ∧ fkM hd f 4 ≤ 9 ∧ (fkM hd f 5 = 0 ∨ fkM hd f 5 = 1))
/-- none, or such a one -/
def HS (hd : Nat → Int) : Prop := (hd 0 = 0 ∧ hd 1 = 0 ∧ hd 4 = 0 ∧ hd 5 = 0 ∧ hd 6 = 0 ∧ hd 7 = 0) ∨ HW hd
theorem HW.cells {hd : Nat → Int} (h : HW hd) : 1 ≤ cellsM hd ∧ cellsM hd ≤ 30 := by
  obtain ⟨⟨h1, h2, h3, h4, -⟩, -⟩ := h
  unfold cellsM
  rcases (show hd 0 = 1 ∨ hd 0 = 2 ∨ hd 0 = 3 ∨ hd 0 = 4 ∨ hd 0 = 5 ∨ hd 0 = 6 by omega) with e | e | e | e | e | e <;> rw [e] <;> omega
theorem HS.cells {hd : Nat → Int} (h : HS hd) : 0 ≤ cellsM hd ∧ cellsM hd ≤ 30 := by
  rcases h with h | h
  · unfold cellsM; rw [h.1]; omega
  · have := h.cells; omega
theorem HS.hw {hd : Nat → Int} (h : HS hd) {c : Int} (h0 : 0 ≤ c) (h1 : c < cellsM hd) : HW hd := by
  rcases h with h | h
  · unfold cellsM at h1; rw [h.1] at h1; omega
  · exact h
theorem nb_in {w hh c way : Int} (hw : 0 < w) (h : nb w hh c way ≠ -1) : 0 ≤ nb w hh c way ∧ nb w hh c way < w * hh := by
  unfold nb at h ⊢
  split
  · rename_i q
    obtain ⟨q1, q2, q3, q4⟩ := q
    refine ⟨?_, ?_⟩
    · have := Int.mul_nonneg q3 (show 0 ≤ w by omega)
      omega
    · have h5 : (c / w + dy way) + 1 ≤ hh := by omega
      have h6 := Int.mul_le_mul_of_nonneg_left h5 (show 0 ≤ w by omega)
      have h7 : w * ((c / w + dy way) + 1) = (c / w + dy way) * w + w := by rw [Int.mul_add, Int.mul_comm]; omega
      omega
  · rename_i q
    rw [if_neg q] at h
    exact absurd rfl h
theorem mod_lt6 {c w : Int} (hw : 0 < w) : 0 ≤ c % w ∧ c % w < w := ⟨Int.emod_nonneg _ (by omega), Int.emod_lt_of_pos _ hw⟩
theorem div_lt {c w hh : Int} (hw : 0 < w) (h0 : 0 ≤ c) (h1 : c < w * hh) : 0 ≤ c / w ∧ c / w < hh := ⟨Int.ediv_nonneg h0 (by omega), by rw [Int.ediv_lt_iff_lt_mul hw, Int.mul_comm]; exact h1⟩
theorem R_beside {w hh c way : Int} (h : AH) (hw1 : 1 ≤ w) (hw2 : w ≤ 6) (hh1 : 1 ≤ hh) (hh2 : hh ≤ 5) (h0 : 0 ≤ c) (h1 : c < w * hh) (y0 : 0 ≤ way) (y1 : way ≤ 3) : f_R_beside (ii c) (ii way) (ii w) (ii hh) h = some (ii (nb w hh c way)) := by
  have hc : c ≤ 30 := by
    rcases (show w = 1 ∨ w = 2 ∨ w = 3 ∨ w = 4 ∨ w = 5 ∨ w = 6 by omega) with e | e | e | e | e | e <;> rw [e] at h1 <;> omega
  have hm := mod_lt6 (c := c) (show 0 < w by omega)
  have hd := div_lt (show 0 < w by omega) h0 h1
  have ex : (if ii way = 0 then (ii 1) else (if ii way = (ii 2) then (ii (-1)) else (ii 0))) = ii (dx way) := by
    rcases (show way = 0 ∨ way = 1 ∨ way = 2 ∨ way = 3 by omega) with e | e | e | e <;> subst e <;> rfl
  have ey : (if ii way = (ii 1) then (ii 1) else (if ii way = (ii 3) then (ii (-1)) else (ii 0))) = ii (dy way) := by
    rcases (show way = 0 ∨ way = 1 ∨ way = 2 ∨ way = 3 by omega) with e | e | e | e <;> subst e <;> rfl
  have dxb : -1 ≤ dx way ∧ dx way ≤ 1 := by
    rcases (show way = 0 ∨ way = 1 ∨ way = 2 ∨ way = 3 by omega) with e | e | e | e <;> subst e <;> decide
  have dyb : -1 ≤ dy way ∧ dy way ≤ 1 := by
    rcases (show way = 0 ∨ way = 1 ∨ way = 2 ∨ way = 3 by omega) with e | e | e | e <;> subst e <;> decide
  unfold f_R_beside
  rw [ex, ey, ii_rem h0 (by omega) (by omega) (by omega), ii_div h0 (by omega) (by omega) (by omega), ii_add, ii_add, ii_mul, ii_add]
  have hne : ¬ ii w = 0 := by rw [ii_z (by omega) (by omega)]; omega
  rw [if_pos hne, if_pos hne]
  unfold nb
  simp (disch := omega) only [z0, ii_lt, ii_le]
  by_cases q1 : c % w + dx way < 0
  · rw [if_pos q1, if_neg (by omega)]
  · rw [if_neg q1]
    by_cases q2 : w ≤ c % w + dx way
    · rw [if_pos q2, if_neg (by omega)]
    · rw [if_neg q2]
      by_cases q3 : c / w + dy way < 0
      · rw [if_pos q3, if_neg (by omega)]
      · rw [if_neg q3]
        by_cases q4 : c / w + dy way < hh
        · rw [if_pos q4, if_pos (by omega)]
        · rw [if_neg q4, if_neg (by omega)]
