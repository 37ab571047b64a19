/-! sink: the class -/
section SU
variable {S : ST} {B : Nat} {h g h' g' : AH} {hd : Nat → Int} {d : DY} {o wr : Nat}
/-- the water is there and can be reached -/
def wetM (hd : Nat → Int) (c s : Int) : Prop := ¬ (watM hd c s = -1 ∨ 60 < watM hd c s)
theorem hit_lt (V : DW hd d) {c f j : Nat} (hj : j < bL d) (hh : hitM d c f j) : (f : Int) < hd 7 := by
  obtain ⟨f', c', t', ⟨x1, x2, x3, x4, x5, x6⟩, y1, y2, y3⟩ := V.2.2.2.2 j hj
  have h1 := hh.1
  by_cases q : f' ≤ 2147483647
  · rw [y1, vI_i (by omega) q] at h1; omega
  · have := (vI_lo (d (47 + 3 * j))).2
    omega
theorem nT_pos {x : Int32} {n f : Nat} (hf : f < n) (hx : tb x f = true) : 1 ≤ nT x n := by
  induction n with
  | zero => omega
  | succ n ih =>
    have h0 := nT_lo x n
    show 1 ≤ nT x n + (if tb x n then 1 else 0)
    by_cases q : f = n
    · rw [← q, hx]; rw [q]; simp; omega
    · have := ih (by omega); split <;> omega
end SU
