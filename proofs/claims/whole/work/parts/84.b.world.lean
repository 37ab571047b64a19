/-! the world behind the constructors (printed by wip/gen/worldgen.py) -/
section WG
def gI (a : Nat) (u : (Nat → Nat) × (Nat → Nat → Nat) × (Nat → (Nat → Nat) × (Nat → Nat))) (mm : Nat) (v : Nat → Nat) (oo : Nat) : List Nat := [a, u.1 0, u.2.1 0 0, u.1 1, (u.2.2 1).1 0, (u.2.2 1).1 1, (u.2.2 1).1 2, (u.2.2 1).1 3, u.1 2, u.1 3, u.1 4, u.1 5, u.1 6, u.1 7, u.2.1 7 0, u.2.1 7 1, u.2.1 7 2, u.2.1 7 3, u.2.1 7 4, u.1 8, u.2.1 8 0, u.2.1 8 1, u.2.1 8 2, u.2.1 8 3, u.2.1 8 4, u.1 9, u.2.1 9 0, u.2.1 9 1, u.2.1 9 2, u.2.1 9 3, u.2.1 9 4, u.1 10, u.2.1 10 0, u.1 11, u.2.1 11 0, u.2.1 11 1, u.2.1 11 2, u.2.1 11 3, u.2.1 11 4, u.1 12, u.2.1 12 0, u.2.1 12 1, u.2.1 12 2, u.1 13, u.2.1 13 0, u.2.1 13 1, u.2.1 13 2, u.2.1 13 3, u.2.1 13 4, (u.2.2 1).1 4, (u.2.2 1).2 0, (u.2.2 1).2 1, (u.2.2 1).2 2, (u.2.2 1).2 3, (u.2.2 1).2 4, u.1 14, u.2.1 14 0, u.2.1 14 1, u.1 16, u.2.1 16 0, u.2.1 16 1, u.1 18, u.2.1 18 0, u.2.1 18 1, u.1 20, u.2.1 20 0, u.2.1 20 1, (u.2.2 2).1 0, (u.2.2 2).2 0, (u.2.2 2).2 1, u.1 15, u.2.1 15 0, u.1 17, u.2.1 17 0, u.1 19, u.2.1 19 0, u.1 21, u.2.1 21 0, (u.2.2 3).1 0, (u.2.2 3).2 0, mm, v 0, v 1, v 2, v 3, v 4, v 5, v 6, v 7, v 8, v 9, v 10, v 11, v 12, v 13, v 14, v 15, v 16, v 17, v 18, v 19, v 20, v 21, v 22, v 23, oo]
def GI (Γ : AG) (a : Nat) (u : (Nat → Nat) × (Nat → Nat → Nat) × (Nat → (Nat → Nat) × (Nat → Nat))) (mm : Nat) (v : Nat → Nat) (oo : Nat) : AG := (Γ.1, lf (gI a u mm v oo), Γ.2.2)
def wI0 (Γ : AG) (a : Nat) (u : (Nat → Nat) × (Nat → Nat → Nat) × (Nat → (Nat → Nat) × (Nat → Nat))) (mm : Nat) (v : Nat → Nat) (oo : Nat) : va_W := (([] ++ born_HF Γ a u) ++ born_R Γ mm v) ++ [(oo, .inl (gc Γ 23, 1, .inr (.inl fun _ => 0)))]
def piL : List Nat := [0, 1, 2, 3, 4, 5, 6, 7, 14, 18, 21, 22, 23, 24, 25, 26, 27, 28, 29, 30, 31, 32, 33, 34, 35, 36, 37, 38, 39, 40, 41, 42, 43, 44, 45, 46, 47, 48, 49, 50, 51, 52, 53, 54, 55, 56, 57, 58, 59, 8, 9, 10, 11, 12, 13, 60, 61, 62, 65, 66, 67, 70, 71, 72, 75, 76, 77, 15, 16, 17, 63, 64, 68, 69, 73, 74, 78, 79, 19, 20, 80, 81, 82, 83, 84, 85, 86, 87, 88, 89, 90, 91, 92, 93, 94, 95, 96, 97, 98, 99, 100, 101, 102, 103, 104, 105]
theorem ce_i (Γ : AG) {o k n : Nat} (hs : am_sh[o]? = some (k, n)) (hk : k = 20 ∨ k = 21 ∨ k = 22) (h0 : o ≠ 0) (h80 : o ≠ 80) : ceA Γ hI o = .inl (gc Γ k, n, .inl fun _ => 0) := by
  rw [ceA_int hs hk]
  have : hI.1 o = fun _ => 0 := funext fun j => hI_n h0 h80 j
  rw [this]
theorem arr_q {cA : ClassId} {n : Nat} {f g : Nat → Option Nat} (h : ∀ j, j < n → f j = g j) : vp_cell cA (n, .inr (.inr (.inr (.inr f)))) = vp_cell cA (n, .inr (.inr (.inr (.inr g)))) := by
  have e : (fun j : Fin n => va_rf (f j.val)) = fun j : Fin n => va_rf (g j.val) := funext fun j => by rw [h j.val j.isLt]
  rw [vp_cell_q, vp_cell_q]
  show ({ cls := cA, slots := Array.ofFn (fun j : Fin n => va_rf (f j.val)), vm := .none } : Cell) = { cls := cA, slots := Array.ofFn (fun j : Fin n => va_rf (g j.val)), vm := .none }
  rw [e]
/-- the cell of id k stands at its place -/
def WK (Γ : AG) (a : Nat) (u : (Nat → Nat) × (Nat → Nat → Nat) × (Nat → (Nat → Nat) × (Nat → Nat))) (mm : Nat) (v : Nat → Nat) (oo : Nat) (k : Nat) : Prop := ∃ q : Nat × va_E, (wI0 Γ a u mm v oo)[piL.getD k 0]? = some q ∧ q.1 = gs (GI Γ a u mm v oo) k ∧ ∀ (D : va_G) (cl : List vw_C) (H : Heap), va_at D cl q H → va_at D cl (gs (GI Γ a u mm v oo) k, ceA (GI Γ a u mm v oo) hI k) H
theorem wk_0 (Γ : AG) (a : Nat) (u : (Nat → Nat) × (Nat → Nat → Nat) × (Nat → (Nat → Nat) × (Nat → Nat))) (mm : Nat) (v : Nat → Nat) (oo : Nat) : WK Γ a u mm v oo 0 := ⟨_, rfl, rfl, fun D cl H h => by rw [ceA_obj (Γ := (GI Γ a u mm v oo)) (ci := 0) (n := 0) rfl (by decide)]; exact h⟩
theorem wk_1 (Γ : AG) (a : Nat) (u : (Nat → Nat) × (Nat → Nat → Nat) × (Nat → (Nat → Nat) × (Nat → Nat))) (mm : Nat) (v : Nat → Nat) (oo : Nat) : WK Γ a u mm v oo 1 := ⟨_, rfl, rfl, fun D cl H h => by rw [ceA_obj (Γ := (GI Γ a u mm v oo)) (ci := 1) (n := 0) rfl (by decide)]; exact h⟩
theorem wk_2 (Γ : AG) (a : Nat) (u : (Nat → Nat) × (Nat → Nat → Nat) × (Nat → (Nat → Nat) × (Nat → Nat))) (mm : Nat) (v : Nat → Nat) (oo : Nat) : WK Γ a u mm v oo 2 := ⟨(u.2.1 0 0, .inl (gc Γ 20, 240, .inl fun _ => 0)), rfl, rfl, fun D cl H h => by rw [ce_i (GI Γ a u mm v oo) (k := 20) (n := 240) rfl (Or.inl rfl) (by decide) (by decide)]; exact h⟩
theorem wk_3 (Γ : AG) (a : Nat) (u : (Nat → Nat) × (Nat → Nat → Nat) × (Nat → (Nat → Nat) × (Nat → Nat))) (mm : Nat) (v : Nat → Nat) (oo : Nat) : WK Γ a u mm v oo 3 := ⟨_, rfl, rfl, fun D cl H h => by rw [ceA_obj (Γ := (GI Γ a u mm v oo)) (ci := 2) (n := 0) rfl (by decide)]; exact h⟩
theorem wk_4 (Γ : AG) (a : Nat) (u : (Nat → Nat) × (Nat → Nat → Nat) × (Nat → (Nat → Nat) × (Nat → Nat))) (mm : Nat) (v : Nat → Nat) (oo : Nat) : WK Γ a u mm v oo 4 := ⟨((u.2.2 1).1 0, .inl (gc Γ 20, 5, .inl fun _ => 0)), rfl, rfl, fun D cl H h => by rw [ce_i (GI Γ a u mm v oo) (k := 20) (n := 5) rfl (Or.inl rfl) (by decide) (by decide)]; exact h⟩
theorem wk_5 (Γ : AG) (a : Nat) (u : (Nat → Nat) × (Nat → Nat → Nat) × (Nat → (Nat → Nat) × (Nat → Nat))) (mm : Nat) (v : Nat → Nat) (oo : Nat) : WK Γ a u mm v oo 5 := ⟨((u.2.2 1).1 1, .inl (gc Γ 20, 180, .inl fun _ => 0)), rfl, rfl, fun D cl H h => by rw [ce_i (GI Γ a u mm v oo) (k := 20) (n := 180) rfl (Or.inl rfl) (by decide) (by decide)]; exact h⟩
theorem wk_6 (Γ : AG) (a : Nat) (u : (Nat → Nat) × (Nat → Nat → Nat) × (Nat → (Nat → Nat) × (Nat → Nat))) (mm : Nat) (v : Nat → Nat) (oo : Nat) : WK Γ a u mm v oo 6 := ⟨((u.2.2 1).1 2, .inl (gc Γ 20, 32, .inl fun _ => 0)), rfl, rfl, fun D cl H h => by rw [ce_i (GI Γ a u mm v oo) (k := 20) (n := 32) rfl (Or.inl rfl) (by decide) (by decide)]; exact h⟩
theorem wk_7 (Γ : AG) (a : Nat) (u : (Nat → Nat) × (Nat → Nat → Nat) × (Nat → (Nat → Nat) × (Nat → Nat))) (mm : Nat) (v : Nat → Nat) (oo : Nat) : WK Γ a u mm v oo 7 := ⟨((u.2.2 1).1 3, .inl (gc Γ 20, 4, .inl fun _ => 0)), rfl, rfl, fun D cl H h => by rw [ce_i (GI Γ a u mm v oo) (k := 20) (n := 4) rfl (Or.inl rfl) (by decide) (by decide)]; exact h⟩
theorem wk_8 (Γ : AG) (a : Nat) (u : (Nat → Nat) × (Nat → Nat → Nat) × (Nat → (Nat → Nat) × (Nat → Nat))) (mm : Nat) (v : Nat → Nat) (oo : Nat) : WK Γ a u mm v oo 8 := ⟨_, rfl, rfl, fun D cl H h => by rw [ceA_obj (Γ := (GI Γ a u mm v oo)) (ci := 4) (n := 0) rfl (by decide)]; exact h⟩
theorem wk_9 (Γ : AG) (a : Nat) (u : (Nat → Nat) × (Nat → Nat → Nat) × (Nat → (Nat → Nat) × (Nat → Nat))) (mm : Nat) (v : Nat → Nat) (oo : Nat) : WK Γ a u mm v oo 9 := ⟨_, rfl, rfl, fun D cl H h => by rw [ceA_obj (Γ := (GI Γ a u mm v oo)) (ci := 6) (n := 0) rfl (by decide)]; exact h⟩
theorem wk_10 (Γ : AG) (a : Nat) (u : (Nat → Nat) × (Nat → Nat → Nat) × (Nat → (Nat → Nat) × (Nat → Nat))) (mm : Nat) (v : Nat → Nat) (oo : Nat) : WK Γ a u mm v oo 10 := ⟨(u.1 4, .inl (gc Γ 24, 4, .inr (.inr (.inr (.inr (va_up (va_up (va_up (va_up (fun _ => none) 0 (some (u.1 14))) 1 (some (u.1 16))) 2 (some (u.1 18))) 3 (some (u.1 20)))))))), rfl, rfl, fun D cl H h => by
  rw [ceA_ref (Γ := (GI Γ a u mm v oo)) (k := 24) (n := 4) rfl (Or.inl rfl)]
  have e : vp_cell (gc Γ 24) (4, .inr (.inr (.inr (.inr (va_up (va_up (va_up (va_up (fun _ => none) 0 (some (u.1 14))) 1 (some (u.1 16))) 2 (some (u.1 18))) 3 (some (u.1 20))))))) = vp_cell (gc Γ 24) (4, .inr (.inr (.inr (.inr (fun j => some (gs (GI Γ a u mm v oo) (hI.2.2 10 j))))))) := arr_q (fun j hj => by
    rcases (show j = 0 ∨ j = 1 ∨ j = 2 ∨ j = 3 by omega) with rfl | rfl | rfl | rfl <;> rfl)
  show H[_]? = some (vp_cell (gc Γ 24) (4, .inr (.inr (.inr (.inr (fun j => some (gs (GI Γ a u mm v oo) (hI.2.2 10 j))))))))
  rw [← e]
  exact h⟩
theorem wk_11 (Γ : AG) (a : Nat) (u : (Nat → Nat) × (Nat → Nat → Nat) × (Nat → (Nat → Nat) × (Nat → Nat))) (mm : Nat) (v : Nat → Nat) (oo : Nat) : WK Γ a u mm v oo 11 := ⟨(u.1 5, .inl (gc Γ 25, 4, .inr (.inr (.inr (.inr (va_up (va_up (va_up (va_up (fun _ => none) 0 (some (u.1 15))) 1 (some (u.1 17))) 2 (some (u.1 19))) 3 (some (u.1 21)))))))), rfl, rfl, fun D cl H h => by
  rw [ceA_ref (Γ := (GI Γ a u mm v oo)) (k := 25) (n := 4) rfl (Or.inr rfl)]
  have e : vp_cell (gc Γ 25) (4, .inr (.inr (.inr (.inr (va_up (va_up (va_up (va_up (fun _ => none) 0 (some (u.1 15))) 1 (some (u.1 17))) 2 (some (u.1 19))) 3 (some (u.1 21))))))) = vp_cell (gc Γ 25) (4, .inr (.inr (.inr (.inr (fun j => some (gs (GI Γ a u mm v oo) (hI.2.2 11 j))))))) := arr_q (fun j hj => by
    rcases (show j = 0 ∨ j = 1 ∨ j = 2 ∨ j = 3 by omega) with rfl | rfl | rfl | rfl <;> rfl)
  show H[_]? = some (vp_cell (gc Γ 25) (4, .inr (.inr (.inr (.inr (fun j => some (gs (GI Γ a u mm v oo) (hI.2.2 11 j))))))))
  rw [← e]
  exact h⟩
theorem wk_12 (Γ : AG) (a : Nat) (u : (Nat → Nat) × (Nat → Nat → Nat) × (Nat → (Nat → Nat) × (Nat → Nat))) (mm : Nat) (v : Nat → Nat) (oo : Nat) : WK Γ a u mm v oo 12 := ⟨(u.1 6, .inl (gc Γ 20, 6, .inl fun _ => 0)), rfl, rfl, fun D cl H h => by rw [ce_i (GI Γ a u mm v oo) (k := 20) (n := 6) rfl (Or.inl rfl) (by decide) (by decide)]; exact h⟩
theorem wk_13 (Γ : AG) (a : Nat) (u : (Nat → Nat) × (Nat → Nat → Nat) × (Nat → (Nat → Nat) × (Nat → Nat))) (mm : Nat) (v : Nat → Nat) (oo : Nat) : WK Γ a u mm v oo 13 := ⟨_, rfl, rfl, fun D cl H h => by rw [ceA_obj (Γ := (GI Γ a u mm v oo)) (ci := 8) (n := 0) rfl (by decide)]; exact h⟩
theorem wk_14 (Γ : AG) (a : Nat) (u : (Nat → Nat) × (Nat → Nat → Nat) × (Nat → (Nat → Nat) × (Nat → Nat))) (mm : Nat) (v : Nat → Nat) (oo : Nat) : WK Γ a u mm v oo 14 := ⟨(u.2.1 7 0, .inl (gc Γ 20, 6, .inl fun _ => 0)), rfl, rfl, fun D cl H h => by rw [ce_i (GI Γ a u mm v oo) (k := 20) (n := 6) rfl (Or.inl rfl) (by decide) (by decide)]; exact h⟩
theorem wk_15 (Γ : AG) (a : Nat) (u : (Nat → Nat) × (Nat → Nat → Nat) × (Nat → (Nat → Nat) × (Nat → Nat))) (mm : Nat) (v : Nat → Nat) (oo : Nat) : WK Γ a u mm v oo 15 := ⟨(u.2.1 7 1, .inl (gc Γ 20, 6, .inl fun _ => 0)), rfl, rfl, fun D cl H h => by rw [ce_i (GI Γ a u mm v oo) (k := 20) (n := 6) rfl (Or.inl rfl) (by decide) (by decide)]; exact h⟩
theorem wk_16 (Γ : AG) (a : Nat) (u : (Nat → Nat) × (Nat → Nat → Nat) × (Nat → (Nat → Nat) × (Nat → Nat))) (mm : Nat) (v : Nat → Nat) (oo : Nat) : WK Γ a u mm v oo 16 := ⟨(u.2.1 7 2, .inl (gc Γ 20, 2, .inl fun _ => 0)), rfl, rfl, fun D cl H h => by rw [ce_i (GI Γ a u mm v oo) (k := 20) (n := 2) rfl (Or.inl rfl) (by decide) (by decide)]; exact h⟩
theorem wk_17 (Γ : AG) (a : Nat) (u : (Nat → Nat) × (Nat → Nat → Nat) × (Nat → (Nat → Nat) × (Nat → Nat))) (mm : Nat) (v : Nat → Nat) (oo : Nat) : WK Γ a u mm v oo 17 := ⟨(u.2.1 7 3, .inl (gc Γ 20, 100, .inl fun _ => 0)), rfl, rfl, fun D cl H h => by rw [ce_i (GI Γ a u mm v oo) (k := 20) (n := 100) rfl (Or.inl rfl) (by decide) (by decide)]; exact h⟩
theorem wk_18 (Γ : AG) (a : Nat) (u : (Nat → Nat) × (Nat → Nat → Nat) × (Nat → (Nat → Nat) × (Nat → Nat))) (mm : Nat) (v : Nat → Nat) (oo : Nat) : WK Γ a u mm v oo 18 := ⟨(u.2.1 7 4, .inl (gc Γ 20, 30, .inl fun _ => 0)), rfl, rfl, fun D cl H h => by rw [ce_i (GI Γ a u mm v oo) (k := 20) (n := 30) rfl (Or.inl rfl) (by decide) (by decide)]; exact h⟩
theorem wk_19 (Γ : AG) (a : Nat) (u : (Nat → Nat) × (Nat → Nat → Nat) × (Nat → (Nat → Nat) × (Nat → Nat))) (mm : Nat) (v : Nat → Nat) (oo : Nat) : WK Γ a u mm v oo 19 := ⟨_, rfl, rfl, fun D cl H h => by rw [ceA_obj (Γ := (GI Γ a u mm v oo)) (ci := 8) (n := 0) rfl (by decide)]; exact h⟩
theorem wk_20 (Γ : AG) (a : Nat) (u : (Nat → Nat) × (Nat → Nat → Nat) × (Nat → (Nat → Nat) × (Nat → Nat))) (mm : Nat) (v : Nat → Nat) (oo : Nat) : WK Γ a u mm v oo 20 := ⟨(u.2.1 8 0, .inl (gc Γ 20, 6, .inl fun _ => 0)), rfl, rfl, fun D cl H h => by rw [ce_i (GI Γ a u mm v oo) (k := 20) (n := 6) rfl (Or.inl rfl) (by decide) (by decide)]; exact h⟩
theorem wk_21 (Γ : AG) (a : Nat) (u : (Nat → Nat) × (Nat → Nat → Nat) × (Nat → (Nat → Nat) × (Nat → Nat))) (mm : Nat) (v : Nat → Nat) (oo : Nat) : WK Γ a u mm v oo 21 := ⟨(u.2.1 8 1, .inl (gc Γ 20, 6, .inl fun _ => 0)), rfl, rfl, fun D cl H h => by rw [ce_i (GI Γ a u mm v oo) (k := 20) (n := 6) rfl (Or.inl rfl) (by decide) (by decide)]; exact h⟩
theorem wk_22 (Γ : AG) (a : Nat) (u : (Nat → Nat) × (Nat → Nat → Nat) × (Nat → (Nat → Nat) × (Nat → Nat))) (mm : Nat) (v : Nat → Nat) (oo : Nat) : WK Γ a u mm v oo 22 := ⟨(u.2.1 8 2, .inl (gc Γ 20, 2, .inl fun _ => 0)), rfl, rfl, fun D cl H h => by rw [ce_i (GI Γ a u mm v oo) (k := 20) (n := 2) rfl (Or.inl rfl) (by decide) (by decide)]; exact h⟩
theorem wk_23 (Γ : AG) (a : Nat) (u : (Nat → Nat) × (Nat → Nat → Nat) × (Nat → (Nat → Nat) × (Nat → Nat))) (mm : Nat) (v : Nat → Nat) (oo : Nat) : WK Γ a u mm v oo 23 := ⟨(u.2.1 8 3, .inl (gc Γ 20, 100, .inl fun _ => 0)), rfl, rfl, fun D cl H h => by rw [ce_i (GI Γ a u mm v oo) (k := 20) (n := 100) rfl (Or.inl rfl) (by decide) (by decide)]; exact h⟩
theorem wk_24 (Γ : AG) (a : Nat) (u : (Nat → Nat) × (Nat → Nat → Nat) × (Nat → (Nat → Nat) × (Nat → Nat))) (mm : Nat) (v : Nat → Nat) (oo : Nat) : WK Γ a u mm v oo 24 := ⟨(u.2.1 8 4, .inl (gc Γ 20, 30, .inl fun _ => 0)), rfl, rfl, fun D cl H h => by rw [ce_i (GI Γ a u mm v oo) (k := 20) (n := 30) rfl (Or.inl rfl) (by decide) (by decide)]; exact h⟩
theorem wk_25 (Γ : AG) (a : Nat) (u : (Nat → Nat) × (Nat → Nat → Nat) × (Nat → (Nat → Nat) × (Nat → Nat))) (mm : Nat) (v : Nat → Nat) (oo : Nat) : WK Γ a u mm v oo 25 := ⟨_, rfl, rfl, fun D cl H h => by rw [ceA_obj (Γ := (GI Γ a u mm v oo)) (ci := 8) (n := 0) rfl (by decide)]; exact h⟩
theorem wk_26 (Γ : AG) (a : Nat) (u : (Nat → Nat) × (Nat → Nat → Nat) × (Nat → (Nat → Nat) × (Nat → Nat))) (mm : Nat) (v : Nat → Nat) (oo : Nat) : WK Γ a u mm v oo 26 := ⟨(u.2.1 9 0, .inl (gc Γ 20, 6, .inl fun _ => 0)), rfl, rfl, fun D cl H h => by rw [ce_i (GI Γ a u mm v oo) (k := 20) (n := 6) rfl (Or.inl rfl) (by decide) (by decide)]; exact h⟩
theorem wk_27 (Γ : AG) (a : Nat) (u : (Nat → Nat) × (Nat → Nat → Nat) × (Nat → (Nat → Nat) × (Nat → Nat))) (mm : Nat) (v : Nat → Nat) (oo : Nat) : WK Γ a u mm v oo 27 := ⟨(u.2.1 9 1, .inl (gc Γ 20, 6, .inl fun _ => 0)), rfl, rfl, fun D cl H h => by rw [ce_i (GI Γ a u mm v oo) (k := 20) (n := 6) rfl (Or.inl rfl) (by decide) (by decide)]; exact h⟩
theorem wk_28 (Γ : AG) (a : Nat) (u : (Nat → Nat) × (Nat → Nat → Nat) × (Nat → (Nat → Nat) × (Nat → Nat))) (mm : Nat) (v : Nat → Nat) (oo : Nat) : WK Γ a u mm v oo 28 := ⟨(u.2.1 9 2, .inl (gc Γ 20, 2, .inl fun _ => 0)), rfl, rfl, fun D cl H h => by rw [ce_i (GI Γ a u mm v oo) (k := 20) (n := 2) rfl (Or.inl rfl) (by decide) (by decide)]; exact h⟩
theorem wk_29 (Γ : AG) (a : Nat) (u : (Nat → Nat) × (Nat → Nat → Nat) × (Nat → (Nat → Nat) × (Nat → Nat))) (mm : Nat) (v : Nat → Nat) (oo : Nat) : WK Γ a u mm v oo 29 := ⟨(u.2.1 9 3, .inl (gc Γ 20, 100, .inl fun _ => 0)), rfl, rfl, fun D cl H h => by rw [ce_i (GI Γ a u mm v oo) (k := 20) (n := 100) rfl (Or.inl rfl) (by decide) (by decide)]; exact h⟩
theorem wk_30 (Γ : AG) (a : Nat) (u : (Nat → Nat) × (Nat → Nat → Nat) × (Nat → (Nat → Nat) × (Nat → Nat))) (mm : Nat) (v : Nat → Nat) (oo : Nat) : WK Γ a u mm v oo 30 := ⟨(u.2.1 9 4, .inl (gc Γ 20, 30, .inl fun _ => 0)), rfl, rfl, fun D cl H h => by rw [ce_i (GI Γ a u mm v oo) (k := 20) (n := 30) rfl (Or.inl rfl) (by decide) (by decide)]; exact h⟩
theorem wk_31 (Γ : AG) (a : Nat) (u : (Nat → Nat) × (Nat → Nat → Nat) × (Nat → (Nat → Nat) × (Nat → Nat))) (mm : Nat) (v : Nat → Nat) (oo : Nat) : WK Γ a u mm v oo 31 := ⟨_, rfl, rfl, fun D cl H h => by rw [ceA_obj (Γ := (GI Γ a u mm v oo)) (ci := 9) (n := 0) rfl (by decide)]; exact h⟩
theorem wk_32 (Γ : AG) (a : Nat) (u : (Nat → Nat) × (Nat → Nat → Nat) × (Nat → (Nat → Nat) × (Nat → Nat))) (mm : Nat) (v : Nat → Nat) (oo : Nat) : WK Γ a u mm v oo 32 := ⟨(u.2.1 10 0, .inl (gc Γ 20, 160, .inl fun _ => 0)), rfl, rfl, fun D cl H h => by rw [ce_i (GI Γ a u mm v oo) (k := 20) (n := 160) rfl (Or.inl rfl) (by decide) (by decide)]; exact h⟩
theorem wk_33 (Γ : AG) (a : Nat) (u : (Nat → Nat) × (Nat → Nat → Nat) × (Nat → (Nat → Nat) × (Nat → Nat))) (mm : Nat) (v : Nat → Nat) (oo : Nat) : WK Γ a u mm v oo 33 := ⟨_, rfl, rfl, fun D cl H h => by rw [ceA_obj (Γ := (GI Γ a u mm v oo)) (ci := 10) (n := 0) rfl (by decide)]; exact h⟩
theorem wk_34 (Γ : AG) (a : Nat) (u : (Nat → Nat) × (Nat → Nat → Nat) × (Nat → (Nat → Nat) × (Nat → Nat))) (mm : Nat) (v : Nat → Nat) (oo : Nat) : WK Γ a u mm v oo 34 := ⟨(u.2.1 11 0, .inl (gc Γ 20, 12, .inl fun _ => 0)), rfl, rfl, fun D cl H h => by rw [ce_i (GI Γ a u mm v oo) (k := 20) (n := 12) rfl (Or.inl rfl) (by decide) (by decide)]; exact h⟩
theorem wk_35 (Γ : AG) (a : Nat) (u : (Nat → Nat) × (Nat → Nat → Nat) × (Nat → (Nat → Nat) × (Nat → Nat))) (mm : Nat) (v : Nat → Nat) (oo : Nat) : WK Γ a u mm v oo 35 := ⟨(u.2.1 11 1, .inl (gc Γ 20, 12, .inl fun _ => 0)), rfl, rfl, fun D cl H h => by rw [ce_i (GI Γ a u mm v oo) (k := 20) (n := 12) rfl (Or.inl rfl) (by decide) (by decide)]; exact h⟩
theorem wk_36 (Γ : AG) (a : Nat) (u : (Nat → Nat) × (Nat → Nat → Nat) × (Nat → (Nat → Nat) × (Nat → Nat))) (mm : Nat) (v : Nat → Nat) (oo : Nat) : WK Γ a u mm v oo 36 := ⟨(u.2.1 11 2, .inl (gc Γ 22, 12, .inl fun _ => 0)), rfl, rfl, fun D cl H h => by rw [ce_i (GI Γ a u mm v oo) (k := 22) (n := 12) rfl (Or.inr (Or.inr rfl)) (by decide) (by decide)]; exact h⟩
theorem wk_37 (Γ : AG) (a : Nat) (u : (Nat → Nat) × (Nat → Nat → Nat) × (Nat → (Nat → Nat) × (Nat → Nat))) (mm : Nat) (v : Nat → Nat) (oo : Nat) : WK Γ a u mm v oo 37 := ⟨(u.2.1 11 3, .inl (gc Γ 20, 480, .inl fun _ => 0)), rfl, rfl, fun D cl H h => by rw [ce_i (GI Γ a u mm v oo) (k := 20) (n := 480) rfl (Or.inl rfl) (by decide) (by decide)]; exact h⟩
theorem wk_38 (Γ : AG) (a : Nat) (u : (Nat → Nat) × (Nat → Nat → Nat) × (Nat → (Nat → Nat) × (Nat → Nat))) (mm : Nat) (v : Nat → Nat) (oo : Nat) : WK Γ a u mm v oo 38 := ⟨(u.2.1 11 4, .inl (gc Γ 20, 30, .inl fun _ => 0)), rfl, rfl, fun D cl H h => by rw [ce_i (GI Γ a u mm v oo) (k := 20) (n := 30) rfl (Or.inl rfl) (by decide) (by decide)]; exact h⟩
theorem wk_39 (Γ : AG) (a : Nat) (u : (Nat → Nat) × (Nat → Nat → Nat) × (Nat → (Nat → Nat) × (Nat → Nat))) (mm : Nat) (v : Nat → Nat) (oo : Nat) : WK Γ a u mm v oo 39 := ⟨_, rfl, rfl, fun D cl H h => by rw [ceA_obj (Γ := (GI Γ a u mm v oo)) (ci := 11) (n := 0) rfl (by decide)]; exact h⟩
theorem wk_40 (Γ : AG) (a : Nat) (u : (Nat → Nat) × (Nat → Nat → Nat) × (Nat → (Nat → Nat) × (Nat → Nat))) (mm : Nat) (v : Nat → Nat) (oo : Nat) : WK Γ a u mm v oo 40 := ⟨(u.2.1 12 0, .inl (gc Γ 20, 30, .inl fun _ => 0)), rfl, rfl, fun D cl H h => by rw [ce_i (GI Γ a u mm v oo) (k := 20) (n := 30) rfl (Or.inl rfl) (by decide) (by decide)]; exact h⟩
theorem wk_41 (Γ : AG) (a : Nat) (u : (Nat → Nat) × (Nat → Nat → Nat) × (Nat → (Nat → Nat) × (Nat → Nat))) (mm : Nat) (v : Nat → Nat) (oo : Nat) : WK Γ a u mm v oo 41 := ⟨(u.2.1 12 1, .inl (gc Γ 20, 30, .inl fun _ => 0)), rfl, rfl, fun D cl H h => by rw [ce_i (GI Γ a u mm v oo) (k := 20) (n := 30) rfl (Or.inl rfl) (by decide) (by decide)]; exact h⟩
theorem wk_42 (Γ : AG) (a : Nat) (u : (Nat → Nat) × (Nat → Nat → Nat) × (Nat → (Nat → Nat) × (Nat → Nat))) (mm : Nat) (v : Nat → Nat) (oo : Nat) : WK Γ a u mm v oo 42 := ⟨(u.2.1 12 2, .inl (gc Γ 20, 30, .inl fun _ => 0)), rfl, rfl, fun D cl H h => by rw [ce_i (GI Γ a u mm v oo) (k := 20) (n := 30) rfl (Or.inl rfl) (by decide) (by decide)]; exact h⟩
theorem wk_43 (Γ : AG) (a : Nat) (u : (Nat → Nat) × (Nat → Nat → Nat) × (Nat → (Nat → Nat) × (Nat → Nat))) (mm : Nat) (v : Nat → Nat) (oo : Nat) : WK Γ a u mm v oo 43 := ⟨_, rfl, rfl, fun D cl H h => by rw [ceA_obj (Γ := (GI Γ a u mm v oo)) (ci := 3) (n := 0) rfl (by decide)]; exact h⟩
theorem wk_44 (Γ : AG) (a : Nat) (u : (Nat → Nat) × (Nat → Nat → Nat) × (Nat → (Nat → Nat) × (Nat → Nat))) (mm : Nat) (v : Nat → Nat) (oo : Nat) : WK Γ a u mm v oo 44 := ⟨(u.2.1 13 0, .inl (gc Γ 20, 30, .inl fun _ => 0)), rfl, rfl, fun D cl H h => by rw [ce_i (GI Γ a u mm v oo) (k := 20) (n := 30) rfl (Or.inl rfl) (by decide) (by decide)]; exact h⟩
theorem wk_45 (Γ : AG) (a : Nat) (u : (Nat → Nat) × (Nat → Nat → Nat) × (Nat → (Nat → Nat) × (Nat → Nat))) (mm : Nat) (v : Nat → Nat) (oo : Nat) : WK Γ a u mm v oo 45 := ⟨(u.2.1 13 1, .inl (gc Γ 20, 30, .inl fun _ => 0)), rfl, rfl, fun D cl H h => by rw [ce_i (GI Γ a u mm v oo) (k := 20) (n := 30) rfl (Or.inl rfl) (by decide) (by decide)]; exact h⟩
theorem wk_46 (Γ : AG) (a : Nat) (u : (Nat → Nat) × (Nat → Nat → Nat) × (Nat → (Nat → Nat) × (Nat → Nat))) (mm : Nat) (v : Nat → Nat) (oo : Nat) : WK Γ a u mm v oo 46 := ⟨(u.2.1 13 2, .inl (gc Γ 20, 30, .inl fun _ => 0)), rfl, rfl, fun D cl H h => by rw [ce_i (GI Γ a u mm v oo) (k := 20) (n := 30) rfl (Or.inl rfl) (by decide) (by decide)]; exact h⟩
theorem wk_47 (Γ : AG) (a : Nat) (u : (Nat → Nat) × (Nat → Nat → Nat) × (Nat → (Nat → Nat) × (Nat → Nat))) (mm : Nat) (v : Nat → Nat) (oo : Nat) : WK Γ a u mm v oo 47 := ⟨(u.2.1 13 3, .inl (gc Γ 20, 30, .inl fun _ => 0)), rfl, rfl, fun D cl H h => by rw [ce_i (GI Γ a u mm v oo) (k := 20) (n := 30) rfl (Or.inl rfl) (by decide) (by decide)]; exact h⟩
theorem wk_48 (Γ : AG) (a : Nat) (u : (Nat → Nat) × (Nat → Nat → Nat) × (Nat → (Nat → Nat) × (Nat → Nat))) (mm : Nat) (v : Nat → Nat) (oo : Nat) : WK Γ a u mm v oo 48 := ⟨(u.2.1 13 4, .inl (gc Γ 20, 36, .inl fun _ => 0)), rfl, rfl, fun D cl H h => by rw [ce_i (GI Γ a u mm v oo) (k := 20) (n := 36) rfl (Or.inl rfl) (by decide) (by decide)]; exact h⟩
theorem wk_49 (Γ : AG) (a : Nat) (u : (Nat → Nat) × (Nat → Nat → Nat) × (Nat → (Nat → Nat) × (Nat → Nat))) (mm : Nat) (v : Nat → Nat) (oo : Nat) : WK Γ a u mm v oo 49 := ⟨_, rfl, rfl, fun D cl H h => by rw [ceA_obj (Γ := (GI Γ a u mm v oo)) (ci := 3) (n := 0) rfl (by decide)]; exact h⟩
theorem wk_50 (Γ : AG) (a : Nat) (u : (Nat → Nat) × (Nat → Nat → Nat) × (Nat → (Nat → Nat) × (Nat → Nat))) (mm : Nat) (v : Nat → Nat) (oo : Nat) : WK Γ a u mm v oo 50 := ⟨((u.2.2 1).2 0, .inl (gc Γ 20, 30, .inl fun _ => 0)), rfl, rfl, fun D cl H h => by rw [ce_i (GI Γ a u mm v oo) (k := 20) (n := 30) rfl (Or.inl rfl) (by decide) (by decide)]; exact h⟩
theorem wk_51 (Γ : AG) (a : Nat) (u : (Nat → Nat) × (Nat → Nat → Nat) × (Nat → (Nat → Nat) × (Nat → Nat))) (mm : Nat) (v : Nat → Nat) (oo : Nat) : WK Γ a u mm v oo 51 := ⟨((u.2.2 1).2 1, .inl (gc Γ 20, 30, .inl fun _ => 0)), rfl, rfl, fun D cl H h => by rw [ce_i (GI Γ a u mm v oo) (k := 20) (n := 30) rfl (Or.inl rfl) (by decide) (by decide)]; exact h⟩
theorem wk_52 (Γ : AG) (a : Nat) (u : (Nat → Nat) × (Nat → Nat → Nat) × (Nat → (Nat → Nat) × (Nat → Nat))) (mm : Nat) (v : Nat → Nat) (oo : Nat) : WK Γ a u mm v oo 52 := ⟨((u.2.2 1).2 2, .inl (gc Γ 20, 30, .inl fun _ => 0)), rfl, rfl, fun D cl H h => by rw [ce_i (GI Γ a u mm v oo) (k := 20) (n := 30) rfl (Or.inl rfl) (by decide) (by decide)]; exact h⟩
theorem wk_53 (Γ : AG) (a : Nat) (u : (Nat → Nat) × (Nat → Nat → Nat) × (Nat → (Nat → Nat) × (Nat → Nat))) (mm : Nat) (v : Nat → Nat) (oo : Nat) : WK Γ a u mm v oo 53 := ⟨((u.2.2 1).2 3, .inl (gc Γ 20, 30, .inl fun _ => 0)), rfl, rfl, fun D cl H h => by rw [ce_i (GI Γ a u mm v oo) (k := 20) (n := 30) rfl (Or.inl rfl) (by decide) (by decide)]; exact h⟩
theorem wk_54 (Γ : AG) (a : Nat) (u : (Nat → Nat) × (Nat → Nat → Nat) × (Nat → (Nat → Nat) × (Nat → Nat))) (mm : Nat) (v : Nat → Nat) (oo : Nat) : WK Γ a u mm v oo 54 := ⟨((u.2.2 1).2 4, .inl (gc Γ 20, 36, .inl fun _ => 0)), rfl, rfl, fun D cl H h => by rw [ce_i (GI Γ a u mm v oo) (k := 20) (n := 36) rfl (Or.inl rfl) (by decide) (by decide)]; exact h⟩
theorem wk_55 (Γ : AG) (a : Nat) (u : (Nat → Nat) × (Nat → Nat → Nat) × (Nat → (Nat → Nat) × (Nat → Nat))) (mm : Nat) (v : Nat → Nat) (oo : Nat) : WK Γ a u mm v oo 55 := ⟨_, rfl, rfl, fun D cl H h => by rw [ceA_obj (Γ := (GI Γ a u mm v oo)) (ci := 5) (n := 0) rfl (by decide)]; exact h⟩
theorem wk_56 (Γ : AG) (a : Nat) (u : (Nat → Nat) × (Nat → Nat → Nat) × (Nat → (Nat → Nat) × (Nat → Nat))) (mm : Nat) (v : Nat → Nat) (oo : Nat) : WK Γ a u mm v oo 56 := ⟨(u.2.1 14 0, .inl (gc Γ 20, 240, .inl fun _ => 0)), rfl, rfl, fun D cl H h => by rw [ce_i (GI Γ a u mm v oo) (k := 20) (n := 240) rfl (Or.inl rfl) (by decide) (by decide)]; exact h⟩
theorem wk_57 (Γ : AG) (a : Nat) (u : (Nat → Nat) × (Nat → Nat → Nat) × (Nat → (Nat → Nat) × (Nat → Nat))) (mm : Nat) (v : Nat → Nat) (oo : Nat) : WK Γ a u mm v oo 57 := ⟨(u.2.1 14 1, .inl (gc Γ 20, 64, .inl fun _ => 0)), rfl, rfl, fun D cl H h => by rw [ce_i (GI Γ a u mm v oo) (k := 20) (n := 64) rfl (Or.inl rfl) (by decide) (by decide)]; exact h⟩
theorem wk_58 (Γ : AG) (a : Nat) (u : (Nat → Nat) × (Nat → Nat → Nat) × (Nat → (Nat → Nat) × (Nat → Nat))) (mm : Nat) (v : Nat → Nat) (oo : Nat) : WK Γ a u mm v oo 58 := ⟨_, rfl, rfl, fun D cl H h => by rw [ceA_obj (Γ := (GI Γ a u mm v oo)) (ci := 5) (n := 0) rfl (by decide)]; exact h⟩
theorem wk_59 (Γ : AG) (a : Nat) (u : (Nat → Nat) × (Nat → Nat → Nat) × (Nat → (Nat → Nat) × (Nat → Nat))) (mm : Nat) (v : Nat → Nat) (oo : Nat) : WK Γ a u mm v oo 59 := ⟨(u.2.1 16 0, .inl (gc Γ 20, 240, .inl fun _ => 0)), rfl, rfl, fun D cl H h => by rw [ce_i (GI Γ a u mm v oo) (k := 20) (n := 240) rfl (Or.inl rfl) (by decide) (by decide)]; exact h⟩
theorem wk_60 (Γ : AG) (a : Nat) (u : (Nat → Nat) × (Nat → Nat → Nat) × (Nat → (Nat → Nat) × (Nat → Nat))) (mm : Nat) (v : Nat → Nat) (oo : Nat) : WK Γ a u mm v oo 60 := ⟨(u.2.1 16 1, .inl (gc Γ 20, 64, .inl fun _ => 0)), rfl, rfl, fun D cl H h => by rw [ce_i (GI Γ a u mm v oo) (k := 20) (n := 64) rfl (Or.inl rfl) (by decide) (by decide)]; exact h⟩
theorem wk_61 (Γ : AG) (a : Nat) (u : (Nat → Nat) × (Nat → Nat → Nat) × (Nat → (Nat → Nat) × (Nat → Nat))) (mm : Nat) (v : Nat → Nat) (oo : Nat) : WK Γ a u mm v oo 61 := ⟨_, rfl, rfl, fun D cl H h => by rw [ceA_obj (Γ := (GI Γ a u mm v oo)) (ci := 5) (n := 0) rfl (by decide)]; exact h⟩
theorem wk_62 (Γ : AG) (a : Nat) (u : (Nat → Nat) × (Nat → Nat → Nat) × (Nat → (Nat → Nat) × (Nat → Nat))) (mm : Nat) (v : Nat → Nat) (oo : Nat) : WK Γ a u mm v oo 62 := ⟨(u.2.1 18 0, .inl (gc Γ 20, 240, .inl fun _ => 0)), rfl, rfl, fun D cl H h => by rw [ce_i (GI Γ a u mm v oo) (k := 20) (n := 240) rfl (Or.inl rfl) (by decide) (by decide)]; exact h⟩
theorem wk_63 (Γ : AG) (a : Nat) (u : (Nat → Nat) × (Nat → Nat → Nat) × (Nat → (Nat → Nat) × (Nat → Nat))) (mm : Nat) (v : Nat → Nat) (oo : Nat) : WK Γ a u mm v oo 63 := ⟨(u.2.1 18 1, .inl (gc Γ 20, 64, .inl fun _ => 0)), rfl, rfl, fun D cl H h => by rw [ce_i (GI Γ a u mm v oo) (k := 20) (n := 64) rfl (Or.inl rfl) (by decide) (by decide)]; exact h⟩
theorem wk_64 (Γ : AG) (a : Nat) (u : (Nat → Nat) × (Nat → Nat → Nat) × (Nat → (Nat → Nat) × (Nat → Nat))) (mm : Nat) (v : Nat → Nat) (oo : Nat) : WK Γ a u mm v oo 64 := ⟨_, rfl, rfl, fun D cl H h => by rw [ceA_obj (Γ := (GI Γ a u mm v oo)) (ci := 5) (n := 0) rfl (by decide)]; exact h⟩
theorem wk_65 (Γ : AG) (a : Nat) (u : (Nat → Nat) × (Nat → Nat → Nat) × (Nat → (Nat → Nat) × (Nat → Nat))) (mm : Nat) (v : Nat → Nat) (oo : Nat) : WK Γ a u mm v oo 65 := ⟨(u.2.1 20 0, .inl (gc Γ 20, 240, .inl fun _ => 0)), rfl, rfl, fun D cl H h => by rw [ce_i (GI Γ a u mm v oo) (k := 20) (n := 240) rfl (Or.inl rfl) (by decide) (by decide)]; exact h⟩
theorem wk_66 (Γ : AG) (a : Nat) (u : (Nat → Nat) × (Nat → Nat → Nat) × (Nat → (Nat → Nat) × (Nat → Nat))) (mm : Nat) (v : Nat → Nat) (oo : Nat) : WK Γ a u mm v oo 66 := ⟨(u.2.1 20 1, .inl (gc Γ 20, 64, .inl fun _ => 0)), rfl, rfl, fun D cl H h => by rw [ce_i (GI Γ a u mm v oo) (k := 20) (n := 64) rfl (Or.inl rfl) (by decide) (by decide)]; exact h⟩
theorem wk_67 (Γ : AG) (a : Nat) (u : (Nat → Nat) × (Nat → Nat → Nat) × (Nat → (Nat → Nat) × (Nat → Nat))) (mm : Nat) (v : Nat → Nat) (oo : Nat) : WK Γ a u mm v oo 67 := ⟨_, rfl, rfl, fun D cl H h => by rw [ceA_obj (Γ := (GI Γ a u mm v oo)) (ci := 5) (n := 0) rfl (by decide)]; exact h⟩
theorem wk_68 (Γ : AG) (a : Nat) (u : (Nat → Nat) × (Nat → Nat → Nat) × (Nat → (Nat → Nat) × (Nat → Nat))) (mm : Nat) (v : Nat → Nat) (oo : Nat) : WK Γ a u mm v oo 68 := ⟨((u.2.2 2).2 0, .inl (gc Γ 20, 240, .inl fun _ => 0)), rfl, rfl, fun D cl H h => by rw [ce_i (GI Γ a u mm v oo) (k := 20) (n := 240) rfl (Or.inl rfl) (by decide) (by decide)]; exact h⟩
theorem wk_69 (Γ : AG) (a : Nat) (u : (Nat → Nat) × (Nat → Nat → Nat) × (Nat → (Nat → Nat) × (Nat → Nat))) (mm : Nat) (v : Nat → Nat) (oo : Nat) : WK Γ a u mm v oo 69 := ⟨((u.2.2 2).2 1, .inl (gc Γ 20, 64, .inl fun _ => 0)), rfl, rfl, fun D cl H h => by rw [ce_i (GI Γ a u mm v oo) (k := 20) (n := 64) rfl (Or.inl rfl) (by decide) (by decide)]; exact h⟩
theorem wk_70 (Γ : AG) (a : Nat) (u : (Nat → Nat) × (Nat → Nat → Nat) × (Nat → (Nat → Nat) × (Nat → Nat))) (mm : Nat) (v : Nat → Nat) (oo : Nat) : WK Γ a u mm v oo 70 := ⟨_, rfl, rfl, fun D cl H h => by rw [ceA_obj (Γ := (GI Γ a u mm v oo)) (ci := 7) (n := 0) rfl (by decide)]; exact h⟩
theorem wk_71 (Γ : AG) (a : Nat) (u : (Nat → Nat) × (Nat → Nat → Nat) × (Nat → (Nat → Nat) × (Nat → Nat))) (mm : Nat) (v : Nat → Nat) (oo : Nat) : WK Γ a u mm v oo 71 := ⟨(u.2.1 15 0, .inl (gc Γ 20, 64, .inl fun _ => 0)), rfl, rfl, fun D cl H h => by rw [ce_i (GI Γ a u mm v oo) (k := 20) (n := 64) rfl (Or.inl rfl) (by decide) (by decide)]; exact h⟩
theorem wk_72 (Γ : AG) (a : Nat) (u : (Nat → Nat) × (Nat → Nat → Nat) × (Nat → (Nat → Nat) × (Nat → Nat))) (mm : Nat) (v : Nat → Nat) (oo : Nat) : WK Γ a u mm v oo 72 := ⟨_, rfl, rfl, fun D cl H h => by rw [ceA_obj (Γ := (GI Γ a u mm v oo)) (ci := 7) (n := 0) rfl (by decide)]; exact h⟩
theorem wk_73 (Γ : AG) (a : Nat) (u : (Nat → Nat) × (Nat → Nat → Nat) × (Nat → (Nat → Nat) × (Nat → Nat))) (mm : Nat) (v : Nat → Nat) (oo : Nat) : WK Γ a u mm v oo 73 := ⟨(u.2.1 17 0, .inl (gc Γ 20, 64, .inl fun _ => 0)), rfl, rfl, fun D cl H h => by rw [ce_i (GI Γ a u mm v oo) (k := 20) (n := 64) rfl (Or.inl rfl) (by decide) (by decide)]; exact h⟩
theorem wk_74 (Γ : AG) (a : Nat) (u : (Nat → Nat) × (Nat → Nat → Nat) × (Nat → (Nat → Nat) × (Nat → Nat))) (mm : Nat) (v : Nat → Nat) (oo : Nat) : WK Γ a u mm v oo 74 := ⟨_, rfl, rfl, fun D cl H h => by rw [ceA_obj (Γ := (GI Γ a u mm v oo)) (ci := 7) (n := 0) rfl (by decide)]; exact h⟩
theorem wk_75 (Γ : AG) (a : Nat) (u : (Nat → Nat) × (Nat → Nat → Nat) × (Nat → (Nat → Nat) × (Nat → Nat))) (mm : Nat) (v : Nat → Nat) (oo : Nat) : WK Γ a u mm v oo 75 := ⟨(u.2.1 19 0, .inl (gc Γ 20, 64, .inl fun _ => 0)), rfl, rfl, fun D cl H h => by rw [ce_i (GI Γ a u mm v oo) (k := 20) (n := 64) rfl (Or.inl rfl) (by decide) (by decide)]; exact h⟩
theorem wk_76 (Γ : AG) (a : Nat) (u : (Nat → Nat) × (Nat → Nat → Nat) × (Nat → (Nat → Nat) × (Nat → Nat))) (mm : Nat) (v : Nat → Nat) (oo : Nat) : WK Γ a u mm v oo 76 := ⟨_, rfl, rfl, fun D cl H h => by rw [ceA_obj (Γ := (GI Γ a u mm v oo)) (ci := 7) (n := 0) rfl (by decide)]; exact h⟩
theorem wk_77 (Γ : AG) (a : Nat) (u : (Nat → Nat) × (Nat → Nat → Nat) × (Nat → (Nat → Nat) × (Nat → Nat))) (mm : Nat) (v : Nat → Nat) (oo : Nat) : WK Γ a u mm v oo 77 := ⟨(u.2.1 21 0, .inl (gc Γ 20, 64, .inl fun _ => 0)), rfl, rfl, fun D cl H h => by rw [ce_i (GI Γ a u mm v oo) (k := 20) (n := 64) rfl (Or.inl rfl) (by decide) (by decide)]; exact h⟩
theorem wk_78 (Γ : AG) (a : Nat) (u : (Nat → Nat) × (Nat → Nat → Nat) × (Nat → (Nat → Nat) × (Nat → Nat))) (mm : Nat) (v : Nat → Nat) (oo : Nat) : WK Γ a u mm v oo 78 := ⟨_, rfl, rfl, fun D cl H h => by rw [ceA_obj (Γ := (GI Γ a u mm v oo)) (ci := 7) (n := 0) rfl (by decide)]; exact h⟩
theorem wk_79 (Γ : AG) (a : Nat) (u : (Nat → Nat) × (Nat → Nat → Nat) × (Nat → (Nat → Nat) × (Nat → Nat))) (mm : Nat) (v : Nat → Nat) (oo : Nat) : WK Γ a u mm v oo 79 := ⟨((u.2.2 3).2 0, .inl (gc Γ 20, 64, .inl fun _ => 0)), rfl, rfl, fun D cl H h => by rw [ce_i (GI Γ a u mm v oo) (k := 20) (n := 64) rfl (Or.inl rfl) (by decide) (by decide)]; exact h⟩
theorem wk_80 (Γ : AG) (a : Nat) (u : (Nat → Nat) × (Nat → Nat → Nat) × (Nat → (Nat → Nat) × (Nat → Nat))) (mm : Nat) (v : Nat → Nat) (oo : Nat) : WK Γ a u mm v oo 80 := ⟨_, rfl, rfl, fun D cl H h => by rw [ceA_obj (Γ := (GI Γ a u mm v oo)) (ci := 12) (n := 0) rfl (by decide)]; exact h⟩
theorem wk_81 (Γ : AG) (a : Nat) (u : (Nat → Nat) × (Nat → Nat → Nat) × (Nat → (Nat → Nat) × (Nat → Nat))) (mm : Nat) (v : Nat → Nat) (oo : Nat) : WK Γ a u mm v oo 81 := ⟨(v 0, .inl (gc Γ 21, 240, .inl fun _ => 0)), rfl, rfl, fun D cl H h => by rw [ce_i (GI Γ a u mm v oo) (k := 21) (n := 240) rfl (Or.inr (Or.inl rfl)) (by decide) (by decide)]; exact h⟩
theorem wk_82 (Γ : AG) (a : Nat) (u : (Nat → Nat) × (Nat → Nat → Nat) × (Nat → (Nat → Nat) × (Nat → Nat))) (mm : Nat) (v : Nat → Nat) (oo : Nat) : WK Γ a u mm v oo 82 := ⟨(v 1, .inl (gc Γ 21, 960, .inl fun _ => 0)), rfl, rfl, fun D cl H h => by rw [ce_i (GI Γ a u mm v oo) (k := 21) (n := 960) rfl (Or.inr (Or.inl rfl)) (by decide) (by decide)]; exact h⟩
theorem wk_83 (Γ : AG) (a : Nat) (u : (Nat → Nat) × (Nat → Nat → Nat) × (Nat → (Nat → Nat) × (Nat → Nat))) (mm : Nat) (v : Nat → Nat) (oo : Nat) : WK Γ a u mm v oo 83 := ⟨(v 2, .inl (gc Γ 20, 4, .inl fun _ => 0)), rfl, rfl, fun D cl H h => by rw [ce_i (GI Γ a u mm v oo) (k := 20) (n := 4) rfl (Or.inl rfl) (by decide) (by decide)]; exact h⟩
theorem wk_84 (Γ : AG) (a : Nat) (u : (Nat → Nat) × (Nat → Nat → Nat) × (Nat → (Nat → Nat) × (Nat → Nat))) (mm : Nat) (v : Nat → Nat) (oo : Nat) : WK Γ a u mm v oo 84 := ⟨(v 3, .inl (gc Γ 20, 128, .inl fun _ => 0)), rfl, rfl, fun D cl H h => by rw [ce_i (GI Γ a u mm v oo) (k := 20) (n := 128) rfl (Or.inl rfl) (by decide) (by decide)]; exact h⟩
theorem wk_85 (Γ : AG) (a : Nat) (u : (Nat → Nat) × (Nat → Nat → Nat) × (Nat → (Nat → Nat) × (Nat → Nat))) (mm : Nat) (v : Nat → Nat) (oo : Nat) : WK Γ a u mm v oo 85 := ⟨(v 4, .inl (gc Γ 20, 4, .inl fun _ => 0)), rfl, rfl, fun D cl H h => by rw [ce_i (GI Γ a u mm v oo) (k := 20) (n := 4) rfl (Or.inl rfl) (by decide) (by decide)]; exact h⟩
theorem wk_86 (Γ : AG) (a : Nat) (u : (Nat → Nat) × (Nat → Nat → Nat) × (Nat → (Nat → Nat) × (Nat → Nat))) (mm : Nat) (v : Nat → Nat) (oo : Nat) : WK Γ a u mm v oo 86 := ⟨(v 5, .inl (gc Γ 20, 4, .inl fun _ => 0)), rfl, rfl, fun D cl H h => by rw [ce_i (GI Γ a u mm v oo) (k := 20) (n := 4) rfl (Or.inl rfl) (by decide) (by decide)]; exact h⟩
theorem wk_87 (Γ : AG) (a : Nat) (u : (Nat → Nat) × (Nat → Nat → Nat) × (Nat → (Nat → Nat) × (Nat → Nat))) (mm : Nat) (v : Nat → Nat) (oo : Nat) : WK Γ a u mm v oo 87 := ⟨(v 6, .inl (gc Γ 20, 52, .inl fun _ => 0)), rfl, rfl, fun D cl H h => by rw [ce_i (GI Γ a u mm v oo) (k := 20) (n := 52) rfl (Or.inl rfl) (by decide) (by decide)]; exact h⟩
theorem wk_88 (Γ : AG) (a : Nat) (u : (Nat → Nat) × (Nat → Nat → Nat) × (Nat → (Nat → Nat) × (Nat → Nat))) (mm : Nat) (v : Nat → Nat) (oo : Nat) : WK Γ a u mm v oo 88 := ⟨(v 7, .inl (gc Γ 20, 52, .inl fun _ => 0)), rfl, rfl, fun D cl H h => by rw [ce_i (GI Γ a u mm v oo) (k := 20) (n := 52) rfl (Or.inl rfl) (by decide) (by decide)]; exact h⟩
theorem wk_89 (Γ : AG) (a : Nat) (u : (Nat → Nat) × (Nat → Nat → Nat) × (Nat → (Nat → Nat) × (Nat → Nat))) (mm : Nat) (v : Nat → Nat) (oo : Nat) : WK Γ a u mm v oo 89 := ⟨(v 8, .inl (gc Γ 20, 12, .inl fun _ => 0)), rfl, rfl, fun D cl H h => by rw [ce_i (GI Γ a u mm v oo) (k := 20) (n := 12) rfl (Or.inl rfl) (by decide) (by decide)]; exact h⟩
theorem wk_90 (Γ : AG) (a : Nat) (u : (Nat → Nat) × (Nat → Nat → Nat) × (Nat → (Nat → Nat) × (Nat → Nat))) (mm : Nat) (v : Nat → Nat) (oo : Nat) : WK Γ a u mm v oo 90 := ⟨(v 9, .inl (gc Γ 20, 12, .inl fun _ => 0)), rfl, rfl, fun D cl H h => by rw [ce_i (GI Γ a u mm v oo) (k := 20) (n := 12) rfl (Or.inl rfl) (by decide) (by decide)]; exact h⟩
theorem wk_91 (Γ : AG) (a : Nat) (u : (Nat → Nat) × (Nat → Nat → Nat) × (Nat → (Nat → Nat) × (Nat → Nat))) (mm : Nat) (v : Nat → Nat) (oo : Nat) : WK Γ a u mm v oo 91 := ⟨(v 10, .inl (gc Γ 20, 12, .inl fun _ => 0)), rfl, rfl, fun D cl H h => by rw [ce_i (GI Γ a u mm v oo) (k := 20) (n := 12) rfl (Or.inl rfl) (by decide) (by decide)]; exact h⟩
theorem wk_92 (Γ : AG) (a : Nat) (u : (Nat → Nat) × (Nat → Nat → Nat) × (Nat → (Nat → Nat) × (Nat → Nat))) (mm : Nat) (v : Nat → Nat) (oo : Nat) : WK Γ a u mm v oo 92 := ⟨(v 11, .inl (gc Γ 20, 12, .inl fun _ => 0)), rfl, rfl, fun D cl H h => by rw [ce_i (GI Γ a u mm v oo) (k := 20) (n := 12) rfl (Or.inl rfl) (by decide) (by decide)]; exact h⟩
theorem wk_93 (Γ : AG) (a : Nat) (u : (Nat → Nat) × (Nat → Nat → Nat) × (Nat → (Nat → Nat) × (Nat → Nat))) (mm : Nat) (v : Nat → Nat) (oo : Nat) : WK Γ a u mm v oo 93 := ⟨(v 12, .inl (gc Γ 20, 36, .inl fun _ => 0)), rfl, rfl, fun D cl H h => by rw [ce_i (GI Γ a u mm v oo) (k := 20) (n := 36) rfl (Or.inl rfl) (by decide) (by decide)]; exact h⟩
theorem wk_94 (Γ : AG) (a : Nat) (u : (Nat → Nat) × (Nat → Nat → Nat) × (Nat → (Nat → Nat) × (Nat → Nat))) (mm : Nat) (v : Nat → Nat) (oo : Nat) : WK Γ a u mm v oo 94 := ⟨(v 13, .inl (gc Γ 20, 36, .inl fun _ => 0)), rfl, rfl, fun D cl H h => by rw [ce_i (GI Γ a u mm v oo) (k := 20) (n := 36) rfl (Or.inl rfl) (by decide) (by decide)]; exact h⟩
theorem wk_95 (Γ : AG) (a : Nat) (u : (Nat → Nat) × (Nat → Nat → Nat) × (Nat → (Nat → Nat) × (Nat → Nat))) (mm : Nat) (v : Nat → Nat) (oo : Nat) : WK Γ a u mm v oo 95 := ⟨(v 14, .inl (gc Γ 20, 640, .inl fun _ => 0)), rfl, rfl, fun D cl H h => by rw [ce_i (GI Γ a u mm v oo) (k := 20) (n := 640) rfl (Or.inl rfl) (by decide) (by decide)]; exact h⟩
theorem wk_96 (Γ : AG) (a : Nat) (u : (Nat → Nat) × (Nat → Nat → Nat) × (Nat → (Nat → Nat) × (Nat → Nat))) (mm : Nat) (v : Nat → Nat) (oo : Nat) : WK Γ a u mm v oo 96 := ⟨(v 15, .inl (gc Γ 20, 5, .inl fun _ => 0)), rfl, rfl, fun D cl H h => by rw [ce_i (GI Γ a u mm v oo) (k := 20) (n := 5) rfl (Or.inl rfl) (by decide) (by decide)]; exact h⟩
theorem wk_97 (Γ : AG) (a : Nat) (u : (Nat → Nat) × (Nat → Nat → Nat) × (Nat → (Nat → Nat) × (Nat → Nat))) (mm : Nat) (v : Nat → Nat) (oo : Nat) : WK Γ a u mm v oo 97 := ⟨(v 16, .inl (gc Γ 20, 227, .inl fun _ => 0)), rfl, rfl, fun D cl H h => by rw [ce_i (GI Γ a u mm v oo) (k := 20) (n := 227) rfl (Or.inl rfl) (by decide) (by decide)]; exact h⟩
theorem wk_98 (Γ : AG) (a : Nat) (u : (Nat → Nat) × (Nat → Nat → Nat) × (Nat → (Nat → Nat) × (Nat → Nat))) (mm : Nat) (v : Nat → Nat) (oo : Nat) : WK Γ a u mm v oo 98 := ⟨(v 17, .inl (gc Γ 20, 227, .inl fun _ => 0)), rfl, rfl, fun D cl H h => by rw [ce_i (GI Γ a u mm v oo) (k := 20) (n := 227) rfl (Or.inl rfl) (by decide) (by decide)]; exact h⟩
theorem wk_99 (Γ : AG) (a : Nat) (u : (Nat → Nat) × (Nat → Nat → Nat) × (Nat → (Nat → Nat) × (Nat → Nat))) (mm : Nat) (v : Nat → Nat) (oo : Nat) : WK Γ a u mm v oo 99 := ⟨(v 18, .inl (gc Γ 20, 9080, .inl fun _ => 0)), rfl, rfl, fun D cl H h => by rw [ce_i (GI Γ a u mm v oo) (k := 20) (n := 9080) rfl (Or.inl rfl) (by decide) (by decide)]; exact h⟩
theorem wk_100 (Γ : AG) (a : Nat) (u : (Nat → Nat) × (Nat → Nat → Nat) × (Nat → (Nat → Nat) × (Nat → Nat))) (mm : Nat) (v : Nat → Nat) (oo : Nat) : WK Γ a u mm v oo 100 := ⟨(v 19, .inl (gc Γ 20, 12, .inl fun _ => 0)), rfl, rfl, fun D cl H h => by rw [ce_i (GI Γ a u mm v oo) (k := 20) (n := 12) rfl (Or.inl rfl) (by decide) (by decide)]; exact h⟩
theorem wk_101 (Γ : AG) (a : Nat) (u : (Nat → Nat) × (Nat → Nat → Nat) × (Nat → (Nat → Nat) × (Nat → Nat))) (mm : Nat) (v : Nat → Nat) (oo : Nat) : WK Γ a u mm v oo 101 := ⟨(v 20, .inl (gc Γ 20, 12, .inl fun _ => 0)), rfl, rfl, fun D cl H h => by rw [ce_i (GI Γ a u mm v oo) (k := 20) (n := 12) rfl (Or.inl rfl) (by decide) (by decide)]; exact h⟩
theorem wk_102 (Γ : AG) (a : Nat) (u : (Nat → Nat) × (Nat → Nat → Nat) × (Nat → (Nat → Nat) × (Nat → Nat))) (mm : Nat) (v : Nat → Nat) (oo : Nat) : WK Γ a u mm v oo 102 := ⟨(v 21, .inl (gc Γ 22, 12, .inl fun _ => 0)), rfl, rfl, fun D cl H h => by rw [ce_i (GI Γ a u mm v oo) (k := 22) (n := 12) rfl (Or.inr (Or.inr rfl)) (by decide) (by decide)]; exact h⟩
theorem wk_103 (Γ : AG) (a : Nat) (u : (Nat → Nat) × (Nat → Nat → Nat) × (Nat → (Nat → Nat) × (Nat → Nat))) (mm : Nat) (v : Nat → Nat) (oo : Nat) : WK Γ a u mm v oo 103 := ⟨(v 22, .inl (gc Γ 20, 30, .inl fun _ => 0)), rfl, rfl, fun D cl H h => by rw [ce_i (GI Γ a u mm v oo) (k := 20) (n := 30) rfl (Or.inl rfl) (by decide) (by decide)]; exact h⟩
theorem wk_104 (Γ : AG) (a : Nat) (u : (Nat → Nat) × (Nat → Nat → Nat) × (Nat → (Nat → Nat) × (Nat → Nat))) (mm : Nat) (v : Nat → Nat) (oo : Nat) : WK Γ a u mm v oo 104 := ⟨(v 23, .inl (gc Γ 20, 227, .inl fun _ => 0)), rfl, rfl, fun D cl H h => by rw [ce_i (GI Γ a u mm v oo) (k := 20) (n := 227) rfl (Or.inl rfl) (by decide) (by decide)]; exact h⟩
theorem wk_105 (Γ : AG) (a : Nat) (u : (Nat → Nat) × (Nat → Nat → Nat) × (Nat → (Nat → Nat) × (Nat → Nat))) (mm : Nat) (v : Nat → Nat) (oo : Nat) : WK Γ a u mm v oo 105 := ⟨(oo, .inl (gc Γ 23, 1, .inr (.inl fun _ => 0))), rfl, rfl, fun D cl H h => by rw [ceA_long (Γ := (GI Γ a u mm v oo)) (n := 1) rfl]; exact h⟩
theorem wk_all (Γ : AG) (a : Nat) (u : (Nat → Nat) × (Nat → Nat → Nat) × (Nat → (Nat → Nat) × (Nat → Nat))) (mm : Nat) (v : Nat → Nat) (oo : Nat) : ∀ k : Nat, k < 106 → WK Γ a u mm v oo k
  | 0, _ => wk_0 Γ a u mm v oo
  | 1, _ => wk_1 Γ a u mm v oo
  | 2, _ => wk_2 Γ a u mm v oo
  | 3, _ => wk_3 Γ a u mm v oo
  | 4, _ => wk_4 Γ a u mm v oo
  | 5, _ => wk_5 Γ a u mm v oo
  | 6, _ => wk_6 Γ a u mm v oo
  | 7, _ => wk_7 Γ a u mm v oo
  | 8, _ => wk_8 Γ a u mm v oo
  | 9, _ => wk_9 Γ a u mm v oo
  | 10, _ => wk_10 Γ a u mm v oo
  | 11, _ => wk_11 Γ a u mm v oo
  | 12, _ => wk_12 Γ a u mm v oo
  | 13, _ => wk_13 Γ a u mm v oo
  | 14, _ => wk_14 Γ a u mm v oo
  | 15, _ => wk_15 Γ a u mm v oo
  | 16, _ => wk_16 Γ a u mm v oo
  | 17, _ => wk_17 Γ a u mm v oo
  | 18, _ => wk_18 Γ a u mm v oo
  | 19, _ => wk_19 Γ a u mm v oo
  | 20, _ => wk_20 Γ a u mm v oo
  | 21, _ => wk_21 Γ a u mm v oo
  | 22, _ => wk_22 Γ a u mm v oo
  | 23, _ => wk_23 Γ a u mm v oo
  | 24, _ => wk_24 Γ a u mm v oo
  | 25, _ => wk_25 Γ a u mm v oo
  | 26, _ => wk_26 Γ a u mm v oo
  | 27, _ => wk_27 Γ a u mm v oo
  | 28, _ => wk_28 Γ a u mm v oo
  | 29, _ => wk_29 Γ a u mm v oo
  | 30, _ => wk_30 Γ a u mm v oo
  | 31, _ => wk_31 Γ a u mm v oo
  | 32, _ => wk_32 Γ a u mm v oo
  | 33, _ => wk_33 Γ a u mm v oo
  | 34, _ => wk_34 Γ a u mm v oo
  | 35, _ => wk_35 Γ a u mm v oo
  | 36, _ => wk_36 Γ a u mm v oo
  | 37, _ => wk_37 Γ a u mm v oo
  | 38, _ => wk_38 Γ a u mm v oo
  | 39, _ => wk_39 Γ a u mm v oo
  | 40, _ => wk_40 Γ a u mm v oo
  | 41, _ => wk_41 Γ a u mm v oo
  | 42, _ => wk_42 Γ a u mm v oo
  | 43, _ => wk_43 Γ a u mm v oo
  | 44, _ => wk_44 Γ a u mm v oo
  | 45, _ => wk_45 Γ a u mm v oo
  | 46, _ => wk_46 Γ a u mm v oo
  | 47, _ => wk_47 Γ a u mm v oo
  | 48, _ => wk_48 Γ a u mm v oo
  | 49, _ => wk_49 Γ a u mm v oo
  | 50, _ => wk_50 Γ a u mm v oo
  | 51, _ => wk_51 Γ a u mm v oo
  | 52, _ => wk_52 Γ a u mm v oo
  | 53, _ => wk_53 Γ a u mm v oo
  | 54, _ => wk_54 Γ a u mm v oo
  | 55, _ => wk_55 Γ a u mm v oo
  | 56, _ => wk_56 Γ a u mm v oo
  | 57, _ => wk_57 Γ a u mm v oo
  | 58, _ => wk_58 Γ a u mm v oo
  | 59, _ => wk_59 Γ a u mm v oo
  | 60, _ => wk_60 Γ a u mm v oo
  | 61, _ => wk_61 Γ a u mm v oo
  | 62, _ => wk_62 Γ a u mm v oo
  | 63, _ => wk_63 Γ a u mm v oo
  | 64, _ => wk_64 Γ a u mm v oo
  | 65, _ => wk_65 Γ a u mm v oo
  | 66, _ => wk_66 Γ a u mm v oo
  | 67, _ => wk_67 Γ a u mm v oo
  | 68, _ => wk_68 Γ a u mm v oo
  | 69, _ => wk_69 Γ a u mm v oo
  | 70, _ => wk_70 Γ a u mm v oo
  | 71, _ => wk_71 Γ a u mm v oo
  | 72, _ => wk_72 Γ a u mm v oo
  | 73, _ => wk_73 Γ a u mm v oo
  | 74, _ => wk_74 Γ a u mm v oo
  | 75, _ => wk_75 Γ a u mm v oo
  | 76, _ => wk_76 Γ a u mm v oo
  | 77, _ => wk_77 Γ a u mm v oo
  | 78, _ => wk_78 Γ a u mm v oo
  | 79, _ => wk_79 Γ a u mm v oo
  | 80, _ => wk_80 Γ a u mm v oo
  | 81, _ => wk_81 Γ a u mm v oo
  | 82, _ => wk_82 Γ a u mm v oo
  | 83, _ => wk_83 Γ a u mm v oo
  | 84, _ => wk_84 Γ a u mm v oo
  | 85, _ => wk_85 Γ a u mm v oo
  | 86, _ => wk_86 Γ a u mm v oo
  | 87, _ => wk_87 Γ a u mm v oo
  | 88, _ => wk_88 Γ a u mm v oo
  | 89, _ => wk_89 Γ a u mm v oo
  | 90, _ => wk_90 Γ a u mm v oo
  | 91, _ => wk_91 Γ a u mm v oo
  | 92, _ => wk_92 Γ a u mm v oo
  | 93, _ => wk_93 Γ a u mm v oo
  | 94, _ => wk_94 Γ a u mm v oo
  | 95, _ => wk_95 Γ a u mm v oo
  | 96, _ => wk_96 Γ a u mm v oo
  | 97, _ => wk_97 Γ a u mm v oo
  | 98, _ => wk_98 Γ a u mm v oo
  | 99, _ => wk_99 Γ a u mm v oo
  | 100, _ => wk_100 Γ a u mm v oo
  | 101, _ => wk_101 Γ a u mm v oo
  | 102, _ => wk_102 Γ a u mm v oo
  | 103, _ => wk_103 Γ a u mm v oo
  | 104, _ => wk_104 Γ a u mm v oo
  | 105, _ => wk_105 Γ a u mm v oo
  | k + 106, hk => absurd hk (by omega)
theorem pi_inj : ∀ i : Nat, i < 106 → ∀ j : Nat, j < 106 → piL.getD i 0 = piL.getD j 0 → i = j := by decide +kernel
theorem wsA_k {Γ : AG} {h : AH} {k : Nat} {q : Nat × va_E} (hk : (wsA Γ h)[k]? = some q) : k < 106 ∧ q = (gs Γ k, ceA Γ h k) := by
  have hl : k < 106 := by
    have h1 := (List.getElem?_eq_some_iff.mp hk).1
    simpa [wsA] using h1
  rw [wsA_at Γ h hl] at hk
  exact ⟨hl, (Option.some.inj hk).symm⟩
theorem wd_P (Γ : AG) (a : Nat) (u : (Nat → Nat) × (Nat → Nat → Nat) × (Nat → (Nat → Nat) × (Nat → Nat))) (mm : Nat) (v : Nat → Nat) (oo : Nat) {D : va_G} {cl : List vw_C} {H : Heap} (hP : va_P D cl (wI0 Γ a u mm v oo) H) : va_P D cl (wsA (GI Γ a u mm v oo) hI) H := by
  intro k q hk
  obtain ⟨hl, rfl⟩ := wsA_k hk
  obtain ⟨q0, h1, _, h3⟩ := wk_all Γ a u mm v oo k hl
  exact h3 D cl H (hP _ q0 h1)
theorem wd_D (Γ : AG) (a : Nat) (u : (Nat → Nat) × (Nat → Nat → Nat) × (Nat → (Nat → Nat) × (Nat → Nat))) (mm : Nat) (v : Nat → Nat) (oo : Nat) {A : Nat → Prop} (hD : va_D A (wI0 Γ a u mm v oo)) : va_D A (wsA (GI Γ a u mm v oo) hI) := by
  refine ⟨fun i j p q hi hj e => ?_, fun k q hk => ?_⟩
  · obtain ⟨li, rfl⟩ := wsA_k hi
    obtain ⟨lj, rfl⟩ := wsA_k hj
    obtain ⟨qi, a1, a2, _⟩ := wk_all Γ a u mm v oo i li
    obtain ⟨qj, b1, b2, _⟩ := wk_all Γ a u mm v oo j lj
    exact pi_inj i li j lj (hD.1 _ _ qi qj a1 b1 (a2.trans (e.trans b2.symm)))
  · obtain ⟨lk, rfl⟩ := wsA_k hk
    obtain ⟨q0, a1, a2, _⟩ := wk_all Γ a u mm v oo k lk
    exact a2 ▸ hD.2 _ q0 a1
theorem fk_len (ci : Nat) : (am_fk.getD ci []).length ≤ 56 := by
  by_cases h : ci < 13
  · exact (show ∀ c : Nat, c < 13 → (am_fk.getD c []).length ≤ 56 by decide +kernel) ci h
  · rw [List.getD_eq_getElem?_getD, List.getElem?_eq_none (show am_fk.length ≤ ci by have : am_fk.length = 13 := rfl; omega)]
    exact Nat.zero_le _
theorem fk_hi {ci j : Nat} (h : 56 ≤ j) : fkA ci j = (9, 0, 0, 0) := by
  unfold fkA
  rw [List.getD_eq_getElem?_getD (l := am_fk.getD ci []), List.getElem?_eq_none (Nat.le_trans (fk_len ci) h)]
  rfl
theorem sh_of {q a b : Nat} (h : q < 106 ∧ (shA q).1 = a ∧ (shA q).2 = b) : am_sh[q]? = some (a, b) := by
  obtain ⟨h0, h1, h2⟩ := h
  have hl : q < am_sh.length := h0
  have e : shA q = am_sh[q] := by
    unfold shA
    rw [List.getD_eq_getElem?_getD, List.getElem?_eq_getElem hl]
    rfl
  rw [List.getElem?_eq_getElem hl, ← e, ← h1, ← h2]
theorem okI1 : ∀ o : Nat, o < 106 → ∀ j : Nat, j < 56 → (shA o).2 = 0 → (fkA (shA o).1 j).1 = 3 → (hI.2.2 o j < 106 ∧ (shA (hI.2.2 o j)).1 = (fkA (shA o).1 j).2.1 ∧ (shA (hI.2.2 o j)).2 = 0) := by decide +kernel
theorem okI2 : ∀ o : Nat, o < 106 → ∀ j : Nat, j < 56 → (shA o).2 = 0 → (fkA (shA o).1 j).1 = 5 → (hI.2.2 o j < 106 ∧ (shA (hI.2.2 o j)).1 = 21 ∧ (shA (hI.2.2 o j)).2 = 240) := by decide +kernel
theorem okI3 : ∀ o : Nat, o < 106 → (shA o).1 = 24 → (shA o).2 = 4 := by decide +kernel
theorem okI4 : ∀ o : Nat, o < 106 → (shA o).1 = 25 → (shA o).2 = 4 := by decide +kernel
theorem okI5 : ∀ o : Nat, o < 106 → ∀ j : Nat, j < 4 → (shA o).1 = 24 → (hI.2.2 o j < 106 ∧ (shA (hI.2.2 o j)).1 = 5 ∧ (shA (hI.2.2 o j)).2 = 0) := by decide +kernel
theorem okI6 : ∀ o : Nat, o < 106 → ∀ j : Nat, j < 4 → (shA o).1 = 25 → (hI.2.2 o j < 106 ∧ (shA (hI.2.2 o j)).1 = 7 ∧ (shA (hI.2.2 o j)).2 = 0) := by decide +kernel
theorem okH_I : okH hI := by
  refine ⟨fun o ci j hs hk => ?_, fun o ci j hs hk => ?_, fun o n j hs hj => ?_, fun o n j hs hj => ?_⟩
  · have ho := sh_lt hs
    have he := sh_eq hs
    by_cases hj : j < 56
    · have := okI1 o ho j hj (by rw [he]) (by rw [he]; exact hk)
      rw [he] at this
      exact sh_of this
    · rw [fk_hi (by omega)] at hk
      exact absurd hk (by decide)
  · have ho := sh_lt hs
    have he := sh_eq hs
    by_cases hj : j < 56
    · exact ⟨240, sh_of (okI2 o ho j hj (by rw [he]) (by rw [he]; exact hk))⟩
    · rw [fk_hi (by omega)] at hk
      exact absurd hk (by decide)
  · have ho := sh_lt hs
    have he := sh_eq hs
    have hn : n = 4 := by have := okI3 o ho (by rw [he]); rw [he] at this; exact this
    exact sh_of (okI5 o ho j (by omega) (by rw [he]))
  · have ho := sh_lt hs
    have he := sh_eq hs
    have hn : n = 4 := by have := okI4 o ho (by rw [he]); rw [he] at this; exact this
    exact sh_of (okI6 o ho j (by omega) (by rw [he]))
end WG
