/-! the abstract step, row by row -/
/-- what a method's body knows of its own state -/
def Cx (Γ : AG) (p : Program) (s : State) (m : MethodId) (args : Array Value) (c : Code) (cc : ByteArray) (nL own : Nat) : Prop :=
  p.tables.exec = Jvm.exec ∧ c.code = cc ∧ c.maxLocals = nL ∧ s.vm.findClass (am_own.getD own "") = some m.cls ∧ (∀ w ∈ gw, w.before args s = true) ∧ va_K (gD Γ) am_cl (tyA Γ) s ∧ (∀ w ∈ nw, va_Nw w s) ∧ stA Γ s s.heap
def WH (Γ : AG) (p : Program) (e : Env) (R : Room) (s : State) (m : MethodId) (args : Array Value) (below : List Frame) (meth : Method) (c : Code) (nL : Nat) (Q : State → Prop) (pc : Nat) (lv : LV) (st : List AV) (h : AH) : Prop :=
  okH h → okL lv → okS st → ∀ (H : Heap) (locs : List Loc) (ls : Array Slot), va_P (gD Γ) am_cl (wsA Γ h) H → va_D (gA Γ) (wsA Γ h) → va_S (gA Γ) s.heap H locs → hasL Γ ls nL lv → W p (gl Γ) e R s m args below meth c H locs 0 0 Q (F0 m pc ls (st.map (cv Γ)))
section ROWS
variable {Γ : AG} {p : Program} {e : Env} {R : Room} {s : State} {m : MethodId} {args : Array Value} {below : List Frame} {meth : Method} {c : Code} {cc : ByteArray} {nL own : Nat} {Q : State → Prop} {x : Nat × Instr × Nat} {lv : LV} {st : List AV} {h : AH} {pc : Nat}
/-- a step that leaves the heap -/
theorem WH.keep (C : Cx Γ p s m args c cc nL own) {pc' : Nat} {st' : List AV} (ok : okL lv → okS st → okH h → okS st')
    (k : ∀ (H : Heap) (locs : List Loc) (ls : Array Slot), va_P (gD Γ) am_cl (wsA Γ h) H → va_S (gA Γ) s.heap H locs → hasL Γ ls nL lv → okL lv → okS st → okH h → W p (gl Γ) e R s m args below meth c H locs 0 0 Q (F0 m pc' ls (st'.map (cv Γ))) → W p (gl Γ) e R s m args below meth c H locs 0 0 Q (F0 m pc ls (st.map (cv Γ))))
    (w : WH Γ p e R s m args below meth c nL Q pc' lv st' h) : WH Γ p e R s m args below meth c nL Q pc lv st h :=
  fun oh ol os H locs ls hP hD hS hl => k H locs ls hP hS hl ol os oh (w oh ol (ok ol os oh) H locs ls hP hD hS hl)
theorem r_load {i : Nat} {v : AV} (hl : lv[i]? = some (some v)) (ol : okL lv) : okV v := ol i v hl
theorem r_fld {ci j : Nat} {q : vw_C} (hq : am_cl[ci]? = some q) : ∀ w ∈ u_ws q.1 q.2.1 q.2.2, w ∈ gw := by
  intro w hw
  have h1 := chU_ok q (List.mem_of_getElem? hq)
  simp only [chU, List.all_eq_true, Bool.and_eq_true, decide_eq_true_eq] at h1
  exact List.mem_filter.mpr (h1 w hw)
theorem cl_fk : ∀ ci, ci < 13 → ((am_cl[ci]?).map fun q => q.2.2) = some (nfA ci) := by decide +kernel
theorem cl_no : ∀ ci, 13 ≤ ci → am_cl[ci]? = none := fun ci h => List.getElem?_eq_none (by simpa [am_cl] using h)
theorem sh_kind : ∀ o, o < 106 → (shA o).1 < 13 ∨ (20 ≤ (shA o).1 ∧ (shA o).1 ≤ 25) := by decide +kernel
theorem ceA_obj {o ci n : Nat} (hs : am_sh[o]? = some (ci, n)) (hc : ci < 13) : ceA Γ h o = .inr (ci, (List.range (nfA ci)).map (fvA Γ ci o h)) := by
  unfold ceA
  rw [sh_eq hs]
  simp [hc]
theorem ceA_int {o k n : Nat} (hs : am_sh[o]? = some (k, n)) (hk : k = 20 ∨ k = 21 ∨ k = 22) : ceA Γ h o = .inl (gc Γ k, n, .inl (h.1 o)) := by
  unfold ceA
  rw [sh_eq hs]
  rcases hk with rfl | rfl | rfl <;> simp
theorem ceA_long {o n : Nat} (hs : am_sh[o]? = some (23, n)) : ceA Γ h o = .inl (gc Γ 23, n, .inr (.inl (h.2.1 o))) := by
  unfold ceA
  rw [sh_eq hs]
  simp
theorem ceA_ref {o k n : Nat} (hs : am_sh[o]? = some (k, n)) (hk : k = 24 ∨ k = 25) : ceA Γ h o = .inl (gc Γ k, n, .inr (.inr (.inr (.inr (fun j => some (gs Γ (h.2.2 o j))))))) := by
  unfold ceA
  rw [sh_eq hs]
  rcases hk with rfl | rfl <;> simp
theorem okV_ref {k n o : Nat} (hk : k < 30) (h : okV (vr k n o)) : am_sh[o]? = some (k, n) := by
  rcases h with ⟨a, -⟩ | ⟨a, -⟩ | ⟨a, -⟩ | ⟨-, a⟩
  · omega
  · omega
  · omega
  · exact a
theorem cv_ref {k n o : Nat} (hk : k < 30) : cv Γ (vr k n o) = .ref (gs Γ o) := by
  simp only [vr, cv]
  rw [if_neg (by omega), if_neg (by omega), if_neg (by omega)]
theorem cv_str {n o : Nat} : cv Γ (vr 31 n o) = .ref (gK Γ o) := by simp [vr, cv]
theorem cv_val {n o : Nat} : cv Γ (vr 32 n o) = .ref (gV Γ o) := by simp [vr, cv]
theorem cv_sta {n o : Nat} : cv Γ (vr 30 n o) = .ref (gT Γ o) := by simp [vr, cv]
theorem fk_static {o j : Nat} (ho : o < 106) (hj : j < 60) (h1 : (shA o).1 < 13) (h2 : (fkA (shA o).1 j).1 = 2) : (fkA (shA o).1 j).2.1 < 30 ∧ am_sh[o + (fkA (shA o).1 j).2.2.2]? = some ((fkA (shA o).1 j).2.1, (fkA (shA o).1 j).2.2.1) := by
  have h : (List.range 106).all (fun o => (List.range 60).all fun j => !(decide ((shA o).1 < 13)) || !(decide ((fkA (shA o).1 j).1 = 2)) || (decide ((fkA (shA o).1 j).2.1 < 30) && decide (am_sh[o + (fkA (shA o).1 j).2.2.2]? = some ((fkA (shA o).1 j).2.1, (fkA (shA o).1 j).2.2.1)))) = true := by decide +kernel
  have h3 := List.all_eq_true.mp (List.all_eq_true.mp h o (List.mem_range.mpr ho)) j (List.mem_range.mpr hj)
  simpa [h1, h2] using h3
theorem fk_big : ∀ ci j, 60 ≤ j → fkA ci j = (9, 0, 0, 0) := by
  intro ci j hj
  by_cases hc : ci < 13
  · have h1 : ∀ ci, ci < 13 → (am_fk.getD ci []).length < 60 := by decide +kernel
    unfold fkA
    rw [List.getD_eq_getElem?_getD, List.getElem?_eq_none (by have := h1 ci hc; omega)]
    rfl
  · have : am_fk.length = 13 := by decide
    unfold fkA
    rw [List.getD_eq_getElem?_getD (l := am_fk), List.getElem?_eq_none (by omega)]
    rfl
theorem fk_str : ∀ ci, ci < 13 → ∀ j, j < 60 → (fkA ci j).1 = 4 → (fkA ci j).2.2.2 < 10 := by decide +kernel
theorem sh_obj0 : ∀ o, o < 106 → (shA o).1 < 13 → (shA o).2 = 0 := by decide +kernel
theorem obj_len {o ci n : Nat} (hs : am_sh[o]? = some (ci, n)) (hc : ci < 13) : n = 0 := by
  have := sh_obj0 o (sh_lt hs)
  rw [sh_eq hs] at this
  exact this hc
/-- a field read -/
theorem rdF_ok {ci j o n : Nat} {v : AV} (hs : am_sh[o]? = some (ci, n)) (hc : ci < 13) (oh : okH h) (hv : rdF ci j o h = some v) : okV v ∧ cv Γ v = fvA Γ ci o h j := by
  have hn := obj_len hs hc
  subst hn
  rcases Nat.lt_or_ge j 60 with hj | hj
  case inr =>
    rw [rdF, if_neg (by omega), fk_big ci j (by omega)] at hv
    cases hv
  have hst := fk_static (sh_lt hs) hj
  rw [sh_eq hs] at hst
  have hst := hst hc
  rw [rdF, if_neg (by omega)] at hv
  unfold fvA
  split at hv <;> rename_i hk
  · cases hv; exact ⟨trivial, by simp [hk, cv]⟩
  · cases hv; exact ⟨trivial, by simp [hk, cv]⟩
  · cases hv; exact ⟨trivial, by simp [hk, cv]⟩
  · cases hv
    obtain ⟨a, b⟩ := hst hk
    exact ⟨Or.inr (Or.inr (Or.inr ⟨a, b⟩)), by rw [cv_ref a, if_pos hk]⟩
  · cases hv
    have h1 := oh.1 o ci j hs hk
    have h2 : (fkA ci j).2.1 < 30 := by
      have h3 : ∀ ci, ci < 13 → ∀ j, j < 60 → (fkA ci j).1 = 3 → (fkA ci j).2.1 < 13 := by decide +kernel
      have := h3 ci hc j hj hk
      omega
    exact ⟨Or.inr (Or.inr (Or.inr ⟨h2, h1⟩)), by rw [cv_ref h2]; simp [hk]⟩
  · cases hv
    exact ⟨Or.inl ⟨rfl, rfl, fk_str ci hc j hj hk⟩, by rw [cv_str]; simp [hk]⟩
  · cases hv
    obtain ⟨n, h1⟩ := oh.2.1 o ci j hs hk
    refine ⟨Or.inr (Or.inr (Or.inr ⟨by omega, ?_⟩)), by rw [cv_ref (by omega)]; simp [hk]⟩
    rw [sh_eq h1]
    exact h1
  · cases hv
end ROWS
