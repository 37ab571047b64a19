/-! the abstract machine: worlds, steps -/
abbrev AG : Type := Launch × (Nat → Nat) × va_G × (Nat → ClassId) × (Nat → Prop) × (Nat → Nat) × (Nat → Nat) × (Nat → Nat)
abbrev gl (Γ : AG) : Launch := Γ.1
abbrev gs (Γ : AG) : Nat → Nat := Γ.2.1
abbrev gD (Γ : AG) : va_G := Γ.2.2.1
abbrev gc (Γ : AG) : Nat → ClassId := Γ.2.2.2.1
abbrev gA (Γ : AG) : Nat → Prop := Γ.2.2.2.2.1
abbrev gK (Γ : AG) : Nat → Nat := Γ.2.2.2.2.2.1
abbrev gV (Γ : AG) : Nat → Nat := Γ.2.2.2.2.2.2.1
abbrev gT (Γ : AG) : Nat → Nat := Γ.2.2.2.2.2.2.2
def cv (Γ : AG) : AV → Value
  | .inl x => .int x
  | .inr (.inl x) => .long x
  | .inr (.inr (k, _, o)) => .ref (if k = 31 then gK Γ o else if k = 32 then gV Γ o else if k = 30 then gT Γ o else gs Γ o)
def catA : AV → Nat
  | .inl _ => 1
  | .inr (.inl _) => 2
  | .inr (.inr _) => 1
theorem cv_cat (Γ : AG) (v : AV) : (cv Γ v).category = catA v := by
  rcases v with x | x | ⟨k, n, o⟩ <;> rfl
def fkA (ci j : Nat) : Nat × Nat × Nat × Nat := (am_fk.getD ci []).getD j (9, 0, 0, 0)
def shA (o : Nat) : Nat × Nat := am_sh.getD o (99, 0)
def stL (o : Nat) : Nat := (am_str.getD o []).length
def taL (o : Nat) : Nat := (am_sta.getD o []).length
def fvA (Γ : AG) (ci o : Nat) (h : AH) (j : Nat) : Value :=
  if (fkA ci j).1 = 2 then .ref (gs Γ (o + (fkA ci j).2.2.2)) else if (fkA ci j).1 = 3 ∨ (fkA ci j).1 = 5 then .ref (gs Γ (h.2.2 o j)) else if (fkA ci j).1 = 4 then .ref (gK Γ (fkA ci j).2.2.2) else if (fkA ci j).1 = 1 then .long (h.2.1 o j) else .int (h.1 o j)
def nfA (ci : Nat) : Nat := (am_fk.getD ci []).length
def ceA (Γ : AG) (h : AH) (o : Nat) : va_E :=
  if (shA o).1 < 13 then .inr ((shA o).1, (List.range (nfA (shA o).1)).map (fvA Γ (shA o).1 o h))
  else if (shA o).1 = 23 then .inl (gc Γ (shA o).1, (shA o).2, .inr (.inl (h.2.1 o)))
  else if (shA o).1 = 24 ∨ (shA o).1 = 25 then .inl (gc Γ (shA o).1, (shA o).2, .inr (.inr (.inr (.inr (fun j => some (gs Γ (h.2.2 o j)))))))
  else .inl (gc Γ (shA o).1, (shA o).2, .inl (h.1 o))
def wsA (Γ : AG) (h : AH) : va_W := (List.range 106).map fun o => (gs Γ o, ceA Γ h o)
theorem wsA_at (Γ : AG) (h : AH) {o : Nat} (ho : o < 106) : (wsA Γ h)[o]? = some (gs Γ o, ceA Γ h o) := by
  simp [wsA, ho]
theorem wsA_set (Γ : AG) (h h' : AH) {o : Nat} (e : ∀ o', o' ≠ o → ceA Γ h' o' = ceA Γ h o') : (wsA Γ h).set o (gs Γ o, ceA Γ h' o) = wsA Γ h' := by
  apply List.ext_getElem?
  intro i
  by_cases hi : i < 106
  · by_cases hio : i = o
    · subst hio
      rw [wsA_at Γ h' hi, List.getElem?_set_self (by simp [wsA, hi])]
    · rw [List.getElem?_set_ne (Ne.symm hio), wsA_at Γ h hi, wsA_at Γ h' hi, e i hio]
  · rw [List.getElem?_eq_none (by simp [wsA]; omega), List.getElem?_eq_none (by simp [wsA]; omega)]
theorem sh_lt {o k n : Nat} (h : am_sh[o]? = some (k, n)) : o < 106 := by
  have h1 := (List.getElem?_eq_some_iff.mp h).1
  have h2 : am_sh.length = 106 := by decide
  omega
theorem sh_eq {o k n : Nat} (h : am_sh[o]? = some (k, n)) : shA o = (k, n) := by
  unfold shA
  rw [List.getD_eq_getElem?_getD, h]
  rfl
def okV : AV → Prop
  | .inl _ => True
  | .inr (.inl _) => True
  | .inr (.inr (k, n, o)) => (k = 31 ∧ n = 0 ∧ o < 10) ∨ (k = 32 ∧ o < 10 ∧ n = stL o) ∨ (k = 30 ∧ o < 4 ∧ n = taL o) ∨ (k < 30 ∧ am_sh[o]? = some (k, n))
def okH (h : AH) : Prop :=
  (∀ o ci j, am_sh[o]? = some (ci, 0) → (fkA ci j).1 = 3 → am_sh[h.2.2 o j]? = some ((fkA ci j).2.1, 0)) ∧
  (∀ o ci j, am_sh[o]? = some (ci, 0) → (fkA ci j).1 = 5 → ∃ n, am_sh[h.2.2 o j]? = some (21, n)) ∧
  (∀ o n j, am_sh[o]? = some (24, n) → j < n → am_sh[h.2.2 o j]? = some (5, 0)) ∧
  (∀ o n j, am_sh[o]? = some (25, n) → j < n → am_sh[h.2.2 o j]? = some (7, 0))
abbrev LV : Type := List (Option AV)
def okL (lv : LV) : Prop := ∀ (i : Nat) (v : AV), lv[i]? = some (some v) → okV v
def okS (st : List AV) : Prop := ∀ v ∈ st, okV v
def hasL (Γ : AG) (ls : Array Slot) (nL : Nat) (lv : LV) : Prop := ls.size = nL ∧ lv_wf ls ∧ lv.length = nL ∧ ∀ (i : Nat) (v : AV), lv[i]? = some (some v) → ls[i]? = some (.val (cv Γ v))
def tyA (Γ : AG) : List (ClassId × FieldType) := [(gc Γ 20, .int), (gc Γ 21, .byte), (gc Γ 22, .boolean), (gc Γ 23, .long), (gc Γ 24, .object "HeathForks$Law"), (gc Γ 25, .object "HeathForks$Walks")]
def strOk (Γ : AG) (U : State) : Prop := ∀ (own : Nat) (r : Nat × Nat × Int × Nat), r ∈ am_cpc.getD own [] → r.2.1 = 1 → vk_R (am_own.getD own "") r.1 (am_strT.getD r.2.2.1.toNat "") (gK Γ r.2.2.1.toNat) U
def stA (Γ : AG) (U : State) (H : Heap) : Prop :=
  vk_S 10 (am_str.map List.length) am_str (gK Γ) (gV Γ) (gA Γ) U H ∧ strOk Γ U ∧
  (∀ t, t < 4 → va_Z "HeathForks" (am_staN.getD t "") "[I" (.ref (gT Γ t)) (gA Γ) U H ∧ va_T .int (gT Γ t) (taL t) (fun j => .int (ii ((am_sta.getD t []).getD j 0))) (gA Γ) U H) ∧
  va_Z "java/lang/String" "COMPACT_STRINGS" "Z" (.int 1) (gA Γ) U H ∧ va_Zq "jdk/internal/util/Preconditions" "SIOOBE_FORMATTER" "Ljava/util/function/BiFunction;" (gA Γ) U H
def Wd (Γ : AG) (h : AH) (U : State) : Prop := va_P (gD Γ) am_cl (wsA Γ h) U.heap ∧ va_D (gA Γ) (wsA Γ h) ∧ va_K (gD Γ) am_cl (tyA Γ) U ∧ (∀ w ∈ nw, va_Nw w U) ∧ stA Γ U U.heap ∧ okH h
/-! ### the steps -/
def kl (lv : LV) (i : Nat) : LV := match i with
  | 0 => lv
  | k + 1 => match lv[k]? with
    | some (some (.inr (.inl _))) => lv.set k none
    | _ => lv
def s1 (lv : LV) (i : Nat) (v : AV) : LV := (kl lv i).set i (some v)
def s2 (lv : LV) (i : Nat) (v : AV) : LV := ((kl lv i).set i (some v)).set (i + 1) none
def fnd {β : Type} (i : Nat) : List (Nat × β) → Option β
  | [] => none
  | q :: l => if q.1 = i then some q.2 else fnd i l
/-- what a field holds -/
def rdF (ci j o : Nat) (h : AH) : Option AV :=
  if ci = 31 then (if j = 0 then some (vr 32 (stL o) o) else some (vi 0)) else
  match (fkA ci j).1 with
  | 0 => some (vi (h.1 o j))
  | 6 => some (vi (h.1 o j))
  | 1 => some (vl (h.2.1 o j))
  | 2 => some (vr (fkA ci j).2.1 (fkA ci j).2.2.1 (o + (fkA ci j).2.2.2))
  | 3 => some (vr (fkA ci j).2.1 0 (h.2.2 o j))
  | 4 => some (vr 31 0 (fkA ci j).2.2.2)
  | 5 => some (vr 21 (shA (h.2.2 o j)).2 (h.2.2 o j))
  | _ => none
def wrF (ci j o : Nat) (v : AV) (h : AH) : Option (AH × Prop) :=
  match (fkA ci j).1, v with
  | 0, .inl x => some (wI h o j x, True)
  | 6, .inl x => some (wI h o j x, (x = 0 ∨ x = 1))
  | 1, .inr (.inl x) => some (wL h o j x, True)
  | 3, .inr (.inr (k, _, q)) => if k = (fkA ci j).2.1 then some (wR h o j q, True) else none
  | 5, .inr (.inr (k, _, q)) => if k = 21 then some (wR h o j q, True) else none
  | _, _ => none
