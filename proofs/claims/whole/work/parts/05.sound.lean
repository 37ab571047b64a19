/-! soundness of the abstract steps -/
theorem inb_in {i : Int32} {n : Nat} (h : inb i n = true) : vp_in i n := by
  simp only [inb, Bool.and_eq_true, decide_eq_true_eq] at h
  rintro (q | q)
  · exact absurd h.1 (Int32.not_le.mpr q)
  · omega
def asc (Γ : AG) (lv : LV) : List (Nat × Value) := (List.range lv.length).filterMap fun i => match lv[i]? with
  | some (some v) => some (i, cv Γ v)
  | _ => none
theorem asc_mem {Γ : AG} {lv : LV} {i : Nat} {v : AV} (h : lv[i]? = some (some v)) : (i, cv Γ v) ∈ asc Γ lv := by
  refine List.mem_filterMap.mpr ⟨i, List.mem_range.mpr (List.getElem?_eq_some_iff.mp h).1, ?_⟩
  simp [h]
theorem asc_of {Γ : AG} {lv : LV} {q : Nat × Value} (h : q ∈ asc Γ lv) : ∃ v, lv[q.1]? = some (some v) ∧ q.2 = cv Γ v := by
  obtain ⟨i, -, hi⟩ := List.mem_filterMap.mp h
  cases hl : lv[i]? with
  | none => simp [hl] at hi
  | some o => cases o with
    | none => simp [hl] at hi
    | some v => simp [hl] at hi; subst hi; exact ⟨v, hl, rfl⟩
theorem hasL_asc {Γ : AG} {ls : Array Slot} {nL : Nat} {lv : LV} (h : hasL Γ ls nL lv) : lv_has ls nL (asc Γ lv) := by
  refine ⟨h.1, h.2.1, fun q hq => ?_⟩
  obtain ⟨v, h1, h2⟩ := asc_of hq
  rw [h2]
  exact h.2.2.2 _ _ h1
theorem kl_len (lv : LV) (i : Nat) : (kl lv i).length = lv.length := by
  unfold kl
  split
  · rfl
  · split <;> simp
theorem kl_get {lv : LV} {i j : Nat} {v : AV} (h : (kl lv i)[j]? = some (some v)) : lv[j]? = some (some v) ∧ ¬ (j + 1 = i ∧ catA v = 2) := by
  unfold kl at h
  split at h
  · exact ⟨h, fun q => by omega⟩
  · rename_i k
    split at h
    · rename_i z hz
      by_cases hj : j = k
      · subst hj
        rw [List.getElem?_set_self (List.getElem?_eq_some_iff.mp hz).1] at h
        cases h
      · rw [List.getElem?_set_ne (Ne.symm hj)] at h
        exact ⟨h, fun q => by omega⟩
    · rename_i hz
      refine ⟨h, fun q => ?_⟩
      obtain ⟨q1, q2⟩ := q
      have : j = k := by omega
      subst this
      rcases v with a | a | a
      · simp [catA] at q2
      · exact hz a h
      · simp [catA] at q2
theorem hasL_s1 {Γ : AG} {ls' : Array Slot} {nL i : Nat} {lv : LV} {v : AV} (hn : lv.length = nL) (hi : i < nL) (h : lv_has ls' nL ((i, cv Γ v) :: (asc Γ lv).filter (fun q => !(q.1 == i) && !(q.1 + 1 == i && q.2.category == 2)))) : hasL Γ ls' nL (s1 lv i v) := by
  refine ⟨h.1, h.2.1, by simp [s1, kl_len, hn], fun j w hj => ?_⟩
  by_cases hij : j = i
  · subst hij
    rw [s1, List.getElem?_set_self (by rw [kl_len]; omega)] at hj
    cases hj
    exact h.2.2 (j, cv Γ v) List.mem_cons_self
  · rw [s1, List.getElem?_set_ne (Ne.symm hij)] at hj
    obtain ⟨h1, h2⟩ := kl_get hj
    refine h.2.2 (j, cv Γ w) (List.mem_cons_of_mem _ (List.mem_filter.mpr ⟨asc_mem h1, ?_⟩))
    simp only [cv_cat, Bool.and_eq_true, Bool.not_eq_true', beq_eq_false_iff_ne, Bool.and_eq_false_iff]
    refine ⟨hij, ?_⟩
    by_cases q : j + 1 = i
    · exact Or.inr (fun z => h2 ⟨q, z⟩)
    · exact Or.inl q
theorem hasL_s2 {Γ : AG} {ls' : Array Slot} {nL i : Nat} {lv : LV} {v : AV} (hn : lv.length = nL) (hi : i + 1 < nL) (h : lv_has ls' nL ((i, cv Γ v) :: (asc Γ lv).filter (fun q => !(q.1 == i) && (!(q.1 == i + 1) && !(q.1 + 1 == i && q.2.category == 2))))) : hasL Γ ls' nL (s2 lv i v) := by
  refine ⟨h.1, h.2.1, by simp [s2, kl_len, hn], fun j w hj => ?_⟩
  by_cases hi1 : j = i + 1
  · subst hi1
    rw [s2, List.getElem?_set_self (by simp [kl_len]; omega)] at hj
    cases hj
  rw [s2, List.getElem?_set_ne (Ne.symm hi1)] at hj
  by_cases hij : j = i
  · subst hij
    rw [List.getElem?_set_self (by rw [kl_len]; omega)] at hj
    cases hj
    exact h.2.2 (j, cv Γ v) List.mem_cons_self
  · rw [List.getElem?_set_ne (Ne.symm hij)] at hj
    obtain ⟨h1, h2⟩ := kl_get hj
    refine h.2.2 (j, cv Γ w) (List.mem_cons_of_mem _ (List.mem_filter.mpr ⟨asc_mem h1, ?_⟩))
    simp only [cv_cat, Bool.and_eq_true, Bool.not_eq_true', beq_eq_false_iff_ne, Bool.and_eq_false_iff]
    refine ⟨hij, hi1, ?_⟩
    by_cases q : j + 1 = i
    · exact Or.inr (fun z => h2 ⟨q, z⟩)
    · exact Or.inl q
theorem okL_s1 {lv : LV} {i : Nat} {v : AV} (h : okL lv) (hv : okV v) : okL (s1 lv i v) := by
  intro j w hj
  by_cases hij : j = i
  · subst hij
    by_cases hl : j < (kl lv j).length
    · rw [s1, List.getElem?_set_self hl] at hj
      cases hj
      exact hv
    · rw [s1, List.getElem?_eq_none (by simp; omega)] at hj
      cases hj
  · rw [s1, List.getElem?_set_ne (Ne.symm hij)] at hj
    exact h j w (kl_get hj).1
theorem okL_s2 {lv : LV} {i : Nat} {v : AV} (h : okL lv) (hv : okV v) : okL (s2 lv i v) := by
  intro j w hj
  by_cases hi1 : j = i + 1
  · subst hi1
    by_cases hl : i + 1 < ((kl lv i).set i (some v)).length
    · rw [s2, List.getElem?_set_self hl] at hj
      cases hj
    · rw [s2, List.getElem?_eq_none (by rw [List.length_set]; omega)] at hj
      cases hj
  · rw [s2, List.getElem?_set_ne (Ne.symm hi1)] at hj
    exact okL_s1 (i := i) h hv j w hj
theorem okS_cons {v : AV} {st : List AV} : okS (v :: st) ↔ okV v ∧ okS st := by
  simp [okS]
theorem fnd_mem {β : Type} {i : Nat} {l : List (Nat × β)} {b : β} (h : fnd i l = some b) : (i, b) ∈ l := by
  induction l with
  | nil => cases h
  | cons q l ih =>
    unfold fnd at h
    split at h
    · rename_i hq
      cases h
      subst hq
      exact List.mem_cons_self
    · exact List.mem_cons_of_mem _ (ih h)
/-! the tables' words -/
def chF (own : Nat) (r : Nat × Nat × Nat × Nat × Nat) : Bool :=
  match am_cl[r.2.1]? with
  | some q => decide (r.2.2.1 < q.2.2) && (if r.2.2.2.1 = 0 then decide (tables_1[r.2.2.2.2]? = some (.fieldLink (am_own.getD own "") r.1 (q.2.1 r.2.2.1).1 (q.2.1 r.2.2.1).2.1 (q.2.1 r.2.2.1).2.2.1)) else decide (r.2.2.2.1 = 1) && decide (tables_1[r.2.2.2.2]? = some (.fieldLinkNest (am_own.getD own "") r.1 (q.2.1 r.2.2.1).1 (q.2.1 r.2.2.1).2.1 (q.2.1 r.2.2.1).2.2.1 "HeathForks")))
  | none => decide (r.2.1 = 31) && decide (r.2.2.2.1 = 0) && (if r.2.2.1 = 0 then decide (tables_1[r.2.2.2.2]? = some (.fieldLink (am_own.getD own "") r.1 "java/lang/String" "value" "[B")) else decide (r.2.2.1 = 1) && decide (tables_1[r.2.2.2.2]? = some (.fieldLink (am_own.getD own "") r.1 "java/lang/String" "coder" "B")))
def chS (own : Nat) (r : Nat × Nat × Nat × Nat × Nat) : Bool :=
  if r.2.1 = 0 then decide (r.2.2.1 < 4) && decide (r.2.2.2.1 = 1) && decide (tables_1[r.2.2.2.2]? = some (.fieldLinkNest (am_own.getD own "") r.1 "HeathForks" (am_staN.getD r.2.2.1 "") "[I" "HeathForks"))
  else decide (r.2.1 = 1) && decide (r.2.2.2.1 = 0) && decide (tables_1[r.2.2.2.2]? = some (.fieldLink (am_own.getD own "") r.1 "java/lang/String" "COMPACT_STRINGS" "Z"))
def chC (own : Nat) (r : Nat × Nat × Int × Nat) : Bool :=
  if r.2.1 = 0 then decide (tables_1[r.2.2.2]? = some (.constant (am_own.getD own "") r.1 (ii r.2.2.1))) else decide (r.2.1 = 1) && decide (r.2.2.1.toNat < 10)
def chL (own : Nat) (r : Nat × Int × Nat) : Bool := decide (tables_1[r.2.2]? = some (.constantLong (am_own.getD own "") r.1 (Int64.ofInt r.2.1)))
theorem chF_ok : ∀ own, own < 18 → ∀ r ∈ am_cpf.getD own [], chF own r = true := by decide +kernel
theorem chS_ok : ∀ own, own < 18 → ∀ r ∈ am_cps.getD own [], chS own r = true := by decide +kernel
theorem chC_ok : ∀ own, own < 18 → ∀ r ∈ am_cpc.getD own [], chC own r = true := by decide +kernel
theorem chL_ok : ∀ own, own < 18 → ∀ r ∈ am_cpl.getD own [], chL own r = true := by decide +kernel
def chU (q : vw_C) : Bool := (u_ws q.1 q.2.1 q.2.2).all fun w => decide (w ∈ lw_tbl) && goodWord w
theorem chU_ok : ∀ q ∈ am_cl, chU q = true := by decide +kernel
