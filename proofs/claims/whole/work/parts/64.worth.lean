/-! a law's code, run -/
def okVc (C : List Int) : Prop := ∀ x ∈ C, -18 ≤ x ∧ x ≤ 9999
def okR (r : PR) : Prop := match r with
  | .inl _ => True
  | .inr (_, C) => okVc C
theorem okVc_app {C D : List Int} (h1 : okVc C) (h2 : okVc D) : okVc (C ++ D) := fun x hx => by
  rcases List.mem_append.mp hx with h | h
  · exact h1 x h
  · exact h2 x h
theorem okVc_1 {x : Int} (h1 : -18 ≤ x) (h2 : x ≤ 9999) : okVc [x] := fun y hy => by
  rw [List.mem_singleton.mp hy]; exact ⟨h1, h2⟩
theorem okVc_0 : okVc [] := fun x hx => by cases hx
theorem okR_and {r : PR} {f : Nat → List Int → PR} (h : okR r) (hf : ∀ q C, okVc C → okR (f q C)) : okR (andP r f) := by
  cases r with
  | inl e => trivial
  | inr v => exact hf v.1 v.2 h
theorem okR_tk {bs : List Int} {c : Int} {q : Nat} {C : List Int} (h : okVc C) : okR (tkP bs c q C) := by
  unfold tkP
  split
  · exact h
  · trivial
theorem okR_ml {bs : List Int} {mc : Int → Int} (hm : ∀ c, -18 ≤ mc c ∧ mc c ≤ 9999) {a : Nat → PR} (ha : ∀ p, okR (a p)) : ∀ (k q : Nat) (C : List Int), okVc C → okR (mlG bs mc a k q C)
  | 0, q, C, h => h
  | k + 1, q, C, h => by
    unfold mlG
    split
    · exact h
    · exact okR_and (ha _) (fun r D hD => okR_ml hm ha k r _ (okVc_app (okVc_app h hD) (okVc_1 (hm _).1 (hm _).2)))
theorem okR_ad {bs : List Int} {mc ac : Int → Int} (hm : ∀ c, -18 ≤ mc c ∧ mc c ≤ 9999) (hc : ∀ c, -18 ≤ ac c ∧ ac c ≤ 9999) {a : Nat → PR} (ha : ∀ p, okR (a p)) : ∀ (k q : Nat) (C : List Int), okVc C → okR (adG bs mc ac a k q C)
  | 0, q, C, h => h
  | k + 1, q, C, h => by
    unfold adG
    split
    · exact h
    · exact okR_and (okR_and (ha _) (fun r D hD => okR_ml hm ha 250 r D hD)) (fun r D hD => okR_ad hm hc ha k r _ (okVc_app (okVc_app h hD) (okVc_1 (hc _).1 (hc _).2)))
theorem okR_sm {bs : List Int} {mc ac : Int → Int} (hm : ∀ c, -18 ≤ mc c ∧ mc c ≤ 9999) (hc : ∀ c, -18 ≤ ac c ∧ ac c ≤ 9999) {a : Nat → PR} (ha : ∀ p, okR (a p)) {r : PR} (hr : okR r) : okR (smG bs mc ac a r) := okR_and (okR_and hr (fun r D hD => okR_ml hm ha 250 r D hD)) (fun r D hD => okR_ad hm hc ha 250 r D hD)
theorem mcS_lo : ∀ c, -18 ≤ mcS c ∧ mcS c ≤ 9999 := by intro c; unfold mcS; repeat' split <;> try omega
theorem acS_lo : ∀ c, -18 ≤ acS c ∧ acS c ≤ 9999 := by intro c; unfold acS; repeat' split <;> try omega
theorem mcC_lo : ∀ c, -18 ≤ mcC c ∧ mcC c ≤ 9999 := by intro c; unfold mcC; repeat' split <;> try omega
theorem acC_lo : ∀ c, -18 ≤ acC c ∧ acC c ≤ 9999 := by intro c; unfold acC; repeat' split <;> try omega
theorem okR_at {bs : List Int} {sub : Option (Nat → PR)} (hs : ∀ f, sub = some f → ∀ p, okR (f p)) (p : Nat) : okR (atB bs sub p) := by
  unfold atB
  split
  · cases sub with
    | none => trivial
    | some f => exact okR_and (hs f rfl _) (fun q C h => okR_tk h)
  · split
    · have hv := nu_val (bs := bs) (most := 4) (by omega) 6 0 0 (sk bs p) (by omega) (by omega) (by decide)
      revert hv
      cases nuF bs 4 6 0 0 (sk bs p) with
      | inl e => intro _; trivial
      | inr v =>
        intro hv
        obtain ⟨x, x1, x2, x3⟩ := hv v.1 v.2 rfl
        have x4 : x < 10000 := by simpa using x3
        show okVc v.2
        rw [x1]
        exact okVc_1 (by omega) (by omega)
    · have := li_lo (ch bs (sk bs p))
      exact okVc_1 (by omega) (by omega)
theorem okR_pAt {bs : List Int} : ∀ k p, okR (pAt bs k p)
  | 0, p => okR_at (fun f e => by cases e) p
  | k + 1, p => okR_at (fun f e q => by cases e; exact okR_sm mcS_lo acS_lo (okR_pAt k) (okR_pAt k q)) p
theorem okR_pSm {bs : List Int} (k p : Nat) : okR (pSm bs k p) := okR_sm mcS_lo acS_lo (okR_pAt k) (okR_pAt k p)
theorem okR_cm {bs : List Int} {k q : Nat} {C : List Int} (h : okVc C) : okR (cm2 bs k q C) := by
  have := cm_lo (ch bs (sk bs q))
  unfold cm2
  split
  · trivial
  · exact okR_and (okR_pSm k _) (fun r D hD => okVc_app (okVc_app h hD) (okVc_1 (by omega) (by omega)))
theorem okR_un {bs : List Int} {k : Nat} {su : Option ((Nat → PR) × (Nat → PR))} (hs : ∀ f, su = some f → (∀ p, okR (f.1 p)) ∧ ∀ p, okR (f.2 p)) (p : Nat) : okR (unB bs k su p) := by
  unfold unB
  split
  · cases su with
    | none => trivial
    | some f => exact okR_and ((hs f rfl).1 _) (fun q C h => okVc_app h (okVc_1 (by omega) (by omega)))
  · split
    · cases su with
      | none => trivial
      | some f => exact okR_and ((hs f rfl).2 _) (fun q C h => okR_tk h)
    · exact okR_and (okR_pSm k _) (fun q C h => okR_cm h)
theorem okR_pUn {bs : List Int} : ∀ k p, okR (pUn bs k p)
  | 0, p => okR_un (fun f e => by cases e) p
  | k + 1, p => okR_un (fun f e => by cases e; exact ⟨okR_pUn k, fun q => okR_sm mcC_lo acC_lo (okR_pUn k) (okR_pUn k q)⟩) p
theorem okR_pCl {bs : List Int} (p : Nat) : okR (pCl bs p) := by
  unfold pCl
  refine okR_and (okR_tk okVc_0) (fun q _ _ => okR_and (okR_tk okVc_0) (fun r _ _ => ?_))
  split
  · exact okR_and (okR_sm mcC_lo acC_lo (okR_pUn 6) (okR_pUn 6 _)) (fun s C h => okR_and (okR_tk h) (fun t C h => okR_and (okR_pSm 6 t) (fun u D hD => okVc_app (okVc_app h (okVc_1 (by omega) (by omega))) hD)))
  · refine okR_and (okR_pSm 6 _) (fun s C h => ?_)
    split
    · exact h
    · exact okR_and (okR_sm mcC_lo acC_lo (okR_pUn 6) (okR_cm h)) (fun s C h => okR_and (okR_tk h) (fun t C h => okR_and (okR_pSm 6 t) (fun u D hD => okVc_app (okVc_app h (okVc_1 (by omega) (by omega))) hD)))
theorem ok_lw {bs : List Int} : ∀ (k p : Nat) (C D : List Int), okVc C → lwF bs k p C = .inr D → okVc D
  | 0, p, C, D, _, e => by cases e
  | k + 1, p, C, D, h, e => by
    unfold lwF at e
    have hr := okR_pCl (bs := bs) p
    revert e hr
    cases pCl bs p with
    | inl z => intro e; cases e
    | inr v =>
      intro e hr
      have h2 : okVc (C ++ v.2 ++ [-18]) := okVc_app (okVc_app h hr) (okVc_1 (by omega) (by omega))
      simp only at e
      split at e
      · cases e; exact h2
      · split at e
        · exact ok_lw k _ _ D h2 e
        · cases e
theorem ok_law {bs C : List Int} (h : pLaw bs = .inr C) : okVc C := ok_lw 250 0 [] C okVc_0 h
/-! the stack -/
def psh (s : List Int32) (v : Int32) : List Int32 := if s.length < 64 then s ++ [v] else s
def jnI (op : Int) (a b : Int32) : Int32 := if op = -15 then a ||| b else if op = -14 then a &&& b else if op = -13 then (if a ≤ b then ii 0 else ii 1) else if op = -12 then (if b ≤ a then ii 0 else ii 1) else if op = -11 then (if a = b then ii 1 else ii 0) else if op = -10 then (if b = ii 0 then ii 0 else a / b) else if op = -9 then p_HF_within (a.toInt64 * b.toInt64) (ii (-1000000)) (ii 1000000) else if op = -8 then p_HF_within (a.toInt64 - b.toInt64) (ii (-1000000)) (ii 1000000) else if op = -7 then p_HF_within (a.toInt64 + b.toInt64) (ii (-1000000)) (ii 1000000) else ii 0
def tpS (s : List Int32) : Int32 := s.getLastD (ii 0)
def stpM (L : Nat → Int32) (op : Int) (s : List Int32) : List Int32 :=
  if 0 ≤ op then psh s (ii op) else if -7 < op then psh s (L (-1 - op).toNat)
  else if op = -16 then psh s.dropLast (if tpS s = ii 0 then ii 1 else ii 0)
  else psh s.dropLast.dropLast (jnI op (tpS s.dropLast) (tpS s))
/-- what a law's code is worth -/
def wrthF (L : Nat → Int32) : List Int → Bool → List Int32 → Int32
  | [], _, _ => ii 0
  | op :: C, sk, s => if op = -18 then (if sk = true then wrthF L C false s else tpS s) else if op = -17 then wrthF L C (decide (tpS s = ii 0)) s.dropLast else if sk = true then wrthF L C sk s else wrthF L C sk (stpM L op s)
theorem wr_c (L : Nat → Int32) (op : Int) (C : List Int) (sk : Bool) (s : List Int32) : wrthF L (op :: C) sk s = if op = -18 then (if sk = true then wrthF L C false s else tpS s) else if op = -17 then wrthF L C (decide (tpS s = ii 0)) s.dropLast else if sk = true then wrthF L C sk s else wrthF L C sk (stpM L op s) := rfl
section WO
variable {o : Nat} {h : AH}
def SKr (o : Nat) (s : List Int32) (h : AH) : Prop := s.length ≤ 64 ∧ h.1 o 3 = ii s.length ∧ ∀ j, j < s.length → h.1 (o + 2) j = s.getD j (ii 0)
def WF (o : Nat) (h0 h : AH) : Prop := (∀ x, x ≠ o → x ≠ o + 2 → h.1 x = h0.1 x) ∧ (∀ j, j ≠ 3 → h.1 o j = h0.1 o j) ∧ h.2 = h0.2
theorem WF.rf (o : Nat) (h : AH) : WF o h h := ⟨fun _ _ _ => rfl, fun _ _ => rfl, rfl⟩
theorem WF.tr {h0 h1 h2 : AH} (a : WF o h0 h1) (b : WF o h1 h2) : WF o h0 h2 := ⟨fun x z1 z2 => (b.1 x z1 z2).trans (a.1 x z1 z2), fun j z => (b.2.1 j z).trans (a.2.1 j z), b.2.2.trans a.2.2⟩
theorem last_get {s : List Int32} (hs : s ≠ []) : s.getD (s.length - 1) (ii 0) = tpS s := by
  unfold tpS
  rw [List.getLastD_eq_getLast?, List.getLast?_eq_getElem?, List.getD_eq_getElem?_getD]
theorem C_pop {s : List Int32} (S : SKr o s h) : ∃ h', f_Law_pop o h = some (tpS s, h') ∧ SKr o s.dropLast h' ∧ WF o h h' := by
  obtain ⟨s1, s2, s3⟩ := S
  unfold f_Law_pop
  by_cases q : s = []
  · subst q
    simp (disch := omega) only [Option.bind_some, if_true, if_false, not_true_eq_false, not_false_eq_true, z0, ii_add, ii_sub, ii_mul, ifLeT, ifLeF, ifLtT, ifLtF, ifEqT, ifEqF, ifNeT, ifNeF, ifIn, nixZ, ii_i64, o0, o1, isInT, isInF, tn14, tn12, tn2, tn21, tn47, tn48, tn49, tn471, tn472, Int.reduceToNat, Int.toNat_natCast, Int.reduceAdd, Int.reduceSub, Int.reduceMul, Int.reduceNeg, Nat.reduceAdd, Nat.reduceSub, Nat.reduceMul, s2, List.length_nil, Int.natCast_zero]
    exact ⟨_, rfl, ⟨by simp, by simpa using s2, fun j hj => by simp at hj⟩, WF.rf _ _⟩
  · have hp : 1 ≤ s.length := by cases s with
      | nil => exact absurd rfl q
      | cons x s => simp
    have e1 : ((s.length : Int) - 1).toNat = s.length - 1 := by omega
    have ev : ∀ v, (wI h o 3 v).1 (o + 2) (s.length - 1) = tpS s := by
      intro v
      rw [wI_ne (by omega), s3 _ (by omega), last_get q]
    simp (disch := omega) only [Option.bind_some, if_true, if_false, not_true_eq_false, not_false_eq_true, z0, ii_add, ii_sub, ii_mul, ifLeT, ifLeF, ifLtT, ifLtF, ifEqT, ifEqF, ifNeT, ifNeF, ifIn, nixZ, ii_i64, o0, o1, isInT, isInF, tn14, tn12, tn2, tn21, tn47, tn48, tn49, tn471, tn472, Int.reduceToNat, Int.toNat_natCast, Int.reduceAdd, Int.reduceSub, Int.reduceMul, Int.reduceNeg, Nat.reduceAdd, Nat.reduceSub, Nat.reduceMul, s2, wI_self, upd_self, e1, ev]
    refine ⟨_, rfl, ⟨by simp; omega, ?_, fun j hj => ?_⟩, fun x h1 h2 => wI_ne h1, fun j hj => by rw [wI_self, upd_ne hj], rfl⟩
    · rw [wI_self, upd_self, List.length_dropLast]
      congr 1; omega
    · rw [List.length_dropLast] at hj
      rw [wI_ne (by omega), s3 j (by omega), List.getD_eq_getElem?_getD, List.getD_eq_getElem?_getD, List.getElem?_dropLast, if_pos (by omega)]
theorem C_push {s : List Int32} (S : SKr o s h) (v : Int32) : ∃ h', f_Law_push o v h = some h' ∧ SKr o (psh s v) h' ∧ WF o h h' := by
  obtain ⟨s1, s2, s3⟩ := S
  unfold f_Law_push psh
  by_cases q : s.length < 64
  · rw [if_pos q]
    simp (disch := omega) only [Option.bind_some, if_true, if_false, not_true_eq_false, not_false_eq_true, z0, ii_add, ii_sub, ii_mul, ifLeT, ifLeF, ifLtT, ifLtF, ifEqT, ifEqF, ifNeT, ifNeF, ifIn, nixZ, ii_i64, o0, o1, isInT, isInF, tn14, tn12, tn2, tn21, tn47, tn48, tn49, tn471, tn472, Int.reduceToNat, Int.toNat_natCast, Int.reduceAdd, Int.reduceSub, Int.reduceMul, Int.reduceNeg, Nat.reduceAdd, Nat.reduceSub, Nat.reduceMul, s2]
    refine ⟨_, rfl, ⟨by simp; omega, ?_, fun j hj => ?_⟩, fun x h1 h2 => by rw [wI_ne h1, wI_ne h2], fun j hj => by rw [wI_self, upd_ne hj, wI_ne (by omega)], rfl⟩
    · rw [wI_self, upd_self, wI_ne (by omega), s2, ii_add]
      simp
    · simp only [List.length_append, List.length_cons, List.length_nil] at hj
      rw [wI_ne (by omega), wI_self]
      by_cases e : j = s.length
      · subst e
        rw [upd_self, List.getD_eq_getElem?_getD, List.getElem?_append_right (Nat.le_refl _)]
        simp
      · rw [upd_ne e, s3 j (by omega), List.getD_eq_getElem?_getD, List.getD_eq_getElem?_getD, List.getElem?_append_left (by omega)]
  · rw [if_neg q]
    simp (disch := omega) only [Option.bind_some, if_true, if_false, not_true_eq_false, not_false_eq_true, z0, ii_add, ii_sub, ii_mul, ifLeT, ifLeF, ifLtT, ifLtF, ifEqT, ifEqF, ifNeT, ifNeF, ifIn, nixZ, ii_i64, o0, o1, isInT, isInF, tn14, tn12, tn2, tn21, tn47, tn48, tn49, tn471, tn472, Int.reduceToNat, Int.toNat_natCast, Int.reduceAdd, Int.reduceSub, Int.reduceMul, Int.reduceNeg, Nat.reduceAdd, Nat.reduceSub, Nat.reduceMul, s2]
    exact ⟨_, rfl, ⟨s1, s2, s3⟩, WF.rf _ _⟩
theorem C_join {op : Int} (h1 : -18 ≤ op) (h2 : op ≤ -7) (a b : Int32) : f_Law_joined (ii op) a b h = some (jnI op a b) := by
  unfold f_Law_joined jnI
  rcases (show op = -18 ∨ op = -17 ∨ op = -16 ∨ op = -15 ∨ op = -14 ∨ op = -13 ∨ op = -12 ∨ op = -11 ∨ op = -10 ∨ op = -9 ∨ op = -8 ∨ op = -7 by omega) with e | e | e | e | e | e | e | e | e | e | e | e <;> subst e
  · simp (disch := omega) only [Option.bind_some, if_true, if_false, not_true_eq_false, not_false_eq_true, z0, ii_add, ii_sub, ii_mul, ifLeT, ifLeF, ifLtT, ifLtF, ifEqT, ifEqF, ifNeT, ifNeF, ifIn, nixZ, ii_i64, o0, o1, isInT, isInF, tn14, tn12, tn2, tn21, tn47, tn48, tn49, tn471, tn472, Int.reduceToNat, Int.toNat_natCast, Int.reduceAdd, Int.reduceSub, Int.reduceMul, Int.reduceNeg, Nat.reduceAdd, Nat.reduceSub, Nat.reduceMul, Int.reduceEq]
  · simp (disch := omega) only [Option.bind_some, if_true, if_false, not_true_eq_false, not_false_eq_true, z0, ii_add, ii_sub, ii_mul, ifLeT, ifLeF, ifLtT, ifLtF, ifEqT, ifEqF, ifNeT, ifNeF, ifIn, nixZ, ii_i64, o0, o1, isInT, isInF, tn14, tn12, tn2, tn21, tn47, tn48, tn49, tn471, tn472, Int.reduceToNat, Int.toNat_natCast, Int.reduceAdd, Int.reduceSub, Int.reduceMul, Int.reduceNeg, Nat.reduceAdd, Nat.reduceSub, Nat.reduceMul, Int.reduceEq]
  · simp (disch := omega) only [Option.bind_some, if_true, if_false, not_true_eq_false, not_false_eq_true, z0, ii_add, ii_sub, ii_mul, ifLeT, ifLeF, ifLtT, ifLtF, ifEqT, ifEqF, ifNeT, ifNeF, ifIn, nixZ, ii_i64, o0, o1, isInT, isInF, tn14, tn12, tn2, tn21, tn47, tn48, tn49, tn471, tn472, Int.reduceToNat, Int.toNat_natCast, Int.reduceAdd, Int.reduceSub, Int.reduceMul, Int.reduceNeg, Nat.reduceAdd, Nat.reduceSub, Nat.reduceMul, Int.reduceEq]
  · simp (disch := omega) only [Option.bind_some, if_true, if_false, not_true_eq_false, not_false_eq_true, z0, ii_add, ii_sub, ii_mul, ifLeT, ifLeF, ifLtT, ifLtF, ifEqT, ifEqF, ifNeT, ifNeF, ifIn, nixZ, ii_i64, o0, o1, isInT, isInF, tn14, tn12, tn2, tn21, tn47, tn48, tn49, tn471, tn472, Int.reduceToNat, Int.toNat_natCast, Int.reduceAdd, Int.reduceSub, Int.reduceMul, Int.reduceNeg, Nat.reduceAdd, Nat.reduceSub, Nat.reduceMul, Int.reduceEq]
  · simp (disch := omega) only [Option.bind_some, if_true, if_false, not_true_eq_false, not_false_eq_true, z0, ii_add, ii_sub, ii_mul, ifLeT, ifLeF, ifLtT, ifLtF, ifEqT, ifEqF, ifNeT, ifNeF, ifIn, nixZ, ii_i64, o0, o1, isInT, isInF, tn14, tn12, tn2, tn21, tn47, tn48, tn49, tn471, tn472, Int.reduceToNat, Int.toNat_natCast, Int.reduceAdd, Int.reduceSub, Int.reduceMul, Int.reduceNeg, Nat.reduceAdd, Nat.reduceSub, Nat.reduceMul, Int.reduceEq]
  · by_cases q : a ≤ b
    · simp (disch := omega) only [Option.bind_some, if_true, if_false, not_true_eq_false, not_false_eq_true, z0, ii_add, ii_sub, ii_mul, ifLeT, ifLeF, ifLtT, ifLtF, ifEqT, ifEqF, ifNeT, ifNeF, ifIn, nixZ, ii_i64, o0, o1, isInT, isInF, tn14, tn12, tn2, tn21, tn47, tn48, tn49, tn471, tn472, Int.reduceToNat, Int.toNat_natCast, Int.reduceAdd, Int.reduceSub, Int.reduceMul, Int.reduceNeg, Nat.reduceAdd, Nat.reduceSub, Nat.reduceMul, q, Int.reduceEq]
    · simp (disch := omega) only [Option.bind_some, if_true, if_false, not_true_eq_false, not_false_eq_true, z0, ii_add, ii_sub, ii_mul, ifLeT, ifLeF, ifLtT, ifLtF, ifEqT, ifEqF, ifNeT, ifNeF, ifIn, nixZ, ii_i64, o0, o1, isInT, isInF, tn14, tn12, tn2, tn21, tn47, tn48, tn49, tn471, tn472, Int.reduceToNat, Int.toNat_natCast, Int.reduceAdd, Int.reduceSub, Int.reduceMul, Int.reduceNeg, Nat.reduceAdd, Nat.reduceSub, Nat.reduceMul, q, Int.reduceEq]
  · by_cases q : b ≤ a
    · simp (disch := omega) only [Option.bind_some, if_true, if_false, not_true_eq_false, not_false_eq_true, z0, ii_add, ii_sub, ii_mul, ifLeT, ifLeF, ifLtT, ifLtF, ifEqT, ifEqF, ifNeT, ifNeF, ifIn, nixZ, ii_i64, o0, o1, isInT, isInF, tn14, tn12, tn2, tn21, tn47, tn48, tn49, tn471, tn472, Int.reduceToNat, Int.toNat_natCast, Int.reduceAdd, Int.reduceSub, Int.reduceMul, Int.reduceNeg, Nat.reduceAdd, Nat.reduceSub, Nat.reduceMul, q, Int.reduceEq]
    · simp (disch := omega) only [Option.bind_some, if_true, if_false, not_true_eq_false, not_false_eq_true, z0, ii_add, ii_sub, ii_mul, ifLeT, ifLeF, ifLtT, ifLtF, ifEqT, ifEqF, ifNeT, ifNeF, ifIn, nixZ, ii_i64, o0, o1, isInT, isInF, tn14, tn12, tn2, tn21, tn47, tn48, tn49, tn471, tn472, Int.reduceToNat, Int.toNat_natCast, Int.reduceAdd, Int.reduceSub, Int.reduceMul, Int.reduceNeg, Nat.reduceAdd, Nat.reduceSub, Nat.reduceMul, q, Int.reduceEq]
  · by_cases q : a = b
    · simp (disch := omega) only [Option.bind_some, if_true, if_false, not_true_eq_false, not_false_eq_true, z0, ii_add, ii_sub, ii_mul, ifLeT, ifLeF, ifLtT, ifLtF, ifEqT, ifEqF, ifNeT, ifNeF, ifIn, nixZ, ii_i64, o0, o1, isInT, isInF, tn14, tn12, tn2, tn21, tn47, tn48, tn49, tn471, tn472, Int.reduceToNat, Int.toNat_natCast, Int.reduceAdd, Int.reduceSub, Int.reduceMul, Int.reduceNeg, Nat.reduceAdd, Nat.reduceSub, Nat.reduceMul, q, Int.reduceEq]
    · simp (disch := omega) only [Option.bind_some, if_true, if_false, not_true_eq_false, not_false_eq_true, z0, ii_add, ii_sub, ii_mul, ifLeT, ifLeF, ifLtT, ifLtF, ifEqT, ifEqF, ifNeT, ifNeF, ifIn, nixZ, ii_i64, o0, o1, isInT, isInF, tn14, tn12, tn2, tn21, tn47, tn48, tn49, tn471, tn472, Int.reduceToNat, Int.toNat_natCast, Int.reduceAdd, Int.reduceSub, Int.reduceMul, Int.reduceNeg, Nat.reduceAdd, Nat.reduceSub, Nat.reduceMul, q, Int.reduceEq]
  · by_cases q : b = ii 0
    · simp (disch := omega) only [Option.bind_some, if_true, if_false, not_true_eq_false, not_false_eq_true, z0, ii_add, ii_sub, ii_mul, ifLeT, ifLeF, ifLtT, ifLtF, ifEqT, ifEqF, ifNeT, ifNeF, ifIn, nixZ, ii_i64, o0, o1, isInT, isInF, tn14, tn12, tn2, tn21, tn47, tn48, tn49, tn471, tn472, Int.reduceToNat, Int.toNat_natCast, Int.reduceAdd, Int.reduceSub, Int.reduceMul, Int.reduceNeg, Nat.reduceAdd, Nat.reduceSub, Nat.reduceMul, q, Int.reduceEq]
    · simp (disch := omega) only [Option.bind_some, if_true, if_false, not_true_eq_false, not_false_eq_true, z0, ii_add, ii_sub, ii_mul, ifLeT, ifLeF, ifLtT, ifLtF, ifEqT, ifEqF, ifNeT, ifNeF, ifIn, nixZ, ii_i64, o0, o1, isInT, isInF, tn14, tn12, tn2, tn21, tn47, tn48, tn49, tn471, tn472, Int.reduceToNat, Int.toNat_natCast, Int.reduceAdd, Int.reduceSub, Int.reduceMul, Int.reduceNeg, Nat.reduceAdd, Nat.reduceSub, Nat.reduceMul, q, Int.reduceEq]
  · simp (disch := omega) only [Option.bind_some, if_true, if_false, not_true_eq_false, not_false_eq_true, z0, ii_add, ii_sub, ii_mul, ifLeT, ifLeF, ifLtT, ifLtF, ifEqT, ifEqF, ifNeT, ifNeF, ifIn, nixZ, ii_i64, o0, o1, isInT, isInF, tn14, tn12, tn2, tn21, tn47, tn48, tn49, tn471, tn472, Int.reduceToNat, Int.toNat_natCast, Int.reduceAdd, Int.reduceSub, Int.reduceMul, Int.reduceNeg, Nat.reduceAdd, Nat.reduceSub, Nat.reduceMul, Int.reduceEq]
  · simp (disch := omega) only [Option.bind_some, if_true, if_false, not_true_eq_false, not_false_eq_true, z0, ii_add, ii_sub, ii_mul, ifLeT, ifLeF, ifLtT, ifLtF, ifEqT, ifEqF, ifNeT, ifNeF, ifIn, nixZ, ii_i64, o0, o1, isInT, isInF, tn14, tn12, tn2, tn21, tn47, tn48, tn49, tn471, tn472, Int.reduceToNat, Int.toNat_natCast, Int.reduceAdd, Int.reduceSub, Int.reduceMul, Int.reduceNeg, Nat.reduceAdd, Nat.reduceSub, Nat.reduceMul, Int.reduceEq]
  · simp (disch := omega) only [Option.bind_some, if_true, if_false, not_true_eq_false, not_false_eq_true, z0, ii_add, ii_sub, ii_mul, ifLeT, ifLeF, ifLtT, ifLtF, ifEqT, ifEqF, ifNeT, ifNeF, ifIn, nixZ, ii_i64, o0, o1, isInT, isInF, tn14, tn12, tn2, tn21, tn47, tn48, tn49, tn471, tn472, Int.reduceToNat, Int.toNat_natCast, Int.reduceAdd, Int.reduceSub, Int.reduceMul, Int.reduceNeg, Nat.reduceAdd, Nat.reduceSub, Nat.reduceMul, Int.reduceEq]
theorem C_obey {L : Nat → Int32} {s : List Int32} (S : SKr o s h) (hL : ∀ j, j < 6 → h.1 12 j = L j) {op : Int} (h1 : -16 ≤ op) (h2 : op ≤ 9999) : ∃ h', f_Law_obey o (ii op) 6 12 h = some h' ∧ SKr o (stpM L op s) h' ∧ WF o h h' := by
  unfold f_Law_obey stpM
  by_cases q1 : 0 ≤ op
  · rw [if_pos q1]
    obtain ⟨h', e, S', F⟩ := C_push S (ii op)
    simp (disch := omega) only [Option.bind_some, if_true, if_false, not_true_eq_false, not_false_eq_true, z0, ii_add, ii_sub, ii_mul, ifLeT, ifLeF, ifLtT, ifLtF, ifEqT, ifEqF, ifNeT, ifNeF, ifIn, nixZ, ii_i64, o0, o1, isInT, isInF, tn14, tn12, tn2, tn21, tn47, tn48, tn49, tn471, tn472, Int.reduceToNat, Int.toNat_natCast, Int.reduceAdd, Int.reduceSub, Int.reduceMul, Int.reduceNeg, Nat.reduceAdd, Nat.reduceSub, Nat.reduceMul, e]
    exact ⟨_, rfl, S', F⟩
  · rw [if_neg q1]
    by_cases q2 : -7 < op
    · rw [if_pos q2]
      obtain ⟨h', e, S', F⟩ := C_push S (L (-1 - op).toNat)
      have el := hL (-1 - op).toNat (by omega)
      simp (disch := omega) only [Option.bind_some, if_true, if_false, not_true_eq_false, not_false_eq_true, z0, ii_add, ii_sub, ii_mul, ifLeT, ifLeF, ifLtT, ifLtF, ifEqT, ifEqF, ifNeT, ifNeF, ifIn, nixZ, ii_i64, o0, o1, isInT, isInF, tn14, tn12, tn2, tn21, tn47, tn48, tn49, tn471, tn472, Int.reduceToNat, Int.toNat_natCast, Int.reduceAdd, Int.reduceSub, Int.reduceMul, Int.reduceNeg, Nat.reduceAdd, Nat.reduceSub, Nat.reduceMul, el, e, Int.cast_ofNat_Int]
      exact ⟨_, rfl, S', F⟩
    · rw [if_neg q2]
      by_cases q3 : op = -16
      · rw [if_pos q3]
        obtain ⟨h', e, S', F⟩ := C_pop S
        obtain ⟨h'', e', S'', F'⟩ := C_push S' (if tpS s = ii 0 then ii 1 else ii 0)
        simp (disch := omega) only [Option.bind_some, if_true, if_false, not_true_eq_false, not_false_eq_true, z0, ii_add, ii_sub, ii_mul, ifLeT, ifLeF, ifLtT, ifLtF, ifEqT, ifEqF, ifNeT, ifNeF, ifIn, nixZ, ii_i64, o0, o1, isInT, isInF, tn14, tn12, tn2, tn21, tn47, tn48, tn49, tn471, tn472, Int.reduceToNat, Int.toNat_natCast, Int.reduceAdd, Int.reduceSub, Int.reduceMul, Int.reduceNeg, Nat.reduceAdd, Nat.reduceSub, Nat.reduceMul, e, e']
        exact ⟨_, rfl, S'', F.tr F'⟩
      · rw [if_neg q3]
        obtain ⟨h', e, S', F⟩ := C_pop S
        obtain ⟨h'', e', S'', F'⟩ := C_pop S'
        obtain ⟨h3, e3, S3, F3⟩ := C_push S'' (jnI op (tpS s.dropLast) (tpS s))
        simp (disch := omega) only [Option.bind_some, if_true, if_false, not_true_eq_false, not_false_eq_true, z0, ii_add, ii_sub, ii_mul, ifLeT, ifLeF, ifLtT, ifLtF, ifEqT, ifEqF, ifNeT, ifNeF, ifIn, nixZ, ii_i64, o0, o1, isInT, isInF, tn14, tn12, tn2, tn21, tn47, tn48, tn49, tn471, tn472, Int.reduceToNat, Int.toNat_natCast, Int.reduceAdd, Int.reduceSub, Int.reduceMul, Int.reduceNeg, Nat.reduceAdd, Nat.reduceSub, Nat.reduceMul, e, e', C_join (h := h'') (op := op) (by omega) (by omega), e3]
        exact ⟨_, rfl, S3, (F.tr F').tr F3⟩
theorem C_worth {L : Nat → Int32} {C : List Int} (hC : C.length ≤ 240) (ok : okVc C) (e2 : h.1 o 2 = ii C.length) (ec : ∀ j, j < C.length → h.1 (o + 1) j = ii (C.getD j 0)) (hL : ∀ j, j < 6 → h.1 12 j = L j) (ho : 12 < o) : ∃ h', f_Law_worth o 6 12 h = some (wrthF L C false [], h') ∧ WF o h h' := by
  unfold f_Law_worth
  refine lup (fun n k (a : Bool × AH) => Law_worth_L9 n o 6 12 (bI a.1) (ii k) a.2) C.length (fun k a => WF o h a.2 ∧ ∃ s, SKr o s a.2 ∧ wrthF L (C.drop k) a.1 s = wrthF L C false []) (fun x => ∃ h', x = some (wrthF L C false [], h') ∧ WF o h h') ?_ ?_ C.length 0 FU (false, wI h o 3 (ii 0)) (by omega) (by unfold FU; omega) ⟨⟨fun x h1 _ => wI_ne h1, fun j hj => by rw [wI_self, upd_ne hj], rfl⟩, [], ⟨by simp, by rw [wI_self, upd_self]; rfl, fun j hj => by simp at hj⟩, by simp⟩
  · rintro n ⟨b, x⟩ ⟨r1, s, r2, r3⟩
    simp only at r1 r2 r3
    have e2x : x.1 o 2 = ii C.length := by rw [r1.2.1 2 (by decide)]; exact e2
    rw [List.drop_length] at r3
    simp (disch := omega) only [Option.bind_some, if_true, if_false, not_true_eq_false, not_false_eq_true, z0, ii_add, ii_sub, ii_mul, ifLeT, ifLeF, ifLtT, ifLtF, ifEqT, ifEqF, ifNeT, ifNeF, ifIn, nixZ, ii_i64, o0, o1, isInT, isInF, tn14, tn12, tn2, tn21, tn47, tn48, tn49, tn471, tn472, Int.reduceToNat, Int.toNat_natCast, Int.reduceAdd, Int.reduceSub, Int.reduceMul, Int.reduceNeg, Nat.reduceAdd, Nat.reduceSub, Nat.reduceMul, Law_worth_L9, Law_worth_L9_b, e2x]
    exact ⟨_, by rw [← r3]; rfl, r1⟩
  · rintro n k ⟨b, x⟩ hk ⟨r1, s, r2, r3⟩
    simp only at r1 r2 r3
    have e2x : x.1 o 2 = ii C.length := by rw [r1.2.1 2 (by decide)]; exact e2
    have ecx : x.1 (o + 1) k = ii (C.getD k 0) := by rw [r1.1 (o + 1) (by omega) (by omega)]; exact ec k hk
    have hLx : ∀ j, j < 6 → x.1 12 j = L j := fun j hj => by rw [r1.1 12 (by omega) (by omega)]; exact hL j hj
    have hop := ok (C.getD k 0) (getD_mem 0 hk)
    have ed : C.drop k = C.getD k 0 :: C.drop (k + 1) := by
      rw [List.drop_eq_getElem_cons hk, List.getD_eq_getElem?_getD, List.getElem?_eq_getElem hk]; rfl
    rw [ed, wr_c] at r3
    generalize C.getD k 0 = op at *
    by_cases q1 : op = -18
    · rw [if_pos q1] at r3
      cases b with
      | false =>
        left
        obtain ⟨h', e, S', F⟩ := C_pop r2
        rw [if_neg (by decide)] at r3
        simp (disch := omega) only [Option.bind_some, if_true, if_false, not_true_eq_false, not_false_eq_true, z0, ii_add, ii_sub, ii_mul, ifLeT, ifLeF, ifLtT, ifLtF, ifEqT, ifEqF, ifNeT, ifNeF, ifIn, nixZ, ii_i64, o0, o1, isInT, isInF, tn14, tn12, tn2, tn21, tn47, tn48, tn49, tn471, tn472, Int.reduceToNat, Int.toNat_natCast, Int.reduceAdd, Int.reduceSub, Int.reduceMul, Int.reduceNeg, Nat.reduceAdd, Nat.reduceSub, Nat.reduceMul, Law_worth_L9, Law_worth_L9_b, e2x, ecx, q1, show bI false = ii 0 from rfl, e]
        exact ⟨_, by rw [← r3], r1.tr F⟩
      | true =>
        right
        rw [if_pos rfl] at r3
        simp (disch := omega) only [Option.bind_some, if_true, if_false, not_true_eq_false, not_false_eq_true, z0, ii_add, ii_sub, ii_mul, ifLeT, ifLeF, ifLtT, ifLtF, ifEqT, ifEqF, ifNeT, ifNeF, ifIn, nixZ, ii_i64, o0, o1, isInT, isInF, tn14, tn12, tn2, tn21, tn47, tn48, tn49, tn471, tn472, Int.reduceToNat, Int.toNat_natCast, Int.reduceAdd, Int.reduceSub, Int.reduceMul, Int.reduceNeg, Nat.reduceAdd, Nat.reduceSub, Nat.reduceMul, Law_worth_L9, Law_worth_L9_b, e2x, ecx, q1, show bI true = ii 1 from rfl]
        exact ⟨(false, x), rfl, r1, s, r2, r3⟩
    · rw [if_neg q1] at r3
      right
      by_cases q2 : op = -17
      · rw [if_pos q2] at r3
        obtain ⟨h', e, S', F⟩ := C_pop r2
        have fin : ∀ y, y = (if tpS s = ii 0 then ii 1 else ii 0) → ∃ a' : Bool × AH, Law_worth_L9 n o 6 12 y (ii ((k : Int) + 1)) h' = Law_worth_L9 n o 6 12 (bI a'.1) (ii (k + 1 : Nat)) a'.2 ∧ WF o h a'.2 ∧ ∃ s, SKr o s a'.2 ∧ wrthF L (C.drop (k + 1)) a'.1 s = wrthF L C false [] := by
          intro y hy
          refine ⟨(decide (tpS s = ii 0), h'), ?_, r1.tr F, _, S', r3⟩
          rw [hy]
          by_cases z : tpS s = ii 0
          · simp only [z, if_true, decide_true]; rfl
          · simp only [z, if_false, decide_false]; rfl
        simp (disch := omega) only [Option.bind_some, if_true, if_false, not_true_eq_false, not_false_eq_true, z0, ii_add, ii_sub, ii_mul, ifLeT, ifLeF, ifLtT, ifLtF, ifEqT, ifEqF, ifNeT, ifNeF, ifIn, nixZ, ii_i64, o0, o1, isInT, isInF, tn14, tn12, tn2, tn21, tn47, tn48, tn49, tn471, tn472, Int.reduceToNat, Int.toNat_natCast, Int.reduceAdd, Int.reduceSub, Int.reduceMul, Int.reduceNeg, Nat.reduceAdd, Nat.reduceSub, Nat.reduceMul, Law_worth_L9, Law_worth_L9_b, e2x, ecx, q2, e]
        exact fin _ rfl
      · rw [if_neg q2] at r3
        cases b with
        | false =>
          rw [if_neg (by decide)] at r3
          obtain ⟨h', e, S', F⟩ := C_obey r2 hLx (op := op) (by omega) (by omega)
          simp (disch := omega) only [Option.bind_some, if_true, if_false, not_true_eq_false, not_false_eq_true, z0, ii_add, ii_sub, ii_mul, ifLeT, ifLeF, ifLtT, ifLtF, ifEqT, ifEqF, ifNeT, ifNeF, ifIn, nixZ, ii_i64, o0, o1, isInT, isInF, tn14, tn12, tn2, tn21, tn47, tn48, tn49, tn471, tn472, Int.reduceToNat, Int.toNat_natCast, Int.reduceAdd, Int.reduceSub, Int.reduceMul, Int.reduceNeg, Nat.reduceAdd, Nat.reduceSub, Nat.reduceMul, Law_worth_L9, Law_worth_L9_b, e2x, ecx, show bI false = ii 0 from rfl, e]
          exact ⟨(false, h'), rfl, r1.tr F, _, S', r3⟩
        | true =>
          rw [if_pos rfl] at r3
          simp (disch := omega) only [Option.bind_some, if_true, if_false, not_true_eq_false, not_false_eq_true, z0, ii_add, ii_sub, ii_mul, ifLeT, ifLeF, ifLtT, ifLtF, ifEqT, ifEqF, ifNeT, ifNeF, ifIn, nixZ, ii_i64, o0, o1, isInT, isInF, tn14, tn12, tn2, tn21, tn47, tn48, tn49, tn471, tn472, Int.reduceToNat, Int.toNat_natCast, Int.reduceAdd, Int.reduceSub, Int.reduceMul, Int.reduceNeg, Nat.reduceAdd, Nat.reduceSub, Nat.reduceMul, Law_worth_L9, Law_worth_L9_b, e2x, ecx, show bI true = ii 1 from rfl]
          exact ⟨(true, x), rfl, r1, s, r2, r3⟩
end WO
