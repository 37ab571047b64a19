/-! the laws' grammar: how far it reads, and in one loop -/
section G1
variable {bs : List Int}
theorem skF_lo : ∀ (k p : Nat), p ≤ skF bs k p ∧ skF bs k p ≤ p + k
  | 0, p => ⟨Nat.le_refl _, Nat.le_refl _⟩
  | k + 1, p => by
    have := skF_lo k (p + 1)
    unfold skF
    split <;> omega
theorem sk_lo {p : Nat} (h : p ≤ bs.length) : p ≤ sk bs p ∧ sk bs p ≤ bs.length := by
  have := skF_lo (bs := bs) (bs.length - p) p
  unfold sk
  omega
theorem skF_no : ∀ (k p : Nat), bs.length ≤ p + k → ch bs (skF bs k p) ≠ 32
  | 0, p, h => by unfold skF ch; rw [if_neg (by omega)]; omega
  | k + 1, p, h => by
    unfold skF
    by_cases q : ch bs p = 32
    · rw [if_pos q]; exact skF_no k (p + 1) (by omega)
    · rw [if_neg q]; exact q
theorem sk_no (p : Nat) : ch bs (sk bs p) ≠ 32 := skF_no _ _ (by omega)
theorem sk_id {p : Nat} (h : ch bs p ≠ 32) : sk bs p = p := by
  unfold sk
  cases bs.length - p with
  | zero => rfl
  | succ k => unfold skF; rw [if_neg h]
theorem sk_sk (p : Nat) : sk bs (sk bs p) = sk bs p := sk_id (sk_no p)
theorem sk_32 {p : Nat} (h : ch bs p = 32) : sk bs p = sk bs (p + 1) := by
  have hp : p < bs.length := by
    unfold ch at h
    by_cases q : p < bs.length
    · exact q
    · rw [if_neg q] at h; omega
  unfold sk
  rw [show bs.length - p = (bs.length - (p + 1)) + 1 by omega]
  conv => lhs; unfold skF
  rw [if_pos h]
theorem ch_lt {p : Nat} (h : ch bs p ≠ -1) : p < bs.length := by
  unfold ch at h
  by_cases q : p < bs.length
  · exact q
  · rw [if_neg q] at h; exact absurd rfl h
theorem ch_ge {p : Nat} (h : bs.length ≤ p) : ch bs p = -1 := by unfold ch; rw [if_neg (by omega)]
theorem ch_ok (ok : okB bs) {p : Nat} (h : p < bs.length) : 1 ≤ ch bs p ∧ ch bs p ≤ 255 := by
  unfold ch
  rw [if_pos h]
  exact ok.2 _ (getD_mem 0 h)
theorem ch_lo (ok : okB bs) (p : Nat) : ch bs p = -1 ∨ (1 ≤ ch bs p ∧ ch bs p ≤ 255) := by
  by_cases q : p < bs.length
  · exact Or.inr (ch_ok ok q)
  · exact Or.inl (ch_ge (by omega))
def okP (bs : List Int) (p : Nat) (r : PR) : Prop := match r with
  | .inl e => e ≤ bs.length
  | .inr (q, C) => p < q ∧ q ≤ bs.length ∧ C.length + p ≤ q
theorem okP_and {p : Nat} {r : PR} {f : Nat → List Int → PR} (h : okP bs p r) (hf : ∀ q C, p < q → q ≤ bs.length → C.length + p ≤ q → okP bs p (f q C)) : okP bs p (andP r f) := by
  cases r with
  | inl e => exact h
  | inr v => exact hf v.1 v.2 h.1 h.2.1 h.2.2
theorem okP_mono {p p' : Nat} {r : PR} (h : okP bs p' r) (hp : p ≤ p') : okP bs p r := by
  cases r with
  | inl e => exact h
  | inr v => obtain ⟨h1, h2, h3⟩ := h; exact ⟨by omega, h2, by omega⟩
theorem okP_tk {c : Int} (hc : c ≠ -1) {p q : Nat} {C : List Int} (hq : q ≤ bs.length) (hp : p ≤ q) (hC : C.length + p ≤ q + 1) : okP bs p (tkP bs c q C) := by
  have := sk_lo hq
  unfold tkP
  split
  · rename_i e
    have := ch_lt (bs := bs) (p := sk bs q) (by rw [e]; exact hc)
    exact ⟨by omega, by omega, by omega⟩
  · show sk bs q ≤ bs.length
    omega
theorem okP_nu (most : Nat) : ∀ (k dg : Nat) (v : Int) (p p0 : Nat), p ≤ bs.length → p0 ≤ p → (dg ≠ 0 → p0 < p) → okP bs p0 (nuF bs most k dg v p)
  | 0, dg, v, p, p0, h, _, _ => h
  | k + 1, dg, v, p, p0, h, h1, h2 => by
    unfold nuF
    split
    · rename_i q
      have := ch_lt (bs := bs) (p := p) (by omega)
      split
      · exact h
      · exact okP_nu most k (dg + 1) _ (p + 1) p0 (by omega) (by omega) (fun _ => by omega)
    · split
      · exact h
      · rename_i z
        have := h2 z
        exact ⟨this, h, by simp; omega⟩
theorem okP_at {sub : Option (Nat → PR)} (hs : ∀ f, sub = some f → ∀ p, p ≤ bs.length → okP bs p (f p)) {p : Nat} (hp : p ≤ bs.length) : okP bs p (atB bs sub p) := by
  have hk := sk_lo hp
  unfold atB
  split
  · rename_i e
    have hl := ch_lt (bs := bs) (p := sk bs p) (by omega)
    cases sub with
    | none => show sk bs p ≤ bs.length; omega
    | some f =>
      refine okP_and (okP_mono (hs f rfl (sk bs p + 1) (by omega)) (by omega)) (fun q C h1 h2 h3 => okP_tk (by omega) h2 (by omega) (by omega))
  · split
    · exact okP_mono (okP_nu 4 6 0 0 (sk bs p) (sk bs p) hk.2 (Nat.le_refl _) (fun z => absurd rfl z)) hk.1
    · rename_i e1 e2
      have hl := ch_lt (bs := bs) (p := sk bs p) (by intro z; rw [z] at e2; exact e2 (by decide))
      exact ⟨by omega, by omega, by simp; omega⟩
/-- a reader that goes on -/
def okA (bs : List Int) (a : Nat → PR) : Prop := ∀ p, p ≤ bs.length → okP bs p (a p)
theorem okP_ml {mc : Int → Int} (hm : mc (-1) = -1) {a : Nat → PR} (ha : okA bs a) : ∀ (k q p : Nat) (C : List Int), p < q → q ≤ bs.length → C.length + p ≤ q → okP bs p (mlG bs mc a k q C)
  | 0, q, p, C, h1, h2, h3 => ⟨h1, h2, h3⟩
  | k + 1, q, p, C, h1, h2, h3 => by
    have hk := sk_lo h2
    unfold mlG
    split
    · exact ⟨by omega, hk.2, by omega⟩
    · rename_i e
      have hl := ch_lt (bs := bs) (p := sk bs q) (by intro z; rw [z] at e; exact e hm)
      have h := ha (sk bs q + 1) (by omega)
      revert h
      cases a (sk bs q + 1) with
      | inl e => intro h; exact h
      | inr v =>
        intro h
        obtain ⟨g1, g2, g3⟩ := h
        exact okP_ml hm ha k v.1 p _ (by omega) g2 (by simp; omega)
theorem okP_tm {mc : Int → Int} (hm : mc (-1) = -1) {a : Nat → PR} (ha : okA bs a) {p : Nat} {r : PR} (hr : okP bs p r) : okP bs p (tmG bs mc a r) := okP_and hr (fun q C h1 h2 h3 => okP_ml hm ha 250 q p C h1 h2 h3)
theorem okP_ad {mc ac : Int → Int} (hm : mc (-1) = -1) (hc : ac (-1) = -1) {a : Nat → PR} (ha : okA bs a) : ∀ (k q p : Nat) (C : List Int), p < q → q ≤ bs.length → C.length + p ≤ q → okP bs p (adG bs mc ac a k q C)
  | 0, q, p, C, h1, h2, h3 => ⟨h1, h2, h3⟩
  | k + 1, q, p, C, h1, h2, h3 => by
    have hk := sk_lo h2
    unfold adG
    split
    · exact ⟨by omega, hk.2, by omega⟩
    · rename_i e
      have hl := ch_lt (bs := bs) (p := sk bs q) (by intro z; rw [z] at e; exact e hc)
      have h := okP_tm hm ha (ha (sk bs q + 1) (by omega))
      revert h
      cases tmG bs mc a (a (sk bs q + 1)) with
      | inl e => intro h; exact h
      | inr v =>
        intro h
        obtain ⟨g1, g2, g3⟩ := h
        exact okP_ad hm hc ha k v.1 p _ (by omega) g2 (by simp; omega)
theorem okP_sm {mc ac : Int → Int} (hm : mc (-1) = -1) (hc : ac (-1) = -1) {a : Nat → PR} (ha : okA bs a) {p : Nat} {r : PR} (hr : okP bs p r) : okP bs p (smG bs mc ac a r) := okP_and (okP_tm hm ha hr) (fun q C h1 h2 h3 => okP_ad hm hc ha 250 q p C h1 h2 h3)
theorem okA_pAt : ∀ k, okA bs (pAt bs k)
  | 0 => fun p hp => okP_at (fun f e => by cases e) hp
  | k + 1 => fun p hp => okP_at (fun f e q hq => by cases e; exact okP_sm rfl rfl (okA_pAt k) (okA_pAt k q hq)) hp
theorem okA_pSm (k : Nat) : okA bs (pSm bs k) := fun p hp => okP_sm rfl rfl (okA_pAt k) (okA_pAt k p hp)
theorem okP_cm {k p q : Nat} {C : List Int} (h1 : p < q) (h2 : q ≤ bs.length) (h3 : C.length + p ≤ q) : okP bs p (cm2 bs k q C) := by
  have hk := sk_lo h2
  unfold cm2
  split
  · exact hk.2
  · rename_i e
    have hl := ch_lt (bs := bs) (p := sk bs q) (by intro z; rw [z] at e; exact e (by decide))
    have h := okA_pSm (bs := bs) k (sk bs q + 1) (by omega)
    revert h
    cases pSm bs k (sk bs q + 1) with
    | inl e => intro h; exact h
    | inr v =>
      intro h
      obtain ⟨g1, g2, g3⟩ := h
      exact ⟨by omega, g2, by simp; omega⟩
theorem okP_un {k : Nat} {su : Option ((Nat → PR) × (Nat → PR))} (hs : ∀ f, su = some f → okA bs f.1 ∧ okA bs f.2) {p : Nat} (hp : p ≤ bs.length) : okP bs p (unB bs k su p) := by
  have hk := sk_lo hp
  unfold unB
  split
  · rename_i e
    have hl := ch_lt (bs := bs) (p := sk bs p) (by omega)
    cases su with
    | none => exact hk.2
    | some f =>
      have h := (hs f rfl).1 (sk bs p + 1) (by omega)
      show okP bs p (andP (f.1 (sk bs p + 1)) _)
      revert h
      cases f.1 (sk bs p + 1) with
      | inl e => intro h; exact h
      | inr v =>
        intro h
        obtain ⟨g1, g2, g3⟩ := h
        exact ⟨by omega, g2, by simp; omega⟩
  · split
    · rename_i e
      have hl := ch_lt (bs := bs) (p := sk bs p) (by omega)
      cases su with
      | none => exact hk.2
      | some f =>
        exact okP_and (okP_mono ((hs f rfl).2 (sk bs p + 1) (by omega)) (by omega)) (fun q C h1 h2 h3 => okP_tk (by omega) h2 (by omega) (by omega))
    · exact okP_and (okP_mono (okA_pSm k (sk bs p) hk.2) hk.1) (fun q C h1 h2 h3 => okP_cm h1 h2 h3)
theorem okA_pUn : ∀ k, okA bs (pUn bs k)
  | 0 => fun p hp => okP_un (fun f e => by cases e) hp
  | k + 1 => fun p hp => okP_un (fun f e => by
      cases e
      exact ⟨okA_pUn k, fun q hq => okP_sm rfl rfl (okA_pUn k) (okA_pUn k q hq)⟩) hp
/-! in one loop -/
def wl (w : Int) : List Int := if w = -1 then [] else [w]
def flG (bs : List Int) (mc ac : Int → Int) (a : Nat → PR) : Nat → Int → Nat → List Int → PR
  | 0, _, q, C => .inr (q, C)
  | k + 1, w, q, C => if mc (ch bs (sk bs q)) ≠ -1 then andP (a (sk bs q + 1)) (fun r D => flG bs mc ac a k w r (C ++ D ++ [mc (ch bs (sk bs q))]))
    else if ac (ch bs (sk bs q)) ≠ -1 then andP (a (sk bs q + 1)) (fun r D => flG bs mc ac a k (ac (ch bs (sk bs q))) r (C ++ wl w ++ D))
    else .inr (sk bs q, C ++ wl w)
theorem ml_pre {mc : Int → Int} {a : Nat → PR} (C1 : List Int) : ∀ (k q : Nat) (D : List Int), mlG bs mc a k q (C1 ++ D) = andP (mlG bs mc a k q D) (fun r E => .inr (r, C1 ++ E))
  | 0, q, D => rfl
  | k + 1, q, D => by
    unfold mlG
    split
    · rfl
    · cases a (sk bs q + 1) with
      | inl e => rfl
      | inr v =>
        show mlG bs mc a k v.1 (C1 ++ D ++ v.2 ++ [_]) = andP (mlG bs mc a k v.1 (D ++ v.2 ++ [_])) _
        rw [← ml_pre C1 k v.1, List.append_assoc, List.append_assoc, List.append_assoc]
theorem ml_fu {mc : Int → Int} (hm : mc (-1) = -1) {a : Nat → PR} (ha : okA bs a) : ∀ (k k' q : Nat) (C : List Int), q ≤ bs.length → bs.length - q < k → bs.length - q < k' → mlG bs mc a k q C = mlG bs mc a k' q C
  | 0, _, q, C, _, h, _ => by omega
  | _ + 1, 0, q, C, _, _, h => by omega
  | k + 1, k' + 1, q, C, hq, h, h' => by
    have hk := sk_lo hq
    unfold mlG
    split
    · rfl
    · rename_i e
      have hl := ch_lt (bs := bs) (p := sk bs q) (by intro z; rw [z] at e; exact e hm)
      have h := ha (sk bs q + 1) (by omega)
      revert h
      cases a (sk bs q + 1) with
      | inl e => intro _; rfl
      | inr v =>
        intro h
        obtain ⟨g1, g2, g3⟩ := h
        exact ml_fu hm ha k k' v.1 _ g2 (by omega) (by omega)
theorem and_as (r : PR) (f k : Nat → List Int → PR) : andP (andP r f) k = andP r (fun q C => andP (f q C) k) := by
  cases r with
  | inl e => rfl
  | inr v => rfl
theorem fl_eq {mc ac : Int → Int} (hm : mc (-1) = -1) (hc : ac (-1) = -1) (hmac : ∀ c, ac c ≠ -1 → mc c = -1) {a : Nat → PR} (ha : okA bs a) (h240 : bs.length ≤ 240) : ∀ (n f f2 q : Nat) (w : Int) (C : List Int), bs.length - q ≤ n → q ≤ bs.length → bs.length - q < f → bs.length - q < f2 → flG bs mc ac a f w q C = andP (mlG bs mc a 250 q C) (fun r D => adG bs mc ac a f2 r (D ++ wl w)) := by
  intro n
  induction n with
  | zero =>
    intro f f2 q w C hn hq hf hf2
    obtain ⟨f, rfl⟩ : ∃ z, f = z + 1 := ⟨f - 1, by omega⟩
    obtain ⟨f2, rfl⟩ : ∃ z, f2 = z + 1 := ⟨f2 - 1, by omega⟩
    have hk := sk_lo hq
    have ec : ch bs (sk bs q) = -1 := ch_ge (by omega)
    have e1 : mlG bs mc a 250 q C = .inr (sk bs q, C) := by
      show (if mc (ch bs (sk bs q)) = -1 then _ else _) = _
      rw [if_pos (by rw [ec]; exact hm)]
    rw [e1]
    show (if mc (ch bs (sk bs q)) ≠ -1 then _ else _) = (if ac (ch bs (sk bs (sk bs q))) = -1 then _ else _)
    rw [sk_sk, if_neg (by rw [ec]; exact fun z => z hm), if_neg (by rw [ec]; exact fun z => z hc), if_pos (by rw [ec]; exact hc)]
  | succ n ih =>
    intro f f2 q w C hn hq hf hf2
    obtain ⟨f, rfl⟩ : ∃ z, f = z + 1 := ⟨f - 1, by omega⟩
    obtain ⟨f2, rfl⟩ : ∃ z, f2 = z + 1 := ⟨f2 - 1, by omega⟩
    have hk := sk_lo hq
    have el : flG bs mc ac a (f + 1) w q C = if mc (ch bs (sk bs q)) ≠ -1 then andP (a (sk bs q + 1)) (fun r D => flG bs mc ac a f w r (C ++ D ++ [mc (ch bs (sk bs q))])) else if ac (ch bs (sk bs q)) ≠ -1 then andP (a (sk bs q + 1)) (fun r D => flG bs mc ac a f (ac (ch bs (sk bs q))) r (C ++ wl w ++ D)) else .inr (sk bs q, C ++ wl w) := rfl
    have er : mlG bs mc a 250 q C = if mc (ch bs (sk bs q)) = -1 then .inr (sk bs q, C) else andP (a (sk bs q + 1)) (fun r D => mlG bs mc a 249 r (C ++ D ++ [mc (ch bs (sk bs q))])) := rfl
    rw [el, er]
    by_cases q1 : mc (ch bs (sk bs q)) = -1
    · rw [if_neg (fun z => z q1), if_pos q1]
      show _ = adG bs mc ac a (f2 + 1) (sk bs q) (C ++ wl w)
      have ea : adG bs mc ac a (f2 + 1) (sk bs q) (C ++ wl w) = if ac (ch bs (sk bs (sk bs q))) = -1 then .inr (sk bs (sk bs q), C ++ wl w) else andP (tmG bs mc a (a (sk bs (sk bs q) + 1))) (fun r D => adG bs mc ac a f2 r (C ++ wl w ++ D ++ [ac (ch bs (sk bs (sk bs q)))])) := rfl
      rw [ea, sk_sk]
      by_cases q2 : ac (ch bs (sk bs q)) = -1
      · rw [if_neg (fun z => z q2), if_pos q2]
      · rw [if_pos q2, if_neg q2]
        have hl := ch_lt (bs := bs) (p := sk bs q) (by intro z; rw [z] at q2; exact q2 hc)
        have h := ha (sk bs q + 1) (by omega)
        unfold tmG
        rw [and_as]
        revert h
        cases a (sk bs q + 1) with
        | inl e => intro _; rfl
        | inr v =>
          intro h
          obtain ⟨g1, g2, g3⟩ := h
          show flG bs mc ac a f _ v.1 (C ++ wl w ++ v.2) = andP (mlG bs mc a 250 v.1 v.2) _
          rw [ih f f2 v.1 _ _ (by omega) g2 (by omega) (by omega), ml_pre, and_as]
          congr 1
          funext r E
          show adG bs mc ac a f2 r (C ++ wl w ++ E ++ wl (ac (ch bs (sk bs q)))) = _
          rw [show wl (ac (ch bs (sk bs q))) = [ac (ch bs (sk bs q))] by unfold wl; rw [if_neg q2]]
    · rw [if_pos q1, if_neg q1, and_as]
      have hl := ch_lt (bs := bs) (p := sk bs q) (by intro z; rw [z] at q1; exact q1 hm)
      have h := ha (sk bs q + 1) (by omega)
      revert h
      cases a (sk bs q + 1) with
      | inl e => intro _; rfl
      | inr v =>
        intro h
        obtain ⟨g1, g2, g3⟩ := h
        show flG bs mc ac a f w v.1 _ = andP (mlG bs mc a 249 v.1 _) _
        rw [ih f (f2 + 1) v.1 _ _ (by omega) g2 (by omega) (by omega), ml_fu hm ha 249 250 v.1 _ g2 (by omega) (by omega)]
theorem andP_congr {r : PR} {f k : Nat → List Int → PR} (h : ∀ q C, f q C = k q C) : andP r f = andP r k := by
  cases r with
  | inl e => rfl
  | inr v => exact h v.1 v.2
theorem sm_fl {mc ac : Int → Int} (hm : mc (-1) = -1) (hc : ac (-1) = -1) (hmac : ∀ c, ac c ≠ -1 → mc c = -1) {a : Nat → PR} (ha : okA bs a) (h240 : bs.length ≤ 240) {r : PR} {p : Nat} (hr : okP bs p r) {f : Nat} (hf : bs.length < f) : smG bs mc ac a r = andP r (fun q C => flG bs mc ac a f (-1) q C) := by
  unfold smG tmG
  rw [and_as]
  revert hr
  cases r with
  | inl e => intro _; rfl
  | inr v =>
    intro h
    obtain ⟨g1, g2, g3⟩ := h
    show andP (mlG bs mc a 250 v.1 v.2) _ = flG bs mc ac a f (-1) v.1 v.2
    rw [fl_eq hm hc hmac ha h240 bs.length f 250 v.1 (-1) v.2 (by omega) g2 (by omega) (by omega)]
    exact andP_congr (fun r E => by rw [show wl (-1) = [] from rfl, List.append_nil])
end G1
