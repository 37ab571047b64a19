/-! the class reads a law: conditions, clauses, the whole -/
section LR3
variable {bs : List Int} {h0 : AH} {o : Nat}
theorem hmacC : ∀ c, acC c ≠ -1 → mcC c = -1 := by
  intro c z
  unfold acC at z
  unfold mcC
  by_cases q : c = 124
  · rw [q]; decide
  · rw [if_neg q] at z; exact absurd rfl z
theorem L_co {rc : Nat → Int32 → Int32 → AH → Option (Int32 × AH)} (X : LX bs h0 o) {a : Nat → PR} (ha : okA bs a) {dp : Nat} (hA : ∀ p C, p ≤ bs.length → C.length ≤ p → CRs h0 o C (rc 1 (ii dp) (ii 0) (LH h0 o p C)) (a p)) {x : AH} {a3 : Int32} {C : List Int} {p : Nat} {r : PR} (hr : okP bs p r) (hC : C.length ≤ p) (h1 : CRs h0 o C (rc 1 (ii dp) a3 x) r) : CRs h0 o C (u_LR_readCondition rc (ii dp) a3 x) (smG bs mcC acC a r) := by
  have hl := X.2.1.1
  obtain ⟨f, hf⟩ : ∃ f, bs.length < f := ⟨_, Nat.lt_succ_self _⟩
  rw [sm_fl rfl rfl hmacC ha hl hr hf]
  unfold u_LR_readCondition
  have hFU : 1000 < FU := by unfold FU; omega
  generalize FU = F at *
  revert h1 hr
  cases r with
  | inl e =>
    rintro _ ⟨C', h1⟩
    rw [bind_eq h1, andP_l]
    refine ⟨C', ?_⟩
    rw [if_pos i00]
  | inr u =>
    intro h2 h1
    obtain ⟨t1, t2, t3⟩ := h2
    have h1' : rc 1 (ii dp) a3 x = some (ii 1, LH h0 o u.1 (C ++ u.2)) := h1
    rw [bind_eq h1', andP_r, if_neg i10]
    exact L_coL X ha hA C bs.length u.1 0 F f false u.2 (by omega) t2 (by omega) (by omega) (by omega) (by
      rw [show wl (if false = true then -15 else -1) = [] from rfl]; simp only [List.length_append, List.length_nil]; omega)
abbrev pCo (bs : List Int) (k : Nat) (p : Nat) : PR := smG bs mcC acC (pUn bs k) (pUn bs k p)
theorem L_g1 (X : LX bs h0 o) : ∀ (k dp j : Nat), dp + k = 6 → (∀ p C, p ≤ bs.length → C.length ≤ p → CRs h0 o C (g1 (3 * k + 2 + j) 1 (ii dp) (ii 0) (LH h0 o p C)) (pUn bs k p)) ∧ (∀ p C, p ≤ bs.length → C.length ≤ p → CRs h0 o C (g1 (3 * k + 3 + j) 0 (ii dp) (ii 0) (LH h0 o p C)) (pCo bs k p)) := by
  have step : ∀ k dp : Nat, dp + k = 6 → (∀ j p C, p ≤ bs.length → C.length ≤ p → CRs h0 o C (g1 (3 * k + 2 + j) 1 (ii dp) (ii 0) (LH h0 o p C)) (pUn bs k p)) → (∀ j p C, p ≤ bs.length → C.length ≤ p → CRs h0 o C (g1 (3 * k + 3 + j) 0 (ii dp) (ii 0) (LH h0 o p C)) (pCo bs k p)) := by
    intro k dp hdk hA j p C hp hC
    have e : g1 (3 * k + 3 + j) 0 (ii dp) (ii 0) (LH h0 o p C) = u_LR_readCondition (g1 (3 * k + 2 + j)) (ii dp) (ii 0) (LH h0 o p C) := by
      rw [show 3 * k + 3 + j = (3 * k + 2 + j) + 1 by omega]; rfl
    rw [e]
    exact L_co X (okA_pUn k) (hA j) (okA_pUn k p hp) hC (hA j p C hp hC)
  have all : ∀ k dp : Nat, dp + k = 6 → (∀ j p C, p ≤ bs.length → C.length ≤ p → CRs h0 o C (g1 (3 * k + 2 + j) 1 (ii dp) (ii 0) (LH h0 o p C)) (pUn bs k p)) := by
    intro k
    induction k with
    | zero =>
      intro dp hdk j p C hp hC
      have e : g1 (3 * 0 + 2 + j) 1 (ii dp) (ii 0) (LH h0 o p C) = u_LR_readUnit (g1 (j + 1)) (ii dp) (ii 0) (LH h0 o p C) := by
        rw [show 3 * 0 + 2 + j = (j + 1) + 1 by omega]; rfl
      rw [e]
      refine L_un X (k := 0) (by omega) (su := none) (fun c q D hc hq hD => ?_) hp hC
      show CRs h0 o D (u_LR_readNested (g1 j) (ii dp) (ii c) (LH h0 o q D)) _
      exact L_ne X (su := none) (fun _ => by omega) (fun f z => by cases z) hc hq hD
    | succ k ih =>
      intro dp hdk j p C hp hC
      have e : g1 (3 * (k + 1) + 2 + j) 1 (ii dp) (ii 0) (LH h0 o p C) = u_LR_readUnit (g1 ((3 * k + 3 + j) + 1)) (ii dp) (ii 0) (LH h0 o p C) := by
        rw [show 3 * (k + 1) + 2 + j = ((3 * k + 3 + j) + 1) + 1 by omega]; rfl
      rw [e]
      refine L_un X (k := k + 1) (by omega) (su := some (pUn bs k, fun p => pCo bs k p)) (fun c q D hc hq hD => ?_) hp hC
      show CRs h0 o D (u_LR_readNested (g1 (3 * k + 3 + j)) (ii dp) (ii c) (LH h0 o q D)) _
      refine L_ne X (su := some (pUn bs k, fun p => pCo bs k p)) (fun z => by cases z) (fun f z => ?_) hc hq hD
      cases z
      refine ⟨by omega, ⟨okA_pUn k, ?_⟩, fun q hq => okP_sm rfl rfl (okA_pUn k) (okA_pUn k q hq), step k (dp + 1) (by omega) (ih (dp + 1) (by omega)) j⟩
      have := ih (dp + 1) (by omega) (1 + j)
      rwa [show 3 * k + 2 + (1 + j) = 3 * k + 3 + j by omega] at this
  intro k dp j hdk
  exact ⟨all k dp hdk j, step k dp hdk (all k dp hdk) j⟩
theorem L_con (X : LX bs h0 o) {p : Nat} {C : List Int} (hp : p ≤ bs.length) (hC : C.length ≤ p) : CRs h0 o C (g1 40 0 (ii 0) (ii 0) (LH h0 o p C)) (pCo bs 6 p) := (L_g1 X 6 0 19 (by omega)).2 p C hp hC
theorem L_con1 (X : LX bs h0 o) {q : Nat} {C D : List Int} (hq : q ≤ bs.length) (hC : (C ++ D).length ≤ q) (hlen : C.length < q) : CRs h0 o C (g1 40 0 (ii 0) (ii 1) (LH h0 o q (C ++ D))) (smG bs mcC acC (pUn bs 6) (cm2 bs 6 q D)) := by
  have e : g1 40 0 (ii 0) (ii 1) (LH h0 o q (C ++ D)) = u_LR_readCondition (g1 39) (ii 0) (ii 1) (LH h0 o q (C ++ D)) := rfl
  rw [e]
  refine L_co X (dp := 0) (okA_pUn 6) (fun p C hp hC => (L_g1 X 6 0 19 (by omega)).1 p C hp hC) (p := C.length) (okP_cm (p := C.length) (by omega) hq (by simp only [List.length_append] at hC; omega)) (Nat.le_refl _) ?_
  have e2 : g1 39 1 (ii 0) (ii 1) (LH h0 o q (C ++ D)) = u_LR_readUnit (g1 38) (ii (0 : Nat)) (ii 1) (LH h0 o q (C ++ D)) := rfl
  show CRs h0 o C (g1 39 1 (ii 0) (ii 1) (LH h0 o q (C ++ D))) _
  rw [e2]
  exact L_un1 X (k := 6) (by omega) hq hC
end LR3
