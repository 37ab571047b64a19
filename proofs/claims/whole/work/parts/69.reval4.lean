/-! the reference reads and reckons: conditions nested, clauses, the whole -/
section GD
variable {g0 : AH} {bs : List Int} {T b0 : Nat} {L : Nat → Int32}
theorem G_pa {rc : Nat → Int32 → Int32 → AH → Option (Int32 × AH)} (X : GX bs T b0 g0) {a : Nat → PR} (ha : okA bs a) {dp : Int} {K : Nat} (hA : ∀ p, p ≤ bs.length → GRb bs g0 dp L K (rc 2 (ii 0) (ii 0) (GH g0 p (-1) dp)) (a p)) {r : PR} {p : Nat} (hr : okP bs p r) {x : Option (Int32 × AH)} (hx : GRb bs g0 dp L K x r) {F : Nat} (hF : 1000 < F) : GRb bs g0 dp L (K + 1) (x.bind fun q3 => R_part_L18 rc F q3.1 q3.2) (tmG bs mcC a r) := by
  have hl := X.2.2.2.2.2.2.1.1
  unfold tmG
  have h250 : 240 < 250 := by omega
  generalize (250 : Nat) = G at *
  revert hx hr
  cases r with
  | inl e =>
    rintro _ ⟨he, b, p', dp', h1⟩
    rw [bind_eq h1, andP_l]
    exact ⟨he, b, _, _, G_pa2 (by omega) (by omega) _⟩
  | inr u =>
    rintro h2 ⟨b, h1, hw⟩
    obtain ⟨t1, t2, t3⟩ := h2
    rw [bind_eq h1, andP_r]
    exact G_paL X ha hA bs.length u.1 F G b u.2 (by omega) t2 (by omega) (by omega) (hw.mono (by omega))
theorem G_co {rc : Nat → Int32 → Int32 → AH → Option (Int32 × AH)} (X : GX bs T b0 g0) {a : Nat → PR} (ha : okA bs a) {dp : Int} {K : Nat} (hA : ∀ p, p ≤ bs.length → GRb bs g0 dp L K (rc 1 (ii 0) (ii 0) (GH g0 p (-1) dp)) (tmG bs mcC a (a p))) {r : PR} {p : Nat} (hr : okP bs p r) {x : Option (Int32 × AH)} (hx : GRb bs g0 dp L K x (tmG bs mcC a r)) {F : Nat} (hF : 1000 < F) : GRb bs g0 dp L (K + 1) (x.bind fun q3 => R_condition_L7 rc F q3.1 q3.2) (smG bs mcC acC a r) := by
  have hl := X.2.2.2.2.2.2.1.1
  have hr2 := okP_tm (mc := mcC) rfl ha hr
  unfold smG
  revert hx hr2
  cases tmG bs mcC a r with
  | inl e =>
    rintro ⟨he, b, p', dp', h1⟩ _
    rw [bind_eq h1, andP_l]
    exact ⟨he, b, _, _, G_co2 (by omega) (by omega) _⟩
  | inr u =>
    rintro ⟨b, h1, hw⟩ h2
    obtain ⟨t1, t2, t3⟩ := h2
    have h250 : 240 < 250 := by omega
    generalize (250 : Nat) = G at *
    rw [bind_eq h1, andP_r]
    exact G_coL X ha hA bs.length u.1 F G b u.2 (by omega) t2 (by omega) (by omega) (hw.mono (by omega))
theorem GRb_m {dp : Int} {K K' : Nat} {x : Option (Int32 × AH)} {r : PR} (h : GRb bs g0 dp L K x r) (hk : K ≤ K') : GRb bs g0 dp L K' x r := by
  cases r with
  | inl e => exact h
  | inr v => obtain ⟨b, h1, h2⟩ := h; exact ⟨b, h1, h2.mono hk⟩
theorem fu_1000 : 1000 < FU := by unfold FU; omega
theorem bind_id {α : Type} (x : Option (Int32 × α)) : (x.bind fun q1 => some (q1.1, q1.2)) = x := by cases x <;> rfl
theorem G_pu {rc : Nat → Int32 → Int32 → AH → Option (Int32 × AH)} (X : GX bs T b0 g0) {a : Nat → PR} (ha : okA bs a) {dp : Int} {K : Nat} (hA : ∀ p, p ≤ bs.length → GRb bs g0 dp L K (rc 2 (ii 0) (ii 0) (GH g0 p (-1) dp)) (a p)) {p : Nat} (hp : p ≤ bs.length) : GRb bs g0 dp L (K + 1) (u_R_part rc (ii 0) (ii 0) (GH g0 p (-1) dp)) (tmG bs mcC a (a p)) := by
  unfold u_R_part
  simp only [z0, if_true]
  rw [bind_id]
  exact G_pa X ha hA (ha p hp) (hA p hp) fu_1000
theorem G_g3 (X : GX bs T b0 g0) (hL : LTR g0 L) : ∀ (k dp : Nat), dp + k = 6 → (∀ j p, p ≤ bs.length → ∀ a1 a2, GRb bs g0 dp L (2 * k + 4) (g3 (3 * k + 1 + j) 2 a1 a2 (GH g0 p (-1) dp)) (pUn bs k p)) ∧ (∀ j p, p ≤ bs.length → GRb bs g0 dp L (2 * k + 6) (g3 (3 * k + 3 + j) 0 (ii 0) (ii 0) (GH g0 p (-1) dp)) (pCo bs k p)) := by
  have step : ∀ k dp : Nat, dp + k = 6 → (∀ j p, p ≤ bs.length → ∀ a1 a2, GRb bs g0 dp L (2 * k + 4) (g3 (3 * k + 1 + j) 2 a1 a2 (GH g0 p (-1) dp)) (pUn bs k p)) → (∀ j p, p ≤ bs.length → GRb bs g0 dp L (2 * k + 6) (g3 (3 * k + 3 + j) 0 (ii 0) (ii 0) (GH g0 p (-1) dp)) (pCo bs k p)) := by
    intro k dp hdk hA j p hp
    have e : g3 (3 * k + 3 + j) 0 (ii 0) (ii 0) (GH g0 p (-1) dp) = u_R_condition (g3 (3 * k + 2 + j)) (ii 0) (ii 0) (GH g0 p (-1) dp) := by
      rw [show 3 * k + 3 + j = (3 * k + 2 + j) + 1 by omega]; rfl
    rw [e]
    unfold u_R_condition
    have hp1 : ∀ p, p ≤ bs.length → GRb bs g0 dp L (2 * k + 5) (g3 (3 * k + 2 + j) 1 (ii 0) (ii 0) (GH g0 p (-1) dp)) (tmG bs mcC (pUn bs k) (pUn bs k p)) := by
      intro p hp
      have e2 : g3 (3 * k + 2 + j) 1 (ii 0) (ii 0) (GH g0 p (-1) dp) = u_R_part (g3 (3 * k + 1 + j)) (ii 0) (ii 0) (GH g0 p (-1) dp) := by
        rw [show 3 * k + 2 + j = (3 * k + 1 + j) + 1 by omega]; rfl
      rw [e2]
      exact G_pu X (okA_pUn k) (K := 2 * k + 4) (fun p hp => hA j p hp _ _) hp
    exact G_co X (okA_pUn k) (K := 2 * k + 5) hp1 (okA_pUn k p hp) (hp1 p hp) fu_1000
  have all : ∀ k dp : Nat, dp + k = 6 → (∀ j p, p ≤ bs.length → ∀ a1 a2, GRb bs g0 dp L (2 * k + 4) (g3 (3 * k + 1 + j) 2 a1 a2 (GH g0 p (-1) dp)) (pUn bs k p)) := by
    intro k
    induction k with
    | zero =>
      intro dp hdk j p hp a1 a2
      have e : g3 (3 * 0 + 1 + j) 2 a1 a2 (GH g0 p (-1) dp) = u_R_unit (g3 j) a1 a2 (GH g0 p (-1) dp) := by
        rw [show 3 * 0 + 1 + j = j + 1 by omega]; rfl
      rw [e]
      exact G_un X hL (k := 0) (by omega) (su := none) (fun _ => by omega) (fun f z => by cases z) hp
    | succ k ih =>
      intro dp hdk j p hp a1 a2
      have e : g3 (3 * (k + 1) + 1 + j) 2 a1 a2 (GH g0 p (-1) dp) = u_R_unit (g3 (3 * k + 3 + j)) a1 a2 (GH g0 p (-1) dp) := by
        rw [show 3 * (k + 1) + 1 + j = (3 * k + 3 + j) + 1 by omega]; rfl
      rw [e]
      refine G_un X hL (k := k + 1) (by omega) (su := some (pUn bs k, fun p => pCo bs k p)) (fun z => by cases z) (fun f z => ?_) hp
      cases z
      refine ⟨by omega, ⟨okA_pUn k, fun p hp => ?_⟩, fun q hq => okP_sm rfl rfl (okA_pUn k) (okA_pUn k q hq), fun p hp => GRb_m (step k (dp + 1) (by omega) (ih (dp + 1) (by omega)) j p hp) (by omega)⟩
      have := ih (dp + 1) (by omega) (2 + j) p hp (ii 0) (ii 0)
      rw [show 3 * k + 1 + (2 + j) = 3 * k + 3 + j by omega] at this
      exact GRb_m this (by omega)
  intro k dp hdk
  exact ⟨all k dp hdk, step k dp hdk (all k dp hdk)⟩
theorem G_con (X : GX bs T b0 g0) (hL : LTR g0 L) {p : Nat} (hp : p ≤ bs.length) : GRb bs g0 0 L 18 (g3 40 0 (ii 0) (ii 0) (GH g0 p (-1) 0)) (pCo bs 6 p) := (G_g3 X hL 6 0 (by omega)).2 19 p hp
theorem G_con1 (X : GX bs T b0 g0) (hL : LTR g0 L) {q : Nat} {C : List Int} {v : Int} (hq : q ≤ bs.length) (hq0 : C.length < q) (hS : Sem L 16 C v) : GRb bs g0 0 L 18 (g3 40 0 (ii 1) (ii v) (GH g0 q (-1) 0)) (smG bs mcC acC (pUn bs 6) (cm2 bs 6 q C)) := by
  have e : g3 40 0 (ii 1) (ii v) (GH g0 q (-1) 0) = u_R_condition (g3 39) (ii 1) (ii v) (GH g0 q (-1) 0) := rfl
  rw [e]
  unfold u_R_condition
  have hun : ∀ p, p ≤ bs.length → GRb bs g0 0 L 16 (g3 38 2 (ii 0) (ii 0) (GH g0 p (-1) 0)) (pUn bs 6 p) := fun p hp => (G_g3 X hL 6 0 (by omega)).1 19 p hp _ _
  have hp1 : ∀ p, p ≤ bs.length → GRb bs g0 0 L 17 (g3 39 1 (ii 0) (ii 0) (GH g0 p (-1) 0)) (tmG bs mcC (pUn bs 6) (pUn bs 6 p)) := by
    intro p hp
    have e2 : g3 39 1 (ii 0) (ii 0) (GH g0 p (-1) 0) = u_R_part (g3 38) (ii 0) (ii 0) (GH g0 p (-1) 0) := rfl
    rw [e2]
    exact G_pu X (okA_pUn 6) (K := 16) hun hp
  have hr : okP bs 0 (cm2 bs 6 q C) := okP_mono (okP_cm (p := q - C.length - 1 + 1 - 1) (k := 6) (C := C) (by omega) hq (by omega)) (by omega)
  refine G_co X (okA_pUn 6) (K := 17) hp1 hr ?_ fu_1000
  have e2 : g3 39 1 (ii 1) (ii v) (GH g0 q (-1) 0) = u_R_part (g3 38) (ii 1) (ii v) (GH g0 q (-1) 0) := rfl
  rw [e2]
  unfold u_R_part
  simp only [z0]
  rw [if_neg j10, bind_id]
  exact G_pa X (okA_pUn 6) (K := 16) hun hr (G_cm1 X hL (k := 6) (dp := 0) (by omega) hq hS) fu_1000
end GD
