/-! the class settles a heath: veins -/
section HV
variable {H : Nat → Int} {o : Nat} {h : AH}
def cbM (a b : Int) : Int := if b ≠ -1 ∧ (a = -1 ∨ b < a) then b else a
def vP (H : Nat → Int) (v : Nat) (c : Int) : Nat → Int
  | 0 => if vc H v 0 = c then H (10 + 13 * v + 1) else -1
  | k + 1 => if vP H v c k ≠ -1 then vP H v c k else if vc H v (k + 1) = c then H (10 + 13 * v + 1) + (k + 1 : Nat) * H (10 + 13 * v + 2) else -1
theorem vP_lo {v : Nat} {c : Int} (d0 : 1 ≤ H (10 + 13 * v + 1)) (f0 : 0 ≤ H (10 + 13 * v + 2)) : ∀ k : Nat, vP H v c k = -1 ∨ (1 ≤ vP H v c k ∧ vP H v c k ≤ H (10 + 13 * v + 1) + k * H (10 + 13 * v + 2))
  | 0 => by
    unfold vP
    split
    · right; rw [show ((0 : Nat) : Int) * H (10 + 13 * v + 2) = 0 by simp]; omega
    · left; rfl
  | k + 1 => by
    have ih := vP_lo (c := c) d0 f0 k
    have e1 : ((k + 1 : Nat) : Int) * H (10 + 13 * v + 2) = k * H (10 + 13 * v + 2) + H (10 + 13 * v + 2) := by rw [show ((k + 1 : Nat) : Int) = (k : Int) + 1 by omega, Int.add_mul, Int.one_mul]
    have e0 : 0 ≤ (k : Int) * H (10 + 13 * v + 2) := Int.mul_nonneg (by omega) f0
    unfold vP
    split
    · right; omega
    · split
      · right; omega
      · left; rfl
theorem vAtF_P {v : Nat} {c : Int} (d0 : 1 ≤ H (10 + 13 * v + 1)) (f0 : 0 ≤ H (10 + 13 * v + 2)) : ∀ (n k : Nat), (∀ j, j < k → vc H v j ≠ c) → vAtF H v c n k = vP H v c (k + n) ∧ (k = 0 ∨ vP H v c (k - 1) = -1) := by
  have pre : ∀ k : Nat, (∀ j, j ≤ k → vc H v j ≠ c) → vP H v c k = -1 := by
    intro k
    induction k with
    | zero => intro hj; unfold vP; rw [if_neg (hj 0 (Nat.le_refl _))]
    | succ k ih =>
      intro hj
      unfold vP
      rw [ih (fun j hj' => hj j (by omega)), if_neg (by simp), if_neg (hj (k + 1) (Nat.le_refl _))]
  have keep : ∀ (n k : Nat), vP H v c k ≠ -1 → vP H v c (k + n) = vP H v c k := by
    intro n
    induction n with
    | zero => intro k _; rfl
    | succ n ih =>
      intro k hk
      have := ih k hk
      show vP H v c (k + n + 1) = _
      rw [vP, this, if_pos hk]
  have hit : ∀ k : Nat, (∀ j, j < k → vc H v j ≠ c) → vc H v k = c → vP H v c k = H (10 + 13 * v + 1) + k * H (10 + 13 * v + 2) := by
    intro k hj hc
    cases k with
    | zero => unfold vP; rw [if_pos hc]; simp
    | succ k => unfold vP; rw [pre k (fun j hj' => hj j (by omega)), if_neg (by simp), if_pos hc]
  intro n
  induction n with
  | zero =>
    intro k hj
    refine ⟨?_, ?_⟩
    · show vAtF H v c 0 k = vP H v c k
      unfold vAtF
      by_cases q : vc H v k = c
      · rw [if_pos q, hit k hj q]
      · rw [if_neg q, pre k (fun j hj' => by
          by_cases e : j = k
          · rw [e]; exact q
          · exact hj j (by omega))]
    · by_cases e : k = 0
      · exact Or.inl e
      · exact Or.inr (pre (k - 1) (fun j hj' => hj j (by omega)))
  | succ n ih =>
    intro k hj
    refine ⟨?_, ?_⟩
    · unfold vAtF
      by_cases q : vc H v k = c
      · have e := hit k hj q
        have e0 : 0 ≤ (k : Int) * H (10 + 13 * v + 2) := Int.mul_nonneg (by omega) f0
        rw [if_pos q, keep (n + 1) k (by omega), e]
      · rw [if_neg q, (ih (k + 1) (fun j hj' => by
          by_cases e : j = k
          · rw [e]; exact q
          · exact hj j (by omega))).1]
        congr 1
        omega
    · by_cases e : k = 0
      · exact Or.inl e
      · exact Or.inr (pre (k - 1) (fun j hj' => hj j (by omega)))
theorem vAt_P {v : Nat} {c : Int} (d0 : 1 ≤ H (10 + 13 * v + 1)) (f0 : 0 ≤ H (10 + 13 * v + 2)) : vAt H v c = vP H v c (H (10 + 13 * v + 3)).toNat := by
  have := (vAtF_P (c := c) d0 f0 (H (10 + 13 * v + 3)).toNat 0 (fun j hj => by omega)).1
  rw [Nat.zero_add] at this
  exact this
theorem dmin_cm (c : Int) (v : Nat) : dmin H c (v + 1) = cbM (dmin H c v) (vAt H v c) := rfl
/-- the class's spare heath, with v veins, i irons, r rocks settled; the depths as D tells -/
def CHd (H : Nat → Int) (D : Nat → Int) (v i r : Nat) (o : Nat) (h : AH) : Prop := (h.1 o 5 = ii (H 0) ∧ h.1 o 6 = ii (H 1) ∧ h.1 o 7 = ii (H 2) ∧ h.1 o 8 = ii (H 3) ∧ h.1 o 9 = ii (cellsM H) ∧ h.1 o 11 = ii v) ∧ (∀ c : Nat, (c : Int) < cellsM H → h.1 (o + 1) c = ii (D c) ∧ h.1 (o + 2) c = ii (thM H 70 c (-1) i 0) ∧ h.1 (o + 3) c = ii (thM H 90 c 0 r 0) ∧ h.1 (o + 4) c = besM H c) ∧ ∀ c : Nat, c < 32 → (tb (h.1 o 12) c = true ↔ ((c : Int) < cellsM H ∧ 1 ≤ vcnt H c v)) ∧ (tb (h.1 o 13) c = true ↔ ((c : Int) < cellsM H ∧ 2 ≤ vcnt H c v))
theorem C_moi {D : Nat → Int} {v i r : Nat} (hcl : 1 ≤ cellsM H ∧ cellsM H ≤ 30) (C : CHd H D v i r o h) (hD : ∀ c, -1 ≤ D c ∧ D c ≤ 1000) {u : Nat} (hu : (u : Int) < cellsM H) {e : Int} (e0 : 0 ≤ e) (e1 : e ≤ 1000) : ∃ h1, f_Heath_moisten o (ii u) (ii e) h = some h1 ∧ SF o h h1 ∧ CHd H (fun c => if c = u ∧ (D c = -1 ∨ e < D c) then e else D c) v i r o h1 := by
  obtain ⟨c1, c2, c3⟩ := id C
  have ec := C_cell hcl c1.2.2.2.2.1 (c := (u : Int)) (by omega) (by omega)
  rw [if_pos (show 0 ≤ (u : Int) ∧ (u : Int) < cellsM H from ⟨by omega, hu⟩)] at ec
  have eu := (c2 u hu).1
  have hDu := hD u
  have iu : inb (ii (u : Int)) 30 = true := by rw [ii_inb (by omega) (by omega)]; simp; omega
  have nu : (ii (u : Int)).toNatClampNeg = u := by rw [ii_nat (by omega) (by omega), Int.toNat_natCast]
  have wr : CHd H (fun c => if c = u then e else D c) v i r o (wI h (o + 1) u (ii e)) := by
    refine ⟨by rw [wI_ne (by omega)]; exact c1, fun c hc => ?_, by rw [wI_ne (by omega)]; exact c3⟩
    rw [wI_self, wI_ne (by omega), wI_ne (by omega), wI_ne (by omega)]
    by_cases q : c = u
    · simp only [q, if_true]; rw [upd_self]; rw [q] at hc; exact ⟨rfl, (c2 u hc).2⟩
    · simp only [q, if_false]; rw [upd_ne q]; exact c2 c hc
  unfold f_Heath_moisten
  rw [ec, if_neg i10, if_pos iu, nu, eu]
  by_cases q1 : D u = -1
  · rw [if_pos (by rw [q1]), if_pos iu]
    refine ⟨_, rfl, SF.w (by omega), ?_⟩
    rw [show (fun c => if c = u ∧ (D c = -1 ∨ e < D c) then e else D c) = (fun c => if c = u then e else D c) from funext (fun c => by
      by_cases q : c = u
      · rw [if_pos ⟨q, Or.inl (by rw [q]; exact q1)⟩, if_pos q]
      · rw [if_neg (fun z => q z.1), if_neg q])]
    exact wr
  · rw [if_neg (by rw [ii_eq (by omega) (by omega) (by omega) (by omega)]; exact q1), if_pos iu]
    by_cases q2 : e < D u
    · rw [if_neg (by rw [ii_le (by omega) (by omega) (by omega) (by omega)]; omega), if_pos iu]
      refine ⟨_, rfl, SF.w (by omega), ?_⟩
      rw [show (fun c => if c = u ∧ (D c = -1 ∨ e < D c) then e else D c) = (fun c => if c = u then e else D c) from funext (fun c => by
        by_cases q : c = u
        · rw [if_pos ⟨q, Or.inr (by rw [q]; exact q2)⟩, if_pos q]
        · rw [if_neg (fun z => q z.1), if_neg q])]
      exact wr
    · rw [if_pos (by rw [ii_le (by omega) (by omega) (by omega) (by omega)]; omega)]
      refine ⟨_, rfl, SF.rf _ _, ?_⟩
      rw [show (fun c => if c = u ∧ (D c = -1 ∨ e < D c) then e else D c) = D from funext (fun c => by
        by_cases q : c = u
        · subst q; rw [if_neg (fun z => by rcases z.2 with y | y; exact q1 y; exact q2 y)]
        · rw [if_neg (fun z => q z.1)])]
      exact C
theorem cm_step {a p x e : Int} (he : e ≠ -1) (hp : p = -1 ∨ p ≤ e) (ha : a = -1 ∨ 0 ≤ a) (hp0 : p = -1 ∨ 0 ≤ p) (hx : x = if p ≠ -1 then p else e) : (if cbM a p = -1 ∨ e < cbM a p then e else cbM a p) = cbM a x := by
  rw [hx]
  unfold cbM
  split <;> split <;> (try split) <;> (try split) <;> (try split) <;> omega
def WhV (H : Nat → Int) (v : Nat) : Prop := H (10 + 13 * v) < cellsM H ∧ ∀ k : Nat, (k : Int) ≤ H (10 + 13 * v + 3) → vc H v k ≠ -1
theorem C_adv {D : Nat → Int} {v i r : Nat} (C : CHd H D v i r o h) {x : Int32} (hx : ∀ c : Nat, c < 32 → (tb x c = true ↔ ((c : Int) < cellsM H ∧ vAt H v c ≠ -1))) : ∃ h1, f_Heath_addVein o x h = some h1 ∧ SF o h h1 ∧ CHd H D (v + 1) i r o h1 := by
  obtain ⟨c1, c2, c3⟩ := C
  obtain ⟨h1, eh1⟩ : ∃ h1, h1 = wI (wI (wI h o 13 ((h.1 o 13) ||| ((h.1 o 12) &&& x))) o 12 (h.1 o 12 ||| x)) o 11 (ii (v + 1 : Nat)) := ⟨_, rfl⟩
  have r12 : h1.1 o 12 = h.1 o 12 ||| x := by rw [eh1, wI_self, upd_ne (by decide), wI_self, upd_self]
  have r13 : h1.1 o 13 = h.1 o 13 ||| (h.1 o 12 &&& x) := by rw [eh1, wI_self, upd_ne (by decide), wI_self, upd_ne (by decide), wI_self, upd_self]
  have r11 : h1.1 o 11 = ii (v + 1 : Nat) := by rw [eh1, wI_self, upd_self]
  have rj : ∀ j, j ≠ 11 → j ≠ 12 → j ≠ 13 → h1.1 o j = h.1 o j := fun j a b c => by rw [eh1, wI_self, upd_ne a, wI_self, upd_ne b, wI_self, upd_ne c]
  have rx : ∀ y, y ≠ o → h1.1 y = h.1 y := fun y hy => by rw [eh1, wI_ne hy, wI_ne hy, wI_ne hy]
  refine ⟨h1, ?_, ?_, ⟨?_, fun c hc => ?_, fun c hc => ?_⟩⟩
  · unfold f_Heath_addVein
    rw [eh1, show (wI h o 13 ((h.1 o 13) ||| ((h.1 o 12) &&& x))).1 o 12 = h.1 o 12 by rw [wI_self, upd_ne (by decide)], show (wI (wI h o 13 ((h.1 o 13) ||| ((h.1 o 12) &&& x))) o 12 (h.1 o 12 ||| x)).1 o 11 = ii v by rw [wI_self, upd_ne (by decide), wI_self, upd_ne (by decide)]; exact c1.2.2.2.2.2, ii_sc]
  · rw [eh1]; exact ((SF.w (by omega)).tr (SF.w (by omega))).tr (SF.w (by omega))
  · rw [rj 5 (by decide) (by decide) (by decide), rj 6 (by decide) (by decide) (by decide), rj 7 (by decide) (by decide) (by decide), rj 8 (by decide) (by decide) (by decide), rj 9 (by decide) (by decide) (by decide)]
    exact ⟨c1.1, c1.2.1, c1.2.2.1, c1.2.2.2.1, c1.2.2.2.2.1, r11⟩
  · rw [rx _ (by omega), rx _ (by omega), rx _ (by omega), rx _ (by omega)]; exact c2 c hc
  · rw [r12, r13, tb_or, tb_or, tb_and, Bool.or_eq_true, Bool.or_eq_true, Bool.and_eq_true, (c3 c hc).1, (c3 c hc).2, hx c hc]
    have ev : vcnt H c (v + 1) = vcnt H c v + (if vAt H v c = -1 then 0 else 1) := rfl
    rw [ev]
    by_cases q : vAt H v c = -1
    · rw [if_pos q]; simp only [q]
      constructor
      · constructor
        · rintro (z | z)
          · exact ⟨z.1, by omega⟩
          · exact absurd rfl z.2
        · intro z; left; exact ⟨z.1, by omega⟩
      · constructor
        · rintro (z | z)
          · exact ⟨z.1, by omega⟩
          · exact absurd rfl z.2.2
        · intro z; left; exact ⟨z.1, by omega⟩
    · rw [if_neg q]
      constructor
      · constructor
        · rintro (z | z)
          · exact ⟨z.1, by omega⟩
          · exact ⟨z.1, by omega⟩
        · intro z; right; exact ⟨z.1, q⟩
      · constructor
        · rintro (z | z)
          · exact ⟨z.1, by omega⟩
          · exact ⟨z.1.1, by omega⟩
        · intro z
          right
          exact ⟨⟨z.1, by omega⟩, z.1, q⟩
end HV
