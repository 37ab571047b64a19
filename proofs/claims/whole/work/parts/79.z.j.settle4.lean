/-! the class settles a heath: irons, rocks, forks -/
section HJ
variable {H : Nat → Int} {o : Nat} {h : AH}
def WhT (H : Nat → Int) (b n : Nat) : Prop := ∀ i, i < n → H (b + 2 * i) < cellsM H ∧ ∀ j, j < i → H (b + 2 * j) ≠ H (b + 2 * i)
/-- the heath is whole -/
def Wh (H : Nat → Int) : Prop := 1 ≤ H 7 ∧ (∀ v : Nat, (v : Int) < H 4 → WhV H v) ∧ WhT H 70 (H 5).toNat ∧ WhT H 90 (H 6).toNat ∧ ∀ f : Nat, (f : Int) < H 7 → fkM H f 0 < cellsM H
theorem th_e {b : Nat} {c nn : Int} (n k : Nat) : thM H b c nn (n + 1) k = if H (b + 2 * k) = c then H (b + 2 * k + 1) else thM H b c nn n (k + 1) := rfl
theorem th_s {b : Nat} {c nn : Int} : ∀ (n k : Nat), (∀ j, j ≤ k + n → H (b + 2 * j + 1) ≠ nn) → thM H b c nn (n + 1) k = if thM H b c nn n k = nn ∧ H (b + 2 * (k + n)) = c then H (b + 2 * (k + n) + 1) else thM H b c nn n k
  | 0, k, hv => by
    have e0 : thM H b c nn 0 k = nn := rfl
    have e1 : thM H b c nn 0 (k + 1) = nn := rfl
    rw [th_e, e0, e1, Nat.add_zero k]
    by_cases q : H (b + 2 * k) = c
    · rw [if_pos q, if_pos ⟨rfl, q⟩]
    · rw [if_neg q, if_neg (fun z => q z.2)]
  | n + 1, k, hv => by
    have ih := th_s (b := b) (c := c) (nn := nn) n (k + 1) (fun j hj => hv j (by omega))
    rw [th_e (n + 1) k, th_e n k]
    by_cases q : H (b + 2 * k) = c
    · rw [if_pos q, if_pos q, if_neg (fun z => hv k (by omega) z.1)]
    · rw [if_neg q, if_neg q, ih, show k + 1 + n = k + (n + 1) by omega]
theorem th_no {b : Nat} {c nn : Int} : ∀ (n k : Nat), (∀ j, j < k + n → H (b + 2 * j + 1) ≠ nn) → (thM H b c nn n k = nn ↔ ∀ j, k ≤ j → j < k + n → H (b + 2 * j) ≠ c)
  | 0, k, hv => ⟨fun _ j h1 h2 => by omega, fun _ => rfl⟩
  | n + 1, k, hv => by
    have ih := th_no (b := b) (c := c) (nn := nn) n (k + 1) (fun j hj => hv j (by omega))
    show (if H (b + 2 * k) = c then H (b + 2 * k + 1) else thM H b c nn n (k + 1)) = nn ↔ _
    by_cases q : H (b + 2 * k) = c
    · rw [if_pos q]
      exact ⟨fun z => absurd z (hv k (by omega)), fun z => absurd q (z k (Nat.le_refl _) (by omega))⟩
    · rw [if_neg q, ih]
      exact ⟨fun z j h1 h2 => by
        by_cases e : j = k
        · rw [e]; exact q
        · exact z j (by omega) (by omega), fun z j h1 h2 => z j (by omega) (by omega)⟩
theorem C_irn {D : Nat → Int} {v i r : Nat} (hcl : 1 ≤ cellsM H ∧ cellsM H ≤ 30) (C : CHd H D v i r o h) (hv : ∀ j, j ≤ i → 1 ≤ H (70 + 2 * j + 1) ∧ H (70 + 2 * j + 1) ≤ 9) (h0 : 0 ≤ H (70 + 2 * i)) (h29 : H (70 + 2 * i) ≤ 29) : (H (70 + 2 * i) < cellsM H ∧ (∀ j, j < i → H (70 + 2 * j) ≠ H (70 + 2 * i)) ∧ ∃ h1, f_Heath_addIron o (ii (H (70 + 2 * i))) (ii (H (70 + 2 * i + 1))) h = some (ii 1, h1) ∧ SF o h h1 ∧ CHd H D v (i + 1) r o h1) ∨ (¬ (H (70 + 2 * i) < cellsM H ∧ ∀ j, j < i → H (70 + 2 * j) ≠ H (70 + 2 * i)) ∧ f_Heath_addIron o (ii (H (70 + 2 * i))) (ii (H (70 + 2 * i + 1))) h = some (ii 0, h)) := by
  obtain ⟨c1, c2, c3⟩ := id C
  have ec := C_cell hcl c1.2.2.2.2.1 (c := H (70 + 2 * i)) (by omega) (by omega)
  have hne : ∀ j, j ≤ 0 + i → H (70 + 2 * j + 1) ≠ -1 := fun j hj => by have := hv j (by omega); omega
  unfold f_Heath_addIron
  rw [ec]
  by_cases q1 : H (70 + 2 * i) < cellsM H
  · rw [if_pos (show 0 ≤ H (70 + 2 * i) ∧ H (70 + 2 * i) < cellsM H from ⟨h0, q1⟩), if_neg i10]
    obtain ⟨u, hu⟩ := Int.eq_ofNat_of_zero_le h0
    have iu : inb (ii (u : Int)) 30 = true := by rw [ii_inb (by omega) (by omega)]; simp; omega
    have nu : (ii (u : Int)).toNatClampNeg = u := by rw [ii_nat (by omega) (by omega), Int.toNat_natCast]
    have huc : (u : Int) < cellsM H := by omega
    have e2 := (c2 u huc).2.1
    have no := th_no (H := H) (b := 70) (c := u) (nn := -1) i 0 (fun j hj => hne j (by omega))
    have rg : -1 ≤ thM H 70 u (-1) i 0 ∧ thM H 70 u (-1) i 0 ≤ 9 := by
      have gen : ∀ n k, k + n ≤ i → -1 ≤ thM H 70 u (-1) n k ∧ thM H 70 u (-1) n k ≤ 9 := by
        intro n
        induction n with
        | zero => intro k _; exact ⟨Int.le_refl _, (by decide : (-1 : Int) ≤ 9)⟩
        | succ n ih =>
          intro k hk
          show -1 ≤ (if H (70 + 2 * k) = u then H (70 + 2 * k + 1) else thM H 70 u (-1) n (k + 1)) ∧ (if H (70 + 2 * k) = u then H (70 + 2 * k + 1) else thM H 70 u (-1) n (k + 1)) ≤ 9
          have a := hv k (by omega)
          have b := ih (k + 1) (by omega)
          split <;> omega
      exact gen i 0 (by omega)
    rw [hu, if_pos iu, nu, e2]
    by_cases q2 : thM H 70 u (-1) i 0 = -1
    · left
      rw [q2, if_pos rfl, if_pos iu]
      refine ⟨huc, fun j hj => no.mp q2 j (by omega) (by omega), _, rfl, SF.w (by omega), ⟨by rw [wI_ne (by omega)]; exact c1, fun c hc => ?_, by rw [wI_ne (by omega)]; exact c3⟩⟩
      rw [wI_ne (by omega), wI_self, wI_ne (by omega), wI_ne (by omega), th_s i 0 hne, Nat.zero_add]
      by_cases z : c = u
      · rw [z, upd_self, if_pos ⟨q2, hu⟩]
        have := c2 u huc
        exact ⟨this.1, rfl, this.2.2⟩
      · rw [upd_ne z, if_neg (fun y => z (by have := y.2; omega))]; exact c2 c hc
    · right
      rw [if_neg (by rw [ii_eq (by omega) (by omega) (by omega) (by omega)]; exact q2)]
      exact ⟨fun z => q2 (no.mpr (fun j _ hj => z.2 j (by omega))), rfl⟩
  · right
    rw [if_neg (show ¬ (0 ≤ H (70 + 2 * i) ∧ H (70 + 2 * i) < cellsM H) from fun z => q1 z.2), if_pos i00]
    exact ⟨fun z => q1 z.1, rfl⟩
theorem C_rck {D : Nat → Int} {v i r : Nat} (hcl : 1 ≤ cellsM H ∧ cellsM H ≤ 30) (C : CHd H D v i r o h) (hv : ∀ j, j ≤ r → 1 ≤ H (90 + 2 * j + 1) ∧ H (90 + 2 * j + 1) ≤ 9) (h0 : 0 ≤ H (90 + 2 * r)) (h29 : H (90 + 2 * r) ≤ 29) : (H (90 + 2 * r) < cellsM H ∧ (∀ j, j < r → H (90 + 2 * j) ≠ H (90 + 2 * r)) ∧ ∃ h1, f_Heath_addRock o (ii (H (90 + 2 * r))) (ii (H (90 + 2 * r + 1))) h = some (ii 1, h1) ∧ SF o h h1 ∧ CHd H D v i (r + 1) o h1) ∨ (¬ (H (90 + 2 * r) < cellsM H ∧ ∀ j, j < r → H (90 + 2 * j) ≠ H (90 + 2 * r)) ∧ f_Heath_addRock o (ii (H (90 + 2 * r))) (ii (H (90 + 2 * r + 1))) h = some (ii 0, h)) := by
  obtain ⟨c1, c2, c3⟩ := id C
  have ec := C_cell hcl c1.2.2.2.2.1 (c := H (90 + 2 * r)) (by omega) (by omega)
  have hne : ∀ j, j ≤ 0 + r → H (90 + 2 * j + 1) ≠ 0 := fun j hj => by have := hv j (by omega); omega
  unfold f_Heath_addRock
  rw [ec]
  by_cases q1 : H (90 + 2 * r) < cellsM H
  · rw [if_pos (show 0 ≤ H (90 + 2 * r) ∧ H (90 + 2 * r) < cellsM H from ⟨h0, q1⟩), if_neg i10]
    obtain ⟨u, hu⟩ := Int.eq_ofNat_of_zero_le h0
    have iu : inb (ii (u : Int)) 30 = true := by rw [ii_inb (by omega) (by omega)]; simp; omega
    have nu : (ii (u : Int)).toNatClampNeg = u := by rw [ii_nat (by omega) (by omega), Int.toNat_natCast]
    have huc : (u : Int) < cellsM H := by omega
    have e2 := (c2 u huc).2.2.1
    have no := th_no (H := H) (b := 90) (c := u) (nn := 0) r 0 (fun j hj => hne j (by omega))
    have rg : 0 ≤ thM H 90 u 0 r 0 ∧ thM H 90 u 0 r 0 ≤ 9 := by
      have gen : ∀ n k, k + n ≤ r → 0 ≤ thM H 90 u 0 n k ∧ thM H 90 u 0 n k ≤ 9 := by
        intro n
        induction n with
        | zero => intro k _; exact ⟨Int.le_refl _, (by decide : (0 : Int) ≤ 9)⟩
        | succ n ih =>
          intro k hk
          show 0 ≤ (if H (90 + 2 * k) = u then H (90 + 2 * k + 1) else thM H 90 u 0 n (k + 1)) ∧ (if H (90 + 2 * k) = u then H (90 + 2 * k + 1) else thM H 90 u 0 n (k + 1)) ≤ 9
          have a := hv k (by omega)
          have b := ih (k + 1) (by omega)
          split <;> omega
      exact gen r 0 (by omega)
    rw [hu, if_pos iu, nu, e2]
    by_cases q2 : thM H 90 u 0 r 0 = 0
    · left
      rw [q2, if_pos i00, if_pos iu]
      refine ⟨huc, fun j hj => no.mp q2 j (by omega) (by omega), _, rfl, SF.w (by omega), ⟨by rw [wI_ne (by omega)]; exact c1, fun c hc => ?_, by rw [wI_ne (by omega)]; exact c3⟩⟩
      rw [wI_ne (by omega), wI_ne (by omega), wI_self, wI_ne (by omega), th_s r 0 hne, Nat.zero_add]
      by_cases z : c = u
      · rw [z, upd_self, if_pos ⟨q2, hu⟩]
        have := c2 u huc
        exact ⟨this.1, this.2.1, rfl, this.2.2.2⟩
      · rw [upd_ne z, if_neg (fun y => z (by have := y.2; omega))]; exact c2 c hc
    · right
      rw [if_neg (by rw [z0, ii_eq (by omega) (by omega) (by omega) (by omega)]; exact q2)]
      exact ⟨fun z => q2 (no.mpr (fun j _ hj => z.2 j (by omega))), rfl⟩
  · right
    rw [if_neg (show ¬ (0 ≤ H (90 + 2 * r) ∧ H (90 + 2 * r) < cellsM H) from fun z => q1 z.2), if_pos i00]
    exact ⟨fun z => q1 z.1, rfl⟩
end HJ
