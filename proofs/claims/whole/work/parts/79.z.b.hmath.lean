/-! a heath's text, as mathematics -/
def upz (H : Nat → Int) (j : Nat) (v : Int) : Nat → Int := fun i => if i = j then v else H i
theorem upz_s {H : Nat → Int} {j : Nat} {v : Int} : upz H j v j = v := by unfold upz; rw [if_pos rfl]
theorem upz_n {H : Nat → Int} {j i : Nat} {v : Int} (h : i ≠ j) : upz H j v i = H i := by unfold upz; rw [if_neg h]
def ciM (κ : Nat) : Nat := if κ = 0 then 8 else κ + 3
def hbM (κ n : Nat) : Nat := if κ = 0 then 0 else if κ = 1 then 10 + 13 * n else if κ = 2 then 70 + 2 * n else if κ = 3 then 90 + 2 * n else 110 + 6 * n
def niM (κ : Nat) : Nat := if κ = 0 then 4 else if κ = 1 then 3 else if κ = 2 then 2 else if κ = 3 then 2 else 6
def cpM (κ : Nat) : Nat := if κ = 0 then 1 else if κ = 1 then 4 else 6
def leM (κ w : Nat) : Int := (am_sta.getD 1 []).getD (6 * κ + w) 0
def moM (κ w : Nat) : Int := (am_sta.getD 2 []).getD (6 * κ + w) 0
def usM (κ w : Nat) : Int := (am_sta.getD 3 []).getD (6 * κ + w) 0
def vld (H : Nat → Int) (κ n : Nat) : Prop := (n : Int) < H (ciM κ) ∨ (κ = 0 ∧ n = 0)
/-- the ranges of all that was read -/
def HP (H : Nat → Int) (m : Nat) : Prop := (∀ κ, κ < 5 → 0 ≤ H (ciM κ) ∧ H (ciM κ) ≤ cpM κ) ∧ (∀ κ n w, κ < 5 → vld H κ n → w < niM κ → leM κ w ≤ H (hbM κ n + w) ∧ H (hbM κ n + w) ≤ moM κ w) ∧ ∀ v, v < m → 0 ≤ H (10 + 13 * v + 3) ∧ H (10 + 13 * v + 3) ≤ 8 ∧ ∀ k : Nat, (k : Int) < H (10 + 13 * v + 3) → 0 ≤ H (10 + 13 * v + 4 + k) ∧ H (10 + 13 * v + 4 + k) ≤ 3
theorem k5 {κ : Nat} (h : κ < 5) : κ = 0 ∨ κ = 1 ∨ κ = 2 ∨ κ = 3 ∨ κ = 4 := by omega
theorem ni_le {κ : Nat} (h : κ < 5) : 2 ≤ niM κ ∧ niM κ ≤ 6 ∧ 1 ≤ cpM κ ∧ cpM κ ≤ 6 := by rcases k5 h with e | e | e | e | e <;> subst e <;> decide
theorem hb_inj {κ κ' n n' w w' : Nat} (h1 : κ < 5) (h2 : κ' < 5) (h3 : n < cpM κ) (h4 : n' < cpM κ') (h5 : w < niM κ) (h6 : w' < niM κ') (e : hbM κ n + w = hbM κ' n' + w') : κ = κ' ∧ n = n' ∧ w = w' := by
  rcases k5 h1 with z | z | z | z | z <;> subst z <;> rcases k5 h2 with z | z | z | z | z <;> subst z <;> simp [hbM, cpM, niM] at * <;> omega
theorem hb_ci {κ κ' n w : Nat} (h1 : κ < 5) (h2 : κ' < 5) (h3 : n < cpM κ) (h5 : w < niM κ) : hbM κ n + w ≠ ciM κ' := by
  rcases k5 h1 with z | z | z | z | z <;> subst z <;> rcases k5 h2 with z | z | z | z | z <;> subst z <;> simp [hbM, cpM, niM, ciM] at * <;> omega
theorem hb_co {κ n w v k : Nat} (h1 : κ < 5) (h3 : n < cpM κ) (h5 : w < niM κ) (hv : v < 4) (hk : k < 10) : hbM κ n + w ≠ 10 + 13 * v + 3 + k := by
  rcases k5 h1 with z | z | z | z | z <;> subst z <;> simp [hbM, cpM, niM] at * <;> omega
theorem ci_inj {κ κ' : Nat} (h1 : κ < 5) (h2 : κ' < 5) (e : ciM κ = ciM κ') : κ = κ' := by
  rcases k5 h1 with z | z | z | z | z <;> subst z <;> rcases k5 h2 with z | z | z | z | z <;> subst z <;> simp [ciM] at *
theorem ci_lo {κ : Nat} (h1 : κ < 5) : 4 ≤ ciM κ ∧ ciM κ ≤ 8 := by rcases k5 h1 with z | z | z | z | z <;> subst z <;> decide
theorem us_ok : ∀ κ : Nat, κ < 5 → ∀ w : Nat, w < niM κ → leM κ w ≤ usM κ w ∧ usM κ w ≤ moM κ w := by decide +kernel
theorem mo_ok : ∀ κ : Nat, κ < 5 → ∀ w : Nat, w < niM κ → 0 ≤ leM κ w ∧ leM κ w ≤ 1 ∧ 1 ≤ moM κ w ∧ moM κ w ≤ 60 := by decide +kernel
theorem sp_ni : ∀ κ : Nat, κ < 5 → stL (κ + 1) = niM κ := by decide +kernel
theorem spi_lo {κ : Nat} (h : κ < 5) (c : Int) : -1 ≤ spM (κ + 1) c ∧ spM (κ + 1) c < niM κ := by
  have := idxF_lo (l := am_str.getD (κ + 1) []) (x := ii c) (stL (κ + 1)) 0
  have h2 := sp_ni κ h
  unfold spM
  omega
theorem sp0_lo (c : Int) : -1 ≤ spM 0 c ∧ spM 0 c < 5 := by
  have h4 : stL 0 = 5 := by decide +kernel
  have := idxF_lo (l := am_str.getD 0 []) (x := ii c) (stL 0) 0
  unfold spM
  omega
def fiU (H : Nat → Int) (κ n : Nat) : Nat → Int := fun j => if hbM κ n ≤ j ∧ j < hbM κ n + niM κ then usM κ (j - hbM κ n) else H j
/-- a number of one or two digits -/
def nm2 (bs : List Int) (a : Nat) : Nat ⊕ (Nat × Int) := if 48 ≤ ch bs a ∧ ch bs a ≤ 57 then (if 48 ≤ ch bs (a + 1) ∧ ch bs (a + 1) ≤ 57 then (if 48 ≤ ch bs (a + 2) ∧ ch bs (a + 2) ≤ 57 then .inl (a + 2) else .inr (a + 2, (ch bs a - 48) * 10 + ch bs (a + 1) - 48)) else .inr (a + 1, ch bs a - 48)) else .inl a
def nmF (bs : List Int) (κ w p : Nat) : Nat ⊕ (Nat × Int) := match nm2 bs (sk bs p) with
  | .inl e => .inl e
  | .inr (q, v) => if leM κ w ≤ v ∧ v ≤ moM κ w then .inr (q, v) else .inl (q - 1)
def un (s : Nat → Bool) : Nat := (if s 0 then 0 else 1) + (if s 1 then 0 else 1) + (if s 2 then 0 else 1) + (if s 3 then 0 else 1) + (if s 4 then 0 else 1) + (if s 5 then 0 else 1)
def ad1 (s : Nat → Bool) (w : Nat) : Nat → Bool := fun i => s i || decide (i = w)
theorem un_ad {s : Nat → Bool} {w : Nat} (hw : w < 6) (h : s w = false) : un (ad1 s w) + 1 = un s := by
  rcases (show w = 0 ∨ w = 1 ∨ w = 2 ∨ w = 3 ∨ w = 4 ∨ w = 5 by omega) with e | e | e | e | e | e <;> subst e <;> simp [un, ad1, h] <;> omega
/-- items, from q on -/
def itF (bs : List Int) (κ n : Nat) : Nat → (Nat → Bool) → Nat → (Nat → Int) → Nat ⊕ (Nat × (Nat → Int))
  | 0, _, _, _ => .inl 0
  | k + 1, s, q, H => if spM (κ + 1) (ch bs (sk bs q)) = -1 then .inr (sk bs q, H) else if s (spM (κ + 1) (ch bs (sk bs q))).toNat then .inl (sk bs q) else match nmF bs κ (spM (κ + 1) (ch bs (sk bs q))).toNat (sk bs q + 1) with
    | .inl e => .inl e
    | .inr (p, v) => itF bs κ n k (ad1 s (spM (κ + 1) (ch bs (sk bs q))).toNat) p (upz H (hbM κ n + (spM (κ + 1) (ch bs (sk bs q))).toNat) v)
def wfi (H : Nat → Int) (v : Nat) (ws : List Nat) : Nat → Int := fun j => if j = 10 + 13 * v + 3 then ws.length else if 10 + 13 * v + 4 ≤ j ∧ j < 10 + 13 * v + 4 + ws.length then ws.getD (j - (10 + 13 * v + 4)) 0 else H j
/-- a vein's course -/
def coF (bs : List Int) (v q : Nat) (H : Nat → Int) : Nat ⊕ (Nat × (Nat → Int)) := if ch bs (sk bs q) = 58 then (match wyF bs 8 (sk bs q + 1) [] with
    | .inl e => .inl e
    | .inr (p, ws) => .inr (p, wfi H v ws)) else .inr (sk bs q, wfi H v [])
/-- the heath with a clause begun -/
def beg (H : Nat → Int) (κ n : Nat) : Nat → Int := fiU (upz H (ciM κ) (n + 1 : Int)) κ n
def clB (bs : List Int) (κ n q : Nat) (H : Nat → Int) : Nat ⊕ (Nat × (Nat → Int)) := match itF bs κ n 7 (fun _ => false) q H with
  | .inl e => .inl e
  | .inr (p, H') => if κ = 1 then coF bs n p H' else .inr (p, H')
/-- a clause -/
def clF (bs : List Int) (q : Nat) (H : Nat → Int) : Nat ⊕ (Nat × (Nat → Int)) := if spM 0 (ch bs (sk bs q)) = -1 then .inl (sk bs q) else if H (ciM (spM 0 (ch bs (sk bs q))).toNat) < cpM (spM 0 (ch bs (sk bs q))).toNat then clB bs (spM 0 (ch bs (sk bs q))).toNat (H (ciM (spM 0 (ch bs (sk bs q))).toNat)).toNat (sk bs q + 1) (beg H (spM 0 (ch bs (sk bs q))).toNat (H (ciM (spM 0 (ch bs (sk bs q))).toNat)).toNat) else .inl (sk bs q)
/-- the clauses -/
def htF (bs : List Int) : Nat → Nat → (Nat → Int) → Nat ⊕ (Nat → Int)
  | 0, _, _ => .inl 0
  | k + 1, q, H => match clF bs q H with
    | .inl e => .inl e
    | .inr (p, H') => if ch bs (sk bs p) = -1 then .inr H' else if ch bs (sk bs p) = 59 then htF bs k (sk bs p + 1) H' else .inl (sk bs p)
section HM
variable {bs : List Int} {H : Nat → Int}
theorem nm2_ok (ok : okB bs) {a : Nat} (ha : a ≤ bs.length) : match nm2 bs a with
    | .inl e => a ≤ e ∧ e ≤ bs.length
    | .inr (q, v) => a < q ∧ q ≤ bs.length ∧ 0 ≤ v ∧ v ≤ 99 := by
  unfold nm2
  by_cases q1 : 48 ≤ ch bs a ∧ ch bs a ≤ 57
  · have h1 : a < bs.length := ch_lt (by omega)
    rw [if_pos q1]
    by_cases q2 : 48 ≤ ch bs (a + 1) ∧ ch bs (a + 1) ≤ 57
    · have h2 : a + 1 < bs.length := ch_lt (by omega)
      rw [if_pos q2]
      by_cases q3 : 48 ≤ ch bs (a + 2) ∧ ch bs (a + 2) ≤ 57
      · rw [if_pos q3]; exact ⟨by omega, by omega⟩
      · rw [if_neg q3]; exact ⟨by omega, by omega, by omega, by omega⟩
    · rw [if_neg q2]; exact ⟨by omega, by omega, by omega, by omega⟩
  · rw [if_neg q1]; exact ⟨Nat.le_refl _, ha⟩
theorem nmF_ok (ok : okB bs) {κ w p : Nat} (hp : p ≤ bs.length) : match nmF bs κ w p with
    | .inl e => e ≤ bs.length
    | .inr (q, v) => p < q ∧ q ≤ bs.length ∧ leM κ w ≤ v ∧ v ≤ moM κ w := by
  have hk := sk_lo hp
  have := nm2_ok ok hk.2
  unfold nmF
  generalize nm2 bs (sk bs p) = r at *
  rcases r with e | ⟨q, v⟩
  · exact this.2
  · simp only at this ⊢
    by_cases z : leM κ w ≤ v ∧ v ≤ moM κ w
    · rw [if_pos z]; exact ⟨by omega, this.2.1, z.1, z.2⟩
    · rw [if_neg z]; show q - 1 ≤ _; omega
theorem vld_lt {m : Nat} (h : HP H m) {κ n : Nat} (hk : κ < 5) (v : vld H κ n) : n < cpM κ := by
  have := h.1 κ hk
  rcases v with z | ⟨z, z2⟩
  · omega
  · subst z; subst z2; decide
theorem HP.up {m κ n w : Nat} {v : Int} (h : HP H m) (hm : m ≤ 4) (hk : κ < 5) (hv : vld H κ n) (hw : w < niM κ) (v0 : leM κ w ≤ v) (v1 : v ≤ moM κ w) : HP (upz H (hbM κ n + w) v) m := by
  have hn := vld_lt h hk hv
  have hc : ∀ κ', κ' < 5 → upz H (hbM κ n + w) v (ciM κ') = H (ciM κ') := fun κ' h' => upz_n (Ne.symm (hb_ci hk h' hn hw))
  refine ⟨fun κ' h' => by rw [hc κ' h']; exact h.1 κ' h', fun κ' n' w' h1 h2 h3 => ?_, fun u hu => ?_⟩
  · have h2' : vld H κ' n' := by unfold vld at h2 ⊢; rw [hc κ' h1] at h2; exact h2
    have hn' := vld_lt h h1 h2'
    by_cases e : hbM κ' n' + w' = hbM κ n + w
    · obtain ⟨e1, e2, e3⟩ := hb_inj h1 hk hn' hn h3 hw e
      subst e1; subst e2; subst e3
      rw [upz_s]; exact ⟨v0, v1⟩
    · rw [upz_n e]; exact h.2.1 κ' n' w' h1 h2' h3
  · have hc3 : ∀ k, k < 10 → upz H (hbM κ n + w) v (10 + 13 * u + 3 + k) = H (10 + 13 * u + 3 + k) := fun k hk' => upz_n (Ne.symm (hb_co hk hn hw (by omega) hk'))
    have := h.2.2 u hu
    have e0 := hc3 0 (by omega)
    rw [Nat.add_zero] at e0
    rw [e0]
    refine ⟨this.1, this.2.1, fun k hk' => ?_⟩
    rw [show 10 + 13 * u + 4 + k = 10 + 13 * u + 3 + (k + 1) by omega, hc3 (k + 1) (by omega), show 10 + 13 * u + 3 + (k + 1) = 10 + 13 * u + 4 + k by omega]
    exact this.2.2 k hk'
theorem upz_vld {κ n κ' n' w : Nat} {v : Int} (hk : κ < 5) (hk' : κ' < 5) (hn : n < cpM κ) (hw : w < niM κ) : vld (upz H (hbM κ n + w) v) κ' n' ↔ vld H κ' n' := by unfold vld; rw [upz_n (Ne.symm (hb_ci hk hk' hn hw))]
theorem itF_ok (ok : okB bs) {κ n m : Nat} (hm : m ≤ 4) (hk : κ < 5) : ∀ (k : Nat) (s : Nat → Bool) (q : Nat) (H : Nat → Int), q ≤ bs.length → un s < k → HP H m → vld H κ n → match itF bs κ n k s q H with
    | .inl e => e ≤ bs.length
    | .inr (p, H') => q ≤ p ∧ p ≤ bs.length ∧ sk bs p = p ∧ HP H' m ∧ (∀ κ', κ' < 5 → H' (ciM κ') = H (ciM κ')) ∧ ∀ j, (j < hbM κ n ∨ hbM κ n + niM κ ≤ j) → H' j = H j
  | 0, s, q, H, hq, hu, hp, hv => by omega
  | k + 1, s, q, H, hq, hu, hp, hv => by
    have hs := sk_lo hq
    have hl := spi_lo hk (ch bs (sk bs q))
    have hn6 := ni_le hk
    have hn := vld_lt hp hk hv
    unfold itF
    by_cases q1 : spM (κ + 1) (ch bs (sk bs q)) = -1
    · rw [if_pos q1]
      exact ⟨hs.1, hs.2, sk_sk q, hp, fun _ _ => rfl, fun _ _ => rfl⟩
    · rw [if_neg q1]
      have hne : ch bs (sk bs q) ≠ -1 := fun z => q1 (by rw [z]; exact sp_m1 _ (by omega))
      have hlt := ch_lt hne
      obtain ⟨w, hw⟩ := Int.eq_ofNat_of_zero_le (show 0 ≤ spM (κ + 1) (ch bs (sk bs q)) by omega)
      rw [hw] at hl ⊢
      rw [Int.toNat_natCast]
      by_cases q2 : s w = true
      · rw [if_pos q2]; exact hs.2
      · rw [if_neg q2]
        have q2' : s w = false := Bool.eq_false_iff.mpr q2
        have hnm := nmF_ok ok (κ := κ) (w := w) (p := sk bs q + 1) (by omega)
        generalize nmF bs κ w (sk bs q + 1) = r at *
        rcases r with e | ⟨p, v⟩
        · exact hnm
        · simp only at hnm ⊢
          have hu' := un_ad (s := s) (w := w) (by omega) q2'
          have hwn : w < niM κ := by omega
          have ih := itF_ok ok hm hk k (ad1 s w) p (upz H (hbM κ n + w) v) hnm.2.1 (by omega) (hp.up hm hk hv hwn hnm.2.2.1 hnm.2.2.2) ((upz_vld hk hk hn hwn).mpr hv)
          generalize itF bs κ n k (ad1 s w) p (upz H (hbM κ n + w) v) = r2 at *
          rcases r2 with e | ⟨p2, H2⟩
          · exact ih
          · simp only at ih ⊢
            obtain ⟨i1, i2, i3, i4, i5, i6⟩ := ih
            exact ⟨by omega, i2, i3, i4, fun κ' h' => by rw [i5 κ' h', upz_n (Ne.symm (hb_ci hk h' hn hwn))], fun j hj => by rw [i6 j hj, upz_n (by omega)]⟩
end HM
