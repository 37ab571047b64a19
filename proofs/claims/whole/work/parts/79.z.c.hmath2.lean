/-! a heath's text: the ranges hold -/
section HN
variable {bs : List Int} {H : Nat → Int}
theorem fi_in {κ n w : Nat} (hw : w < niM κ) : fiU H κ n (hbM κ n + w) = usM κ w := by unfold fiU; rw [if_pos (by omega), show hbM κ n + w - hbM κ n = w by omega]
theorem fi_out {κ n j : Nat} (hj : j < hbM κ n ∨ hbM κ n + niM κ ≤ j) : fiU H κ n j = H j := by unfold fiU; rw [if_neg (by omega)]
theorem fi_ci {κ κ' n : Nat} (h1 : κ < 5) (h2 : κ' < 5) (h3 : n < cpM κ) : fiU H κ n (ciM κ') = H (ciM κ') := by
  unfold fiU
  rw [if_neg]
  intro z
  exact hb_ci (w := ciM κ' - hbM κ n) h1 h2 h3 (by omega) (by omega)
theorem fi_co {κ n v k : Nat} (h1 : κ < 5) (h3 : n < cpM κ) (hv : v < 4) (hk : k < 10) : fiU H κ n (10 + 13 * v + 3 + k) = H (10 + 13 * v + 3 + k) := by
  unfold fiU
  rw [if_neg]
  intro z
  exact hb_co (w := 10 + 13 * v + 3 + k - hbM κ n) (v := v) (k := k) h1 h3 (by omega) hv hk (by omega)
theorem fi_ne {κ κ' n n' w' : Nat} (h1 : κ < 5) (h2 : κ' < 5) (h3 : n < cpM κ) (h4 : n' < cpM κ') (h6 : w' < niM κ') (hne : ¬ (κ = κ' ∧ n = n')) : fiU H κ n (hbM κ' n' + w') = H (hbM κ' n' + w') := by
  unfold fiU
  rw [if_neg]
  intro z
  have := hb_inj (w := hbM κ' n' + w' - hbM κ n) h1 h2 h3 h4 (by omega) h6 (by omega)
  exact hne ⟨this.1, this.2.1⟩
theorem beg_ci {κ κ' n : Nat} (h1 : κ < 5) (h2 : κ' < 5) (h3 : n < cpM κ) : beg H κ n (ciM κ') = if κ' = κ then (n : Int) + 1 else H (ciM κ') := by
  unfold beg
  rw [fi_ci h1 h2 h3]
  by_cases e : κ' = κ
  · rw [if_pos e, e, upz_s]
  · rw [if_neg e, upz_n (fun z => e (ci_inj h2 h1 z))]
theorem beg_vld {κ κ' n n' : Nat} (h1 : κ < 5) (h2 : κ' < 5) (h3 : n < cpM κ) (e : H (ciM κ) = n) : vld (beg H κ n) κ' n' ↔ (vld H κ' n' ∨ (κ' = κ ∧ n' = n)) := by
  unfold vld
  rw [beg_ci h1 h2 h3]
  by_cases z : κ' = κ
  · subst z; rw [if_pos rfl, e]; omega
  · rw [if_neg z]; omega
theorem beg_co {κ n v k : Nat} (h1 : κ < 5) (h3 : n < cpM κ) (hv : v < 4) (hk : k < 10) : beg H κ n (10 + 13 * v + 3 + k) = H (10 + 13 * v + 3 + k) := by
  have := ci_lo h1
  unfold beg
  rw [fi_co h1 h3 hv hk, upz_n (by omega)]
theorem beg_in {κ n w : Nat} (hw : w < niM κ) : beg H κ n (hbM κ n + w) = usM κ w := fi_in hw
theorem beg_ne {κ κ' n n' w' : Nat} (h1 : κ < 5) (h2 : κ' < 5) (h3 : n < cpM κ) (h4 : n' < cpM κ') (h6 : w' < niM κ') (hne : ¬ (κ = κ' ∧ n = n')) : beg H κ n (hbM κ' n' + w') = H (hbM κ' n' + w') := by
  unfold beg
  rw [fi_ne h1 h2 h3 h4 h6 hne, upz_n (hb_ci h2 h1 h4 h6)]
theorem HP.bg {m κ n : Nat} (h : HP H m) (hm : m ≤ 4) (hk : κ < 5) (hn : n < cpM κ) (e : H (ciM κ) = n) : HP (beg H κ n) m := by
  refine ⟨fun κ' h' => ?_, fun κ' n' w' h1 h2 h3 => ?_, fun u hu => ?_⟩
  · rw [beg_ci hk h' hn]
    by_cases z : κ' = κ
    · rw [if_pos z, z]; omega
    · rw [if_neg z]; exact h.1 κ' h'
  · rw [beg_vld hk h1 hn e] at h2
    by_cases z : κ = κ' ∧ n = n'
    · obtain ⟨z1, z2⟩ := z
      subst z1; subst z2
      rw [beg_in h3]; exact us_ok κ hk w' h3
    · have h2' : vld H κ' n' := by
        rcases h2 with a | a
        · exact a
        · exact absurd ⟨a.1.symm, a.2.symm⟩ z
      rw [beg_ne hk h1 hn (vld_lt h h1 h2') h3 z]; exact h.2.1 κ' n' w' h1 h2' h3
  · have hc3 : ∀ k, k < 10 → beg H κ n (10 + 13 * u + 3 + k) = H (10 + 13 * u + 3 + k) := fun k hk' => beg_co hk hn (by omega) hk'
    have := h.2.2 u hu
    have e0 := hc3 0 (by omega)
    rw [Nat.add_zero] at e0
    rw [e0]
    refine ⟨this.1, this.2.1, fun k hk' => ?_⟩
    rw [show 10 + 13 * u + 4 + k = 10 + 13 * u + 3 + (k + 1) by omega, hc3 (k + 1) (by omega), show 10 + 13 * u + 3 + (k + 1) = 10 + 13 * u + 4 + k by omega]
    exact this.2.2 k hk'
theorem wf_n {v j : Nat} {ws : List Nat} (hl : ws.length ≤ 8) (hj : j < 10 + 13 * v + 3 ∨ 10 + 13 * v + 12 ≤ j) : wfi H v ws j = H j := by unfold wfi; rw [if_neg (by omega), if_neg (by omega)]
theorem wf_l {v : Nat} {ws : List Nat} : wfi H v ws (10 + 13 * v + 3) = ws.length := by unfold wfi; rw [if_pos rfl]
theorem wf_w {v k : Nat} {ws : List Nat} (hk : k < ws.length) : wfi H v ws (10 + 13 * v + 4 + k) = (ws.getD k 0 : Nat) := by unfold wfi; rw [if_neg (by omega), if_pos (by omega), show 10 + 13 * v + 4 + k - (10 + 13 * v + 4) = k by omega]
theorem wf_hb {κ n w v : Nat} {ws : List Nat} (hl : ws.length ≤ 8) (h1 : κ < 5) (h3 : n < cpM κ) (h5 : w < niM κ) (hv : v < 4) : wfi H v ws (hbM κ n + w) = H (hbM κ n + w) := by
  refine wf_n hl ?_
  by_cases z : 10 + 13 * v + 3 ≤ hbM κ n + w ∧ hbM κ n + w < 10 + 13 * v + 12
  · exact absurd (show hbM κ n + w = 10 + 13 * v + 3 + (hbM κ n + w - (10 + 13 * v + 3)) by omega) (hb_co h1 h3 h5 hv (by omega))
  · omega
theorem HP.wf {v : Nat} {ws : List Nat} (h : HP H v) (hv : v < 4) (hl : ws.length ≤ 8) (hw : ∀ w ∈ ws, w ≤ 3) : HP (wfi H v ws) (v + 1) := by
  have hc : ∀ κ', κ' < 5 → wfi H v ws (ciM κ') = H (ciM κ') := fun κ' h' => by have := ci_lo h'; exact wf_n hl (by omega)
  refine ⟨fun κ' h' => by rw [hc κ' h']; exact h.1 κ' h', fun κ' n' w' h1 h2 h3 => ?_, fun u hu => ?_⟩
  · have h2' : vld H κ' n' := by unfold vld at h2 ⊢; rw [hc κ' h1] at h2; exact h2
    rw [wf_hb hl h1 (vld_lt h h1 h2') h3 hv]; exact h.2.1 κ' n' w' h1 h2' h3
  · by_cases e : u = v
    · subst e
      rw [wf_l]
      refine ⟨by omega, by omega, fun k hk => ?_⟩
      have hk' : k < ws.length := by omega
      rw [wf_w hk']
      have := hw _ (getD_mem (l := ws) (i := k) 0 hk')
      omega
    · have := h.2.2 u (by omega)
      rw [wf_n hl (by omega)]
      refine ⟨this.1, this.2.1, fun k hk => ?_⟩
      rw [wf_n hl (by omega)]; exact this.2.2 k hk
theorem coF_ok (ok : okB bs) {v q : Nat} (hq : q ≤ bs.length) (h : HP H v) (hv : v < 4) : match coF bs v q H with
    | .inl e => e ≤ bs.length
    | .inr (p, H') => q ≤ p ∧ p ≤ bs.length ∧ HP H' (v + 1) ∧ ∀ κ', κ' < 5 → H' (ciM κ') = H (ciM κ') := by
  have hs := sk_lo hq
  have hc : ∀ ws : List Nat, ws.length ≤ 8 → ∀ κ', κ' < 5 → wfi H v ws (ciM κ') = H (ciM κ') := fun ws hl κ' h' => by have := ci_lo h'; exact wf_n hl (by omega)
  unfold coF
  by_cases q1 : ch bs (sk bs q) = 58
  · rw [if_pos q1]
    have hlt : sk bs q < bs.length := ch_lt (by omega)
    have ow := wyF_ok (ok := ok) 8 (sk bs q + 1) [] (by omega) (by simp) (by simp)
    have op : ∀ p ws, wyF bs 8 (sk bs q + 1) [] = .inr (p, ws) → q ≤ p := by
      have gen : ∀ (k a : Nat) (ws : List Nat), a ≤ bs.length → ∀ p ws', wyF bs k a ws = .inr (p, ws') → a ≤ p := by
        intro k
        induction k with
        | zero => intro a ws _ p ws' e; unfold wyF at e; cases e; exact Nat.le_refl _
        | succ k ih =>
          intro a ws ha p ws' e
          have hsa := sk_lo ha
          unfold wyF at e
          split at e
          · split at e
            · cases e
            · cases e; exact hsa.1
          · rename_i z
            have hne : ch bs (sk bs a) ≠ -1 := fun y => z (by rw [y]; exact sp_m1 6 (by omega))
            have := ch_lt hne
            have := ih (sk bs a + 1) _ (by omega) p ws' e
            omega
      intro p ws e
      have := gen 8 (sk bs q + 1) [] (by omega) p ws e
      omega
    generalize wyF bs 8 (sk bs q + 1) [] = r at *
    rcases r with e | ⟨p, ws⟩
    · exact ow
    · simp only at ow ⊢
      exact ⟨op p ws rfl, ow.1, h.wf hv ow.2.1 ow.2.2, hc ws ow.2.1⟩
  · rw [if_neg q1]
    exact ⟨hs.1, hs.2, h.wf hv (by simp) (by simp), hc [] (by simp)⟩
theorem clF_ok (ok : okB bs) {q : Nat} (hq : q ≤ bs.length) (h : HP H (H 4).toNat) : match clF bs q H with
    | .inl e => e ≤ bs.length
    | .inr (p, H') => q < p ∧ p ≤ bs.length ∧ HP H' (H' 4).toNat := by
  have hs := sk_lo hq
  have hl := sp0_lo (ch bs (sk bs q))
  unfold clF
  by_cases q1 : spM 0 (ch bs (sk bs q)) = -1
  · rw [if_pos q1]; exact hs.2
  · rw [if_neg q1]
    have hne : ch bs (sk bs q) ≠ -1 := fun z => q1 (by rw [z]; exact sp_m1 _ (by omega))
    have hlt := ch_lt hne
    obtain ⟨κ, hκ⟩ := Int.eq_ofNat_of_zero_le (show 0 ≤ spM 0 (ch bs (sk bs q)) by omega)
    rw [hκ] at hl ⊢
    rw [Int.toNat_natCast]
    have hk : κ < 5 := by omega
    by_cases q2 : H (ciM κ) < cpM κ
    · rw [if_pos q2]
      obtain ⟨n, hn⟩ := Int.eq_ofNat_of_zero_le (h.1 κ hk).1
      rw [hn] at q2 ⊢
      rw [Int.toNat_natCast]
      have hnc : n < cpM κ := by omega
      have h4 := h.1 1 (by omega)
      have h4' : 0 ≤ H 4 ∧ H 4 ≤ 4 := h4
      have hb := h.bg (by omega) hk hnc hn
      have io := itF_ok ok (n := n) (m := (H 4).toNat) (by omega) hk 7 (fun _ => false) (sk bs q + 1) (beg H κ n) (by omega) (by decide) hb ((beg_vld hk hk hnc hn).mpr (Or.inr ⟨rfl, rfl⟩))
      unfold clB
      generalize itF bs κ n 7 (fun _ => false) (sk bs q + 1) (beg H κ n) = r at *
      rcases r with e | ⟨p, H'⟩
      · exact io
      · simp only at io ⊢
        obtain ⟨i1, i2, i3, i4, i5, i6⟩ := io
        have e4 : H' 4 = beg H κ n 4 := i5 1 (by omega)
        have b4 : beg H κ n 4 = if 1 = κ then (n : Int) + 1 else H 4 := beg_ci (κ' := 1) hk (by omega) hnc
        by_cases q3 : κ = 1
        · rw [if_pos q3]
          subst q3
          have hn4 : H 4 = n := hn
          have hnv : (H 4).toNat = n := by omega
          rw [hnv] at i4
          have co := coF_ok ok (v := n) i2 i4 (by have : n < 4 := hnc; exact this)
          generalize coF bs n p H' = r2 at *
          rcases r2 with e | ⟨p2, H2⟩
          · exact co
          · simp only at co ⊢
            have e42 : H2 4 = H' 4 := co.2.2.2 1 (by omega)
            rw [if_pos rfl] at b4
            refine ⟨by omega, co.2.1, ?_⟩
            rw [show (H2 4).toNat = n + 1 by rw [e42, e4, b4]; omega]
            exact co.2.2.1
        · rw [if_neg q3]
          rw [if_neg (by omega)] at b4
          exact ⟨by omega, i2, by rw [show (H' 4).toNat = (H 4).toNat by rw [e4, b4]]; exact i4⟩
    · rw [if_neg q2]; exact hs.2
theorem htF_ok (ok : okB bs) : ∀ (k q : Nat) (H : Nat → Int), q ≤ bs.length → bs.length - q < k → HP H (H 4).toNat → match htF bs k q H with
    | .inl e => e ≤ bs.length
    | .inr H' => HP H' (H' 4).toNat
  | 0, q, H, hq, hk, h => by omega
  | k + 1, q, H, hq, hk, h => by
    have co := clF_ok ok hq h
    unfold htF
    generalize clF bs q H = r at *
    rcases r with e | ⟨p, H'⟩
    · exact co
    · simp only at co ⊢
      have hp := sk_lo co.2.1
      by_cases q1 : ch bs (sk bs p) = -1
      · rw [if_pos q1]; exact co.2.2
      · rw [if_neg q1]
        have := ch_lt q1
        by_cases q2 : ch bs (sk bs p) = 59
        · rw [if_pos q2]
          exact htF_ok ok k (sk bs p + 1) H' (by omega) (by omega) co.2.2
        · rw [if_neg q2]; exact hp.2
end HN
