set_option maxRecDepth 4000 in
theorem l_R_part_L18 (Γ : AG) (d : Nat) (rc : Nat → Int32 → Int32 → AH → Option (Int32 × AH)) (hrc0 : ∀ (b0 : Int32) (b1 : Int32) (h : AH) (x : Int32 × AH), rc 0 b0 b1 h = some x → MetA Γ (m_R_condition d) [vr 12 0 80, vi b0, vi b1] h (some (vi x.1)) x.2) (hrc1 : ∀ (b0 : Int32) (b1 : Int32) (h : AH) (x : Int32 × AH), rc 1 b0 b1 h = some x → MetA Γ (m_R_part d) [vr 12 0 80, vi b0, vi b1] h (some (vi x.1)) x.2) (hrc2 : ∀ (b0 : Int32) (b1 : Int32) (h : AH) (x : Int32 × AH), rc 2 b0 b1 h = some x → MetA Γ (m_R_unit d) [vr 12 0 80] h (some (vi x.1)) x.2) : ∀ (n : Nat) (v3 : Int32) (h : AH) (x : Int32 × AH), R_part_L18 rc n v3 h = some x → ∀ (r : Option AV) (h' : AH), r = some (vi x.1) ∧ h' = x.2 → Ev Γ (m_R_part (d + 1)) 18 [some (vr 12 0 80), none, none, some (vi v3), none] [] h r h' := by
  intro n
  induction n with
  | zero => intro v3 h x hx; cases hx
  | succ n ih =>
    intro v3 h x hx r h' hP
    replace hx : R_part_L18_b rc (R_part_L18 rc n) v3 h = some x := hx
    unfold R_part_L18_b at hx
    refine Ev.blk (pc' := 23) (lv' := [some (vr 12 0 80), none, none, some (vi v3), none]) (st' := [vi (ii (-1)), vi (h.1 80 11)]) (h' := h) 10 3 (Nat.le_of_ble_eq_true rfl) tk_R_part rfl rfl ⟨trivial, trivial, trivial, trivial⟩ ?_
    refine Ev.icmp_ne 13 69 tk_R_part rfl (by decide) (fun hc1 => ?_) (fun hc1 => ?_)
    · replace hx := ia hc1 hx
      refine Ev.blk (pc' := 70) (lv' := [some (vr 12 0 80), none, none, some (vi v3), none]) (st' := [vi v3]) (h' := h) 36 1 (Nat.le_of_ble_eq_true rfl) tk_R_part rfl rfl ⟨trivial, trivial⟩ ?_
      obtain ⟨hg2, hx⟩ := gd hx
      obtain rfl := Option.some.inj hx
      obtain ⟨rfl, rfl⟩ := hP
      exact Ev.zret 37 tk_R_part rfl rfl (nbool hg2)
    · replace hx := ip hc1 hx
      refine Ev.blk (pc' := 27) (lv' := [some (vr 12 0 80), none, none, some (vi v3), none]) (st' := [vr 12 0 80]) (h' := h) 14 1 (Nat.le_of_ble_eq_true rfl) tk_R_part rfl rfl ⟨trivial, trivial⟩ ?_
      obtain ⟨q1, hq3, hx⟩ := bd hx
      refine Ev.callV (ν := m_R_look) (av := []) (rest := []) (r1 := some (vi q1.1)) (h1 := q1.2) (ci := 12) (nn := 0) (o := 80) 15 0 tk_R_part rfl bb_R_look vv_R_look lk_12_144 (by show _ ≤ 48 + (d + 1); simp only [mv, m_R_look]; omega) rfl rfl (Or.inl rfl) (Nat.le_of_ble_eq_true rfl) (s_R_look Γ h _ hq3) ?_
      show Ev Γ (m_R_part (d + 1)) 30 [some (vr 12 0 80), none, none, some (vi v3), none] [vi q1.1] q1.2 r h'
      refine Ev.blk (pc' := 32) (lv' := [some (vr 12 0 80), none, none, some (vi v3), none]) (st' := [vi (ii 38), vi q1.1]) (h' := q1.2) 16 1 (Nat.le_of_ble_eq_true rfl) tk_R_part rfl rfl ⟨trivial, trivial⟩ ?_
      refine Ev.icmp_ne 17 69 tk_R_part rfl (by decide) (fun hc4 => ?_) (fun hc4 => ?_)
      · replace hx := ia hc4 hx
        refine Ev.blk (pc' := 70) (lv' := [some (vr 12 0 80), none, none, some (vi v3), none]) (st' := [vi v3]) (h' := q1.2) 36 1 (Nat.le_of_ble_eq_true rfl) tk_R_part rfl rfl ⟨trivial, trivial⟩ ?_
        obtain ⟨hg5, hx⟩ := gd hx
        obtain rfl := Option.some.inj hx
        obtain ⟨rfl, rfl⟩ := hP
        exact Ev.zret 37 tk_R_part rfl rfl (nbool hg5)
      · replace hx := ip hc4 hx
        refine Ev.blk (pc' := 46) (lv' := [some (vr 12 0 80), none, none, some (vi v3), none]) (st' := [vr 12 0 80]) (h' := (wI q1.2 80 10 ((q1.2.1 80 10) + (ii 1)))) 18 7 (Nat.le_of_ble_eq_true rfl) tk_R_part rfl rfl ⟨trivial, trivial, trivial, trivial, trivial, trivial, trivial, trivial⟩ ?_
        obtain ⟨q2, hq6, hx⟩ := bd hx
        refine Ev.callV (ν := (m_R_unit d)) (av := []) (rest := []) (r1 := some (vi q2.1)) (h1 := q2.2) (ci := 12) (nn := 0) (o := 80) 25 0 tk_R_part rfl (bb_R_unit _) (vv_R_unit _) lk_12_190 (Nat.le_refl _) rfl rfl (Or.inl rfl) (Nat.le_of_ble_eq_true rfl) (hrc2 0 0 (wI q1.2 80 10 ((q1.2.1 80 10) + (ii 1))) _ hq6) ?_
        show Ev Γ (m_R_part (d + 1)) 49 [some (vr 12 0 80), none, none, some (vi v3), none] [vi q2.1] q2.2 r h'
        refine Ev.blk (pc' := 52) (lv' := [some (vr 12 0 80), none, none, some (vi v3), some (vi q2.1)]) (st' := [vi v3]) (h' := q2.2) 26 2 (Nat.le_of_ble_eq_true rfl) tk_R_part rfl rfl ⟨trivial, trivial, trivial⟩ ?_
        have K7 : ∀ v7_0 : Int32, v7_0 = (if v3 = 0 then (ii 0) else (if q2.1 = 0 then (ii 0) else (ii 1))) → Ev Γ (m_R_part (d + 1)) 65 [some (vr 12 0 80), none, none, none, none] [vi v7_0] q2.2 r h' := by
          intro v7_0 e8
          subst e8
          refine Ev.blk (pc' := 18) (lv' := [some (vr 12 0 80), none, none, some (vi (if v3 = 0 then (ii 0) else (if q2.1 = 0 then (ii 0) else (ii 1)))), none]) (st' := []) (h' := q2.2) 34 2 (Nat.le_of_ble_eq_true rfl) tk_R_part rfl rfl ⟨trivial, trivial, trivial⟩ ?_
          exact Ev.msk [true, false, false, true, false] (ih (if v3 = 0 then (ii 0) else (if q2.1 = 0 then (ii 0) else (ii 1))) q2.2 _ hx r h' hP)
        refine Ev.if_eq 28 64 tk_R_part rfl (by decide) (fun hc9 => ?_) (fun hc9 => ?_)
        · refine Ev.blk (pc' := 65) (lv' := [some (vr 12 0 80), none, none, some (vi v3), some (vi q2.1)]) (st' := [vi (ii 0)]) (h' := q2.2) 33 1 (Nat.le_of_ble_eq_true rfl) tk_R_part rfl rfl ⟨trivial, trivial⟩ ?_
          exact Ev.msk [true, false, false, false, false] (K7 _ (by first | rfl | simp only [if_pos hc9]))
        · refine Ev.blk (pc' := 57) (lv' := [some (vr 12 0 80), none, none, some (vi v3), some (vi q2.1)]) (st' := [vi q2.1]) (h' := q2.2) 29 1 (Nat.le_of_ble_eq_true rfl) tk_R_part rfl rfl ⟨trivial, trivial⟩ ?_
          refine Ev.if_eq 30 64 tk_R_part rfl (by decide) (fun hc10 => ?_) (fun hc10 => ?_)
          · refine Ev.blk (pc' := 65) (lv' := [some (vr 12 0 80), none, none, some (vi v3), some (vi q2.1)]) (st' := [vi (ii 0)]) (h' := q2.2) 33 1 (Nat.le_of_ble_eq_true rfl) tk_R_part rfl rfl ⟨trivial, trivial⟩ ?_
            exact Ev.msk [true, false, false, false, false] (K7 _ (by first | rfl | simp only [if_neg hc9, if_pos hc10]))
          · refine Ev.blk (pc' := 65) (lv' := [some (vr 12 0 80), none, none, some (vi v3), some (vi q2.1)]) (st' := [vi (ii 1)]) (h' := q2.2) 31 2 (Nat.le_of_ble_eq_true rfl) tk_R_part rfl rfl ⟨trivial, trivial, trivial⟩ ?_
            exact Ev.msk [true, false, false, false, false] (K7 _ (by first | rfl | simp only [if_neg hc9, if_neg hc10]))
set_option maxRecDepth 4000 in
theorem u_R_part_ok (Γ : AG) (d : Nat) (rc : Nat → Int32 → Int32 → AH → Option (Int32 × AH)) (hrc0 : ∀ (b0 : Int32) (b1 : Int32) (h : AH) (x : Int32 × AH), rc 0 b0 b1 h = some x → MetA Γ (m_R_condition d) [vr 12 0 80, vi b0, vi b1] h (some (vi x.1)) x.2) (hrc1 : ∀ (b0 : Int32) (b1 : Int32) (h : AH) (x : Int32 × AH), rc 1 b0 b1 h = some x → MetA Γ (m_R_part d) [vr 12 0 80, vi b0, vi b1] h (some (vi x.1)) x.2) (hrc2 : ∀ (b0 : Int32) (b1 : Int32) (h : AH) (x : Int32 × AH), rc 2 b0 b1 h = some x → MetA Γ (m_R_unit d) [vr 12 0 80] h (some (vi x.1)) x.2) (a1 : Int32) (a2 : Int32) (h : AH) (x : Int32 × AH) (hx : u_R_part rc a1 a2 h = some x) : MetA Γ (m_R_part (d + 1)) [vr 12 0 80, vi a1, vi a2] h (some (vi x.1)) x.2 := by
  refine Ev.met rfl rfl (Nat.le_of_ble_eq_true rfl) ?_
  show Ev Γ (m_R_part (d + 1)) 0 [some (vr 12 0 80), some (vi a1), some (vi a2), none, none] [] h _ _
  obtain ⟨r, hr⟩ : ∃ r : Option AV, r = some (vi x.1) := ⟨_, rfl⟩
  obtain ⟨h', hh⟩ : ∃ h' : AH, h' = x.2 := ⟨_, rfl⟩
  have hP : r = some (vi x.1) ∧ h' = x.2 := ⟨hr, hh⟩
  suffices hS : Ev Γ (m_R_part (d + 1)) 0 [some (vr 12 0 80), some (vi a1), some (vi a2), none, none] [] h r h' by rw [hr, hh] at hS; exact hS
  clear hr hh
  unfold u_R_part at hx
  refine Ev.blk (pc' := 1) (lv' := [some (vr 12 0 80), some (vi a1), some (vi a2), none, none]) (st' := [vi a1]) (h' := h) 0 1 (Nat.le_of_ble_eq_true rfl) tk_R_part rfl rfl ⟨trivial, trivial⟩ ?_
  obtain ⟨q3, hq1, hx⟩ := bd hx
  have K2 : Ev Γ (m_R_part (d + 1)) 17 [some (vr 12 0 80), none, none, none, none] [vi q3.1] q3.2 r h' := by
    refine Ev.blk (pc' := 18) (lv' := [some (vr 12 0 80), none, none, some (vi q3.1), none]) (st' := []) (h' := q3.2) 9 1 (Nat.le_of_ble_eq_true rfl) tk_R_part rfl rfl ⟨trivial, trivial⟩ ?_
    refine Ev.msk [true, false, false, true, false] ?_
    show Ev Γ (m_R_part (d + 1)) 18 [some (vr 12 0 80), none, none, some (vi q3.1), none] [] q3.2 r h'
    exact l_R_part_L18 Γ d rc hrc0 hrc1 hrc2 FU q3.1 q3.2 _ hx r h' hP
  clear hx
  refine Ev.if_eq 1 13 tk_R_part rfl (by decide) (fun hc3 => ?_) (fun hc3 => ?_)
  · replace hq1 := ip hc3 hq1
    refine Ev.blk (pc' := 14) (lv' := [some (vr 12 0 80), some (vi a1), some (vi a2), none, none]) (st' := [vr 12 0 80]) (h' := h) 7 1 (Nat.le_of_ble_eq_true rfl) tk_R_part rfl rfl ⟨trivial, trivial⟩ ?_
    obtain ⟨q1, hq4, hq1⟩ := bd hq1
    refine Ev.callV (ν := (m_R_unit d)) (av := []) (rest := []) (r1 := some (vi q1.1)) (h1 := q1.2) (ci := 12) (nn := 0) (o := 80) 8 0 tk_R_part rfl (bb_R_unit _) (vv_R_unit _) lk_12_190 (Nat.le_refl _) rfl rfl (Or.inl rfl) (Nat.le_of_ble_eq_true rfl) (hrc2 0 0 h _ hq4) ?_
    show Ev Γ (m_R_part (d + 1)) 17 [some (vr 12 0 80), some (vi a1), some (vi a2), none, none] [vi q1.1] q1.2 r h'
    obtain rfl := Option.some.inj hq1
    exact Ev.msk [true, false, false, false, false] K2
  · replace hq1 := ia hc3 hq1
    refine Ev.blk (pc' := 7) (lv' := [some (vr 12 0 80), some (vi a1), some (vi a2), none, none]) (st' := [vi a2, vi (ii 1), vr 12 0 80]) (h' := h) 2 3 (Nat.le_of_ble_eq_true rfl) tk_R_part rfl rfl ⟨trivial, trivial, trivial, trivial⟩ ?_
    obtain ⟨q2, hq5, hq1⟩ := bd hq1
    refine Ev.callV (ν := m_R_compares) (av := [vi (ii 1), vi a2]) (rest := []) (r1 := some (vi q2.1)) (h1 := q2.2) (ci := 12) (nn := 0) (o := 80) 5 2 tk_R_part rfl bb_R_compares vv_R_compares lk_12_197 (by show _ ≤ 48 + (d + 1); simp only [mv, m_R_compares]; omega) rfl rfl (Or.inl rfl) (Nat.le_of_ble_eq_true rfl) (s_R_compares Γ (ii 1) a2 h _ hq5) ?_
    show Ev Γ (m_R_part (d + 1)) 10 [some (vr 12 0 80), some (vi a1), some (vi a2), none, none] [vi q2.1] q2.2 r h'
    refine Ev.blk (pc' := 17) (lv' := [some (vr 12 0 80), some (vi a1), some (vi a2), none, none]) (st' := [vi q2.1]) (h' := q2.2) 6 1 (Nat.le_of_ble_eq_true rfl) tk_R_part rfl rfl ⟨trivial, trivial⟩ ?_
    obtain rfl := Option.some.inj hq1
    exact Ev.msk [true, false, false, false, false] K2
set_option maxRecDepth 4000 in
theorem l_R_condition_L7 (Γ : AG) (d : Nat) (rc : Nat → Int32 → Int32 → AH → Option (Int32 × AH)) (hrc0 : ∀ (b0 : Int32) (b1 : Int32) (h : AH) (x : Int32 × AH), rc 0 b0 b1 h = some x → MetA Γ (m_R_condition d) [vr 12 0 80, vi b0, vi b1] h (some (vi x.1)) x.2) (hrc1 : ∀ (b0 : Int32) (b1 : Int32) (h : AH) (x : Int32 × AH), rc 1 b0 b1 h = some x → MetA Γ (m_R_part d) [vr 12 0 80, vi b0, vi b1] h (some (vi x.1)) x.2) (hrc2 : ∀ (b0 : Int32) (b1 : Int32) (h : AH) (x : Int32 × AH), rc 2 b0 b1 h = some x → MetA Γ (m_R_unit d) [vr 12 0 80] h (some (vi x.1)) x.2) : ∀ (n : Nat) (v3 : Int32) (h : AH) (x : Int32 × AH), R_condition_L7 rc n v3 h = some x → ∀ (r : Option AV) (h' : AH), r = some (vi x.1) ∧ h' = x.2 → Ev Γ (m_R_condition (d + 1)) 7 [some (vr 12 0 80), none, none, some (vi v3), none] [] h r h' := by
  intro n
  induction n with
  | zero => intro v3 h x hx; cases hx
  | succ n ih =>
    intro v3 h x hx r h' hP
    replace hx : R_condition_L7_b rc (R_condition_L7 rc n) v3 h = some x := hx
    unfold R_condition_L7_b at hx
    refine Ev.blk (pc' := 12) (lv' := [some (vr 12 0 80), none, none, some (vi v3), none]) (st' := [vi (ii (-1)), vi (h.1 80 11)]) (h' := h) 5 3 (Nat.le_of_ble_eq_true rfl) tk_R_condition rfl rfl ⟨trivial, trivial, trivial, trivial⟩ ?_
    refine Ev.icmp_ne 8 60 tk_R_condition rfl (by decide) (fun hc1 => ?_) (fun hc1 => ?_)
    · replace hx := ia hc1 hx
      refine Ev.blk (pc' := 61) (lv' := [some (vr 12 0 80), none, none, some (vi v3), none]) (st' := [vi v3]) (h' := h) 33 1 (Nat.le_of_ble_eq_true rfl) tk_R_condition rfl rfl ⟨trivial, trivial⟩ ?_
      obtain ⟨hg2, hx⟩ := gd hx
      obtain rfl := Option.some.inj hx
      obtain ⟨rfl, rfl⟩ := hP
      exact Ev.zret 34 tk_R_condition rfl rfl (nbool hg2)
    · replace hx := ip hc1 hx
      refine Ev.blk (pc' := 16) (lv' := [some (vr 12 0 80), none, none, some (vi v3), none]) (st' := [vr 12 0 80]) (h' := h) 9 1 (Nat.le_of_ble_eq_true rfl) tk_R_condition rfl rfl ⟨trivial, trivial⟩ ?_
      obtain ⟨q1, hq3, hx⟩ := bd hx
      refine Ev.callV (ν := m_R_look) (av := []) (rest := []) (r1 := some (vi q1.1)) (h1 := q1.2) (ci := 12) (nn := 0) (o := 80) 10 0 tk_R_condition rfl bb_R_look vv_R_look lk_12_144 (by show _ ≤ 48 + (d + 1); simp only [mv, m_R_look]; omega) rfl rfl (Or.inl rfl) (Nat.le_of_ble_eq_true rfl) (s_R_look Γ h _ hq3) ?_
      show Ev Γ (m_R_condition (d + 1)) 19 [some (vr 12 0 80), none, none, some (vi v3), none] [vi q1.1] q1.2 r h'
      refine Ev.blk (pc' := 21) (lv' := [some (vr 12 0 80), none, none, some (vi v3), none]) (st' := [vi (ii 124), vi q1.1]) (h' := q1.2) 11 1 (Nat.le_of_ble_eq_true rfl) tk_R_condition rfl rfl ⟨trivial, trivial⟩ ?_
      refine Ev.icmp_ne 12 60 tk_R_condition rfl (by decide) (fun hc4 => ?_) (fun hc4 => ?_)
      · replace hx := ia hc4 hx
        refine Ev.blk (pc' := 61) (lv' := [some (vr 12 0 80), none, none, some (vi v3), none]) (st' := [vi v3]) (h' := q1.2) 33 1 (Nat.le_of_ble_eq_true rfl) tk_R_condition rfl rfl ⟨trivial, trivial⟩ ?_
        obtain ⟨hg5, hx⟩ := gd hx
        obtain rfl := Option.some.inj hx
        obtain ⟨rfl, rfl⟩ := hP
        exact Ev.zret 34 tk_R_condition rfl rfl (nbool hg5)
      · replace hx := ip hc4 hx
        refine Ev.blk (pc' := 37) (lv' := [some (vr 12 0 80), none, none, some (vi v3), none]) (st' := [vi (ii 0), vi (ii 0), vr 12 0 80]) (h' := (wI q1.2 80 10 ((q1.2.1 80 10) + (ii 1)))) 13 9 (Nat.le_of_ble_eq_true rfl) tk_R_condition rfl rfl ⟨trivial, trivial, trivial, trivial, trivial, trivial, trivial, trivial, trivial, trivial⟩ ?_
        obtain ⟨q2, hq6, hx⟩ := bd hx
        refine Ev.callV (ν := (m_R_part d)) (av := [vi (ii 0), vi (ii 0)]) (rest := []) (r1 := some (vi q2.1)) (h1 := q2.2) (ci := 12) (nn := 0) (o := 80) 22 2 tk_R_condition rfl (bb_R_part _) (vv_R_part _) lk_12_200 (Nat.le_refl _) rfl rfl (Or.inl rfl) (Nat.le_of_ble_eq_true rfl) (hrc1 (ii 0) (ii 0) (wI q1.2 80 10 ((q1.2.1 80 10) + (ii 1))) _ hq6) ?_
        show Ev Γ (m_R_condition (d + 1)) 40 [some (vr 12 0 80), none, none, some (vi v3), none] [vi q2.1] q2.2 r h'
        refine Ev.blk (pc' := 43) (lv' := [some (vr 12 0 80), none, none, some (vi v3), some (vi q2.1)]) (st' := [vi v3]) (h' := q2.2) 23 2 (Nat.le_of_ble_eq_true rfl) tk_R_condition rfl rfl ⟨trivial, trivial, trivial⟩ ?_
        have K7 : ∀ v7_0 : Int32, v7_0 = (if v3 = 0 then (if q2.1 = 0 then (ii 0) else (ii 1)) else (ii 1)) → Ev Γ (m_R_condition (d + 1)) 56 [some (vr 12 0 80), none, none, none, none] [vi v7_0] q2.2 r h' := by
          intro v7_0 e8
          subst e8
          refine Ev.blk (pc' := 7) (lv' := [some (vr 12 0 80), none, none, some (vi (if v3 = 0 then (if q2.1 = 0 then (ii 0) else (ii 1)) else (ii 1))), none]) (st' := []) (h' := q2.2) 31 2 (Nat.le_of_ble_eq_true rfl) tk_R_condition rfl rfl ⟨trivial, trivial, trivial⟩ ?_
          exact Ev.msk [true, false, false, true, false] (ih (if v3 = 0 then (if q2.1 = 0 then (ii 0) else (ii 1)) else (ii 1)) q2.2 _ hx r h' hP)
        refine Ev.if_ne 25 51 tk_R_condition rfl (by decide) (fun hc9 => ?_) (fun hc9 => ?_)
        · refine Ev.blk (pc' := 56) (lv' := [some (vr 12 0 80), none, none, some (vi v3), some (vi q2.1)]) (st' := [vi (ii 1)]) (h' := q2.2) 28 2 (Nat.le_of_ble_eq_true rfl) tk_R_condition rfl rfl ⟨trivial, trivial, trivial⟩ ?_
          exact Ev.msk [true, false, false, false, false] (K7 _ (by first | rfl | simp only [if_neg hc9]))
        · refine Ev.blk (pc' := 48) (lv' := [some (vr 12 0 80), none, none, some (vi v3), some (vi q2.1)]) (st' := [vi q2.1]) (h' := q2.2) 26 1 (Nat.le_of_ble_eq_true rfl) tk_R_condition rfl rfl ⟨trivial, trivial⟩ ?_
          refine Ev.if_eq 27 55 tk_R_condition rfl (by decide) (fun hc10 => ?_) (fun hc10 => ?_)
          · refine Ev.blk (pc' := 56) (lv' := [some (vr 12 0 80), none, none, some (vi v3), some (vi q2.1)]) (st' := [vi (ii 0)]) (h' := q2.2) 30 1 (Nat.le_of_ble_eq_true rfl) tk_R_condition rfl rfl ⟨trivial, trivial⟩ ?_
            exact Ev.msk [true, false, false, false, false] (K7 _ (by first | rfl | simp only [if_pos hc9, if_pos hc10]))
          · refine Ev.blk (pc' := 56) (lv' := [some (vr 12 0 80), none, none, some (vi v3), some (vi q2.1)]) (st' := [vi (ii 1)]) (h' := q2.2) 28 2 (Nat.le_of_ble_eq_true rfl) tk_R_condition rfl rfl ⟨trivial, trivial, trivial⟩ ?_
            exact Ev.msk [true, false, false, false, false] (K7 _ (by first | rfl | simp only [if_pos hc9, if_neg hc10]))
set_option maxRecDepth 4000 in
theorem u_R_condition_ok (Γ : AG) (d : Nat) (rc : Nat → Int32 → Int32 → AH → Option (Int32 × AH)) (hrc0 : ∀ (b0 : Int32) (b1 : Int32) (h : AH) (x : Int32 × AH), rc 0 b0 b1 h = some x → MetA Γ (m_R_condition d) [vr 12 0 80, vi b0, vi b1] h (some (vi x.1)) x.2) (hrc1 : ∀ (b0 : Int32) (b1 : Int32) (h : AH) (x : Int32 × AH), rc 1 b0 b1 h = some x → MetA Γ (m_R_part d) [vr 12 0 80, vi b0, vi b1] h (some (vi x.1)) x.2) (hrc2 : ∀ (b0 : Int32) (b1 : Int32) (h : AH) (x : Int32 × AH), rc 2 b0 b1 h = some x → MetA Γ (m_R_unit d) [vr 12 0 80] h (some (vi x.1)) x.2) (a1 : Int32) (a2 : Int32) (h : AH) (x : Int32 × AH) (hx : u_R_condition rc a1 a2 h = some x) : MetA Γ (m_R_condition (d + 1)) [vr 12 0 80, vi a1, vi a2] h (some (vi x.1)) x.2 := by
  refine Ev.met rfl rfl (Nat.le_of_ble_eq_true rfl) ?_
  show Ev Γ (m_R_condition (d + 1)) 0 [some (vr 12 0 80), some (vi a1), some (vi a2), none, none] [] h _ _
  obtain ⟨r, hr⟩ : ∃ r : Option AV, r = some (vi x.1) := ⟨_, rfl⟩
  obtain ⟨h', hh⟩ : ∃ h' : AH, h' = x.2 := ⟨_, rfl⟩
  have hP : r = some (vi x.1) ∧ h' = x.2 := ⟨hr, hh⟩
  suffices hS : Ev Γ (m_R_condition (d + 1)) 0 [some (vr 12 0 80), some (vi a1), some (vi a2), none, none] [] h r h' by rw [hr, hh] at hS; exact hS
  clear hr hh
  unfold u_R_condition at hx
  refine Ev.blk (pc' := 3) (lv' := [some (vr 12 0 80), some (vi a1), some (vi a2), none, none]) (st' := [vi a2, vi a1, vr 12 0 80]) (h' := h) 0 3 (Nat.le_of_ble_eq_true rfl) tk_R_condition rfl rfl ⟨trivial, trivial, trivial, trivial⟩ ?_
  obtain ⟨q1, hq1, hx⟩ := bd hx
  refine Ev.callV (ν := (m_R_part d)) (av := [vi a1, vi a2]) (rest := []) (r1 := some (vi q1.1)) (h1 := q1.2) (ci := 12) (nn := 0) (o := 80) 3 2 tk_R_condition rfl (bb_R_part _) (vv_R_part _) lk_12_200 (Nat.le_refl _) rfl rfl (Or.inl rfl) (Nat.le_of_ble_eq_true rfl) (hrc1 a1 a2 h _ hq1) ?_
  show Ev Γ (m_R_condition (d + 1)) 6 [some (vr 12 0 80), some (vi a1), some (vi a2), none, none] [vi q1.1] q1.2 r h'
  refine Ev.blk (pc' := 7) (lv' := [some (vr 12 0 80), some (vi a1), some (vi a2), some (vi q1.1), none]) (st' := []) (h' := q1.2) 4 1 (Nat.le_of_ble_eq_true rfl) tk_R_condition rfl rfl ⟨trivial, trivial⟩ ?_
  refine Ev.msk [true, false, false, true, false] ?_
  show Ev Γ (m_R_condition (d + 1)) 7 [some (vr 12 0 80), none, none, some (vi q1.1), none] [] q1.2 r h'
  exact l_R_condition_L7 Γ d rc hrc0 hrc1 hrc2 FU q1.1 q1.2 _ hx r h' hP
theorem gg3 (Γ : AG) : ∀ d : Nat, (∀ (b0 : Int32) (b1 : Int32) (h : AH) (x : Int32 × AH), g3 d 0 b0 b1 h = some x → MetA Γ (m_R_condition d) [vr 12 0 80, vi b0, vi b1] h (some (vi x.1)) x.2) ∧ (∀ (b0 : Int32) (b1 : Int32) (h : AH) (x : Int32 × AH), g3 d 1 b0 b1 h = some x → MetA Γ (m_R_part d) [vr 12 0 80, vi b0, vi b1] h (some (vi x.1)) x.2) ∧ (∀ (b0 : Int32) (b1 : Int32) (h : AH) (x : Int32 × AH), g3 d 2 b0 b1 h = some x → MetA Γ (m_R_unit d) [vr 12 0 80] h (some (vi x.1)) x.2) := by
  intro d
  induction d with
  | zero => exact ⟨fun b0 b1 h x hx => (by cases hx), fun b0 b1 h x hx => (by cases hx), fun b0 b1 h x hx => (by cases hx)⟩
  | succ d ih =>
    obtain ⟨i0, i1, i2⟩ := ih
    exact ⟨fun b0 b1 h x hx => u_R_condition_ok Γ d (g3 d) i0 i1 i2 b0 b1 h x hx, fun b0 b1 h x hx => u_R_part_ok Γ d (g3 d) i0 i1 i2 b0 b1 h x hx, fun b0 b1 h x hx => u_R_unit_ok Γ d (g3 d) i0 i1 i2 b0 b1 h x hx⟩
theorem t_R_condition (Γ : AG) (d : Nat) (b0 : Int32) (b1 : Int32) (h : AH) (x : Int32 × AH) (hx : g3 d 0 b0 b1 h = some x) : MetA Γ (m_R_condition d) [vr 12 0 80, vi b0, vi b1] h (some (vi x.1)) x.2 := (gg3 Γ d).1 b0 b1 h x hx
theorem t_R_part (Γ : AG) (d : Nat) (b0 : Int32) (b1 : Int32) (h : AH) (x : Int32 × AH) (hx : g3 d 1 b0 b1 h = some x) : MetA Γ (m_R_part d) [vr 12 0 80, vi b0, vi b1] h (some (vi x.1)) x.2 := (gg3 Γ d).2.1 b0 b1 h x hx
theorem t_R_unit (Γ : AG) (d : Nat) (b0 : Int32) (b1 : Int32) (h : AH) (x : Int32 × AH) (hx : g3 d 2 b0 b1 h = some x) : MetA Γ (m_R_unit d) [vr 12 0 80] h (some (vi x.1)) x.2 := (gg3 Γ d).2.2 b0 b1 h x hx
set_option maxRecDepth 4000 in
theorem s_R_clause (Γ : AG) (h : AH) (x : AH) (hx : f_R_clause  h = some x) : MetA Γ m_R_clause [vr 12 0 80] h (none) x := by
  refine Ev.met rfl rfl (Nat.le_of_ble_eq_true rfl) ?_
  show Ev Γ m_R_clause 0 [some (vr 12 0 80), none, none, none, none] [] h _ _
  obtain ⟨r, hr⟩ : ∃ r : Option AV, r = none := ⟨_, rfl⟩
  obtain ⟨h', hh⟩ : ∃ h' : AH, h' = x := ⟨_, rfl⟩
  have hP : r = none ∧ h' = x := ⟨hr, hh⟩
  suffices hS : Ev Γ m_R_clause 0 [some (vr 12 0 80), none, none, none, none] [] h r h' by rw [hr, hh] at hS; exact hS
  clear hr hh
  unfold f_R_clause at hx
  refine Ev.blk (pc' := 1) (lv' := [some (vr 12 0 80), none, none, none, none]) (st' := [vr 12 0 80]) (h' := h) 0 1 (Nat.le_of_ble_eq_true rfl) tk_R_clause rfl rfl ⟨trivial, trivial⟩ ?_
  obtain ⟨q1, hq1, hx⟩ := bd hx
  refine Ev.callV (ν := m_R_look) (av := []) (rest := []) (r1 := some (vi q1.1)) (h1 := q1.2) (ci := 12) (nn := 0) (o := 80) 1 0 tk_R_clause rfl bb_R_look vv_R_look lk_12_144 (by decide) rfl rfl (Or.inl rfl) (Nat.le_of_ble_eq_true rfl) (s_R_look Γ h _ hq1) ?_
  show Ev Γ m_R_clause 4 [some (vr 12 0 80), none, none, none, none] [vi q1.1] q1.2 r h'
  refine Ev.blk (pc' := 8) (lv' := [some (vr 12 0 80), some (vi q1.1), none, none, none]) (st' := [vi q1.1, vr 31 0 9]) (h' := q1.2) 2 3 (Nat.le_of_ble_eq_true rfl) tk_R_clause rfl rfl ⟨trivial, trivial, trivial, trivial⟩ ?_
  obtain ⟨q2, hq2, hx⟩ := bd hx
  refine Ev.callS (ν := m_R_isAmong) (av := [vr 31 0 9, vi q1.1]) (rest := []) (r1 := some (vi q2)) (h1 := q1.2) 5 2 tk_R_clause rfl bb_R_isAmong vv_R_isAmong lk_12_160 (by decide) rfl rfl (Nat.le_of_ble_eq_true rfl) (s_R_isAmong Γ 9 q1.1 q1.2 _ hq2) ?_
  show Ev Γ m_R_clause 11 [some (vr 12 0 80), some (vi q1.1), none, none, none] [vi q2] q1.2 r h'
  refine Ev.if_ne 6 20 tk_R_clause rfl (by decide) (fun hc3 => ?_) (fun hc3 => ?_)
  · replace hx := ia hc3 hx
    refine Ev.blk (pc' := 33) (lv' := [some (vr 12 0 80), some (vi q1.1), none, none, none]) (st' := [vi (ii 58), vr 12 0 80]) (h' := (wI q1.2 80 10 ((q1.2.1 80 10) + (ii 1)))) 11 8 (Nat.le_of_ble_eq_true rfl) tk_R_clause rfl rfl ⟨trivial, trivial, trivial, trivial, trivial, trivial, trivial, trivial, trivial⟩ ?_
    obtain ⟨q3, hq4, hx⟩ := bd hx
    refine Ev.callV (ν := m_R_takes) (av := [vi (ii 58)]) (rest := []) (r1 := some (vi q3.1)) (h1 := q3.2) (ci := 12) (nn := 0) (o := 80) 19 1 tk_R_clause rfl bb_R_takes vv_R_takes lk_12_170 (by decide) rfl rfl (Or.inl rfl) (Nat.le_of_ble_eq_true rfl) (s_R_takes Γ (ii 58) (wI q1.2 80 10 ((q1.2.1 80 10) + (ii 1))) _ hq4) ?_
    show Ev Γ m_R_clause 36 [some (vr 12 0 80), some (vi q1.1), none, none, none] [vi q3.1] q3.2 r h'
    refine Ev.if_ne 20 40 tk_R_clause rfl (by decide) (fun hc5 => ?_) (fun hc5 => ?_)
    · replace hx := ia hc5 hx
      refine Ev.blk (pc' := 45) (lv' := [some (vr 12 0 80), some (vi q1.1), some (vi (ii 1)), some (vi (ii 0)), none]) (st' := [vr 12 0 80]) (h' := q3.2) 22 5 (Nat.le_of_ble_eq_true rfl) tk_R_clause rfl rfl ⟨trivial, trivial, trivial, trivial, trivial, trivial⟩ ?_
      obtain ⟨q4, hq6, hx⟩ := bd hx
      refine Ev.callV (ν := m_R_look) (av := []) (rest := []) (r1 := some (vi q4.1)) (h1 := q4.2) (ci := 12) (nn := 0) (o := 80) 27 0 tk_R_clause rfl bb_R_look vv_R_look lk_12_144 (by decide) rfl rfl (Or.inl rfl) (Nat.le_of_ble_eq_true rfl) (s_R_look Γ q3.2 _ hq6) ?_
      show Ev Γ m_R_clause 48 [some (vr 12 0 80), some (vi q1.1), some (vi (ii 1)), some (vi (ii 0)), none] [vi q4.1] q4.2 r h'
      refine Ev.blk (pc' := 54) (lv' := [some (vr 12 0 80), some (vi q1.1), some (vi (ii 1)), some (vi (ii 0)), some (vi q4.1)]) (st' := [vi (ii 33), vi q4.1]) (h' := q4.2) 28 3 (Nat.le_of_ble_eq_true rfl) tk_R_clause rfl rfl ⟨trivial, trivial, trivial, trivial⟩ ?_
      refine Ev.icmp_eq 31 64 tk_R_clause rfl (by decide) (fun hc7 => ?_) (fun hc7 => ?_)
      · replace hx := ip hc7 hx
        refine Ev.blk (pc' := 67) (lv' := [some (vr 12 0 80), some (vi q1.1), some (vi (ii 1)), some (vi (ii 0)), some (vi q4.1)]) (st' := [vi (ii 0), vi (ii 0), vr 12 0 80]) (h' := q4.2) 35 3 (Nat.le_of_ble_eq_true rfl) tk_R_clause rfl rfl ⟨trivial, trivial, trivial, trivial⟩ ?_
        obtain ⟨q5, hq8, hx⟩ := bd hx
        refine Ev.callV (ν := (m_R_condition 40)) (av := [vi (ii 0), vi (ii 0)]) (rest := []) (r1 := some (vi q5.1)) (h1 := q5.2) (ci := 12) (nn := 0) (o := 80) 38 2 tk_R_clause rfl (bb_R_condition _) (vv_R_condition _) lk_12_193 (by decide) rfl rfl (Or.inl rfl) (Nat.le_of_ble_eq_true rfl) (t_R_condition Γ 40 (ii 0) (ii 0) q4.2 _ hq8) ?_
        show Ev Γ m_R_clause 70 [some (vr 12 0 80), some (vi q1.1), some (vi (ii 1)), some (vi (ii 0)), some (vi q4.1)] [vi q5.1] q5.2 r h'
        refine Ev.blk (pc' := 74) (lv' := [some (vr 12 0 80), some (vi q1.1), some (vi q5.1), some (vi (ii 0)), some (vi q4.1)]) (st' := [vi (ii 63), vr 12 0 80]) (h' := q5.2) 39 3 (Nat.le_of_ble_eq_true rfl) tk_R_clause rfl rfl ⟨trivial, trivial, trivial, trivial⟩ ?_
        obtain ⟨q6, hq9, hx⟩ := bd hx
        refine Ev.callV (ν := m_R_takes) (av := [vi (ii 63)]) (rest := []) (r1 := some (vi q6.1)) (h1 := q6.2) (ci := 12) (nn := 0) (o := 80) 42 1 tk_R_clause rfl bb_R_takes vv_R_takes lk_12_170 (by decide) rfl rfl (Or.inl rfl) (Nat.le_of_ble_eq_true rfl) (s_R_takes Γ (ii 63) q5.2 _ hq9) ?_
        show Ev Γ m_R_clause 77 [some (vr 12 0 80), some (vi q1.1), some (vi q5.1), some (vi (ii 0)), some (vi q4.1)] [vi q6.1] q6.2 r h'
        refine Ev.if_ne 43 81 tk_R_clause rfl (by decide) (fun hc10 => ?_) (fun hc10 => ?_)
        · replace hx := ia hc10 hx
          refine Ev.blk (pc' := 82) (lv' := [some (vr 12 0 80), some (vi q1.1), some (vi q5.1), some (vi (ii 0)), some (vi q4.1)]) (st' := [vr 12 0 80]) (h' := q6.2) 45 1 (Nat.le_of_ble_eq_true rfl) tk_R_clause rfl rfl ⟨trivial, trivial⟩ ?_
          obtain ⟨q7, hq11, hx⟩ := bd hx
          refine Ev.callV (ν := (m_R_sum 40)) (av := []) (rest := []) (r1 := some (vi q7.1)) (h1 := q7.2) (ci := 12) (nn := 0) (o := 80) 46 0 tk_R_clause rfl (bb_R_sum _) (vv_R_sum _) lk_12_167 (by decide) rfl rfl (Or.inl rfl) (Nat.le_of_ble_eq_true rfl) (t_R_sum Γ 40 q6.2 _ hq11) ?_
          show Ev Γ m_R_clause 85 [some (vr 12 0 80), some (vi q1.1), some (vi q5.1), some (vi (ii 0)), some (vi q4.1)] [vi q7.1] q7.2 r h'
          refine Ev.blk (pc' := 134) (lv' := [some (vr 12 0 80), some (vi q1.1), some (vi q5.1), some (vi q7.1), some (vi q4.1)]) (st' := []) (h' := q7.2) 47 2 (Nat.le_of_ble_eq_true rfl) tk_R_clause rfl rfl ⟨trivial, trivial, trivial⟩ ?_
          refine Ev.blk (pc' := 139) (lv' := [some (vr 12 0 80), some (vi q1.1), some (vi q5.1), some (vi q7.1), some (vi q4.1)]) (st' := [vi (ii (-1)), vi (q7.2.1 80 11)]) (h' := q7.2) 73 3 (Nat.le_of_ble_eq_true rfl) tk_R_clause rfl rfl ⟨trivial, trivial, trivial, trivial⟩ ?_
          refine Ev.icmp_ne 76 161 tk_R_clause rfl (by decide) (fun hc12 => ?_) (fun hc12 => ?_)
          · replace hx := ia hc12 hx
            obtain rfl := Option.some.inj hx
            obtain ⟨rfl, rfl⟩ := hP
            exact Ev.vret 86 tk_R_clause rfl rfl
          · replace hx := ip hc12 hx
            refine Ev.blk (pc' := 146) (lv' := [some (vr 12 0 80), some (vi q1.1), some (vi q5.1), some (vi q7.1), some (vi q4.1)]) (st' := [vi (q7.2.1 80 17)]) (h' := q7.2) 77 2 (Nat.le_of_ble_eq_true rfl) tk_R_clause rfl rfl ⟨trivial, trivial, trivial⟩ ?_
            refine Ev.if_ne 79 161 tk_R_clause rfl (by decide) (fun hc13 => ?_) (fun hc13 => ?_)
            · replace hx := ia hc13 hx
              obtain rfl := Option.some.inj hx
              obtain ⟨rfl, rfl⟩ := hP
              exact Ev.vret 86 tk_R_clause rfl rfl
            · replace hx := ip hc13 hx
              refine Ev.blk (pc' := 154) (lv' := [some (vr 12 0 80), some (vi q1.1), some (vi q5.1), some (vi q7.1), some (vi q4.1)]) (st' := [vi (q7.2.1 80 13), vi q1.1]) (h' := q7.2) 80 3 (Nat.le_of_ble_eq_true rfl) tk_R_clause rfl rfl ⟨trivial, trivial, trivial, trivial⟩ ?_
              refine Ev.icmp_ne 83 161 tk_R_clause rfl (by decide) (fun hc14 => ?_) (fun hc14 => ?_)
              · replace hx := ia hc14 hx
                obtain rfl := Option.some.inj hx
                obtain ⟨rfl, rfl⟩ := hP
                exact Ev.vret 86 tk_R_clause rfl rfl
              · replace hx := ip hc14 hx
                refine Ev.blk (pc' := 158) (lv' := [some (vr 12 0 80), some (vi q1.1), some (vi q5.1), some (vi q7.1), some (vi q4.1)]) (st' := [vi q5.1]) (h' := q7.2) 84 1 (Nat.le_of_ble_eq_true rfl) tk_R_clause rfl rfl ⟨trivial, trivial⟩ ?_
                refine Ev.if_ne 85 162 tk_R_clause rfl (by decide) (fun hc15 => ?_) (fun hc15 => ?_)
                · replace hx := ia hc15 hx
                  refine Ev.blk (pc' := 172) (lv' := [some (vr 12 0 80), some (vi q1.1), some (vi q5.1), some (vi q7.1), some (vi q4.1)]) (st' := []) (h' := (wI (wI q7.2 80 17 (ii 1)) 80 14 q7.1)) 87 6 (Nat.le_of_ble_eq_true rfl) tk_R_clause rfl rfl ⟨trivial, trivial, (by decide), trivial, trivial, trivial, trivial⟩ ?_
                  obtain rfl := Option.some.inj hx
                  obtain ⟨rfl, rfl⟩ := hP
                  exact Ev.vret 93 tk_R_clause rfl rfl
                · replace hx := ip hc15 hx
                  obtain rfl := Option.some.inj hx
                  obtain ⟨rfl, rfl⟩ := hP
                  exact Ev.vret 86 tk_R_clause rfl rfl
        · replace hx := ip hc10 hx
          obtain rfl := Option.some.inj hx
          obtain ⟨rfl, rfl⟩ := hP
          exact Ev.vret 44 tk_R_clause rfl rfl
      · replace hx := ia hc7 hx
        refine Ev.blk (pc' := 61) (lv' := [some (vr 12 0 80), some (vi q1.1), some (vi (ii 1)), some (vi (ii 0)), some (vi q4.1)]) (st' := [vi (ii 40), vi q4.1]) (h' := q4.2) 32 2 (Nat.le_of_ble_eq_true rfl) tk_R_clause rfl rfl ⟨trivial, trivial, trivial⟩ ?_
        refine Ev.icmp_ne 34 89 tk_R_clause rfl (by decide) (fun hc16 => ?_) (fun hc16 => ?_)
        · replace hx := ia hc16 hx
          refine Ev.blk (pc' := 90) (lv' := [some (vr 12 0 80), some (vi q1.1), some (vi (ii 1)), some (vi (ii 0)), some (vi q4.1)]) (st' := [vr 12 0 80]) (h' := q4.2) 49 1 (Nat.le_of_ble_eq_true rfl) tk_R_clause rfl rfl ⟨trivial, trivial⟩ ?_
          obtain ⟨q8, hq17, hx⟩ := bd hx
          refine Ev.callV (ν := (m_R_sum 40)) (av := []) (rest := []) (r1 := some (vi q8.1)) (h1 := q8.2) (ci := 12) (nn := 0) (o := 80) 50 0 tk_R_clause rfl (bb_R_sum _) (vv_R_sum _) lk_12_167 (by decide) rfl rfl (Or.inl rfl) (Nat.le_of_ble_eq_true rfl) (t_R_sum Γ 40 q4.2 _ hq17) ?_
          show Ev Γ m_R_clause 93 [some (vr 12 0 80), some (vi q1.1), some (vi (ii 1)), some (vi (ii 0)), some (vi q4.1)] [vi q8.1] q8.2 r h'
          refine Ev.blk (pc' := 99) (lv' := [some (vr 12 0 80), some (vi q1.1), some (vi (ii 1)), some (vi q8.1), some (vi q4.1)]) (st' := [vi (ii (-1)), vi (q8.2.1 80 11)]) (h' := q8.2) 51 4 (Nat.le_of_ble_eq_true rfl) tk_R_clause rfl rfl ⟨trivial, trivial, trivial, trivial, trivial⟩ ?_
          refine Ev.icmp_ne 55 134 tk_R_clause rfl (by decide) (fun hc18 => ?_) (fun hc18 => ?_)
          · replace hx := ia hc18 hx
            refine Ev.blk (pc' := 139) (lv' := [some (vr 12 0 80), some (vi q1.1), some (vi (ii 1)), some (vi q8.1), some (vi q4.1)]) (st' := [vi (ii (-1)), vi (q8.2.1 80 11)]) (h' := q8.2) 73 3 (Nat.le_of_ble_eq_true rfl) tk_R_clause rfl rfl ⟨trivial, trivial, trivial, trivial⟩ ?_
            refine Ev.icmp_ne 76 161 tk_R_clause rfl (by decide) (fun hc19 => ?_) (fun hc19 => ?_)
            · replace hx := ia hc19 hx
              obtain rfl := Option.some.inj hx
              obtain ⟨rfl, rfl⟩ := hP
              exact Ev.vret 86 tk_R_clause rfl rfl
            · replace hx := ip hc19 hx
              refine Ev.blk (pc' := 146) (lv' := [some (vr 12 0 80), some (vi q1.1), some (vi (ii 1)), some (vi q8.1), some (vi q4.1)]) (st' := [vi (q8.2.1 80 17)]) (h' := q8.2) 77 2 (Nat.le_of_ble_eq_true rfl) tk_R_clause rfl rfl ⟨trivial, trivial, trivial⟩ ?_
              refine Ev.if_ne 79 161 tk_R_clause rfl (by decide) (fun hc20 => ?_) (fun hc20 => ?_)
              · replace hx := ia hc20 hx
                obtain rfl := Option.some.inj hx
                obtain ⟨rfl, rfl⟩ := hP
                exact Ev.vret 86 tk_R_clause rfl rfl
              · replace hx := ip hc20 hx
                refine Ev.blk (pc' := 154) (lv' := [some (vr 12 0 80), some (vi q1.1), some (vi (ii 1)), some (vi q8.1), some (vi q4.1)]) (st' := [vi (q8.2.1 80 13), vi q1.1]) (h' := q8.2) 80 3 (Nat.le_of_ble_eq_true rfl) tk_R_clause rfl rfl ⟨trivial, trivial, trivial, trivial⟩ ?_
                refine Ev.icmp_ne 83 161 tk_R_clause rfl (by decide) (fun hc21 => ?_) (fun hc21 => ?_)
                · replace hx := ia hc21 hx
                  obtain rfl := Option.some.inj hx
                  obtain ⟨rfl, rfl⟩ := hP
                  exact Ev.vret 86 tk_R_clause rfl rfl
                · replace hx := ip hc21 hx
                  refine Ev.blk (pc' := 158) (lv' := [some (vr 12 0 80), some (vi q1.1), some (vi (ii 1)), some (vi q8.1), some (vi q4.1)]) (st' := [vi (ii 1)]) (h' := q8.2) 84 1 (Nat.le_of_ble_eq_true rfl) tk_R_clause rfl rfl ⟨trivial, trivial⟩ ?_
                  refine Ev.if_ne 85 162 tk_R_clause rfl (by decide) (fun _ => ?_) (fun hc => absurd hc (by decide))
                  refine Ev.blk (pc' := 172) (lv' := [some (vr 12 0 80), some (vi q1.1), some (vi (ii 1)), some (vi q8.1), some (vi q4.1)]) (st' := []) (h' := (wI (wI q8.2 80 17 (ii 1)) 80 14 q8.1)) 87 6 (Nat.le_of_ble_eq_true rfl) tk_R_clause rfl rfl ⟨trivial, trivial, (by decide), trivial, trivial, trivial, trivial⟩ ?_
                  obtain rfl := Option.some.inj hx
                  obtain ⟨rfl, rfl⟩ := hP
                  exact Ev.vret 93 tk_R_clause rfl rfl
          · replace hx := ip hc18 hx
            refine Ev.blk (pc' := 103) (lv' := [some (vr 12 0 80), some (vi q1.1), some (vi (ii 1)), some (vi q8.1), some (vi q4.1)]) (st' := [vr 12 0 80]) (h' := q8.2) 56 1 (Nat.le_of_ble_eq_true rfl) tk_R_clause rfl rfl ⟨trivial, trivial⟩ ?_
            obtain ⟨q9, hq22, hx⟩ := bd hx
            refine Ev.callV (ν := m_R_look) (av := []) (rest := []) (r1 := some (vi q9.1)) (h1 := q9.2) (ci := 12) (nn := 0) (o := 80) 57 0 tk_R_clause rfl bb_R_look vv_R_look lk_12_144 (by decide) rfl rfl (Or.inl rfl) (Nat.le_of_ble_eq_true rfl) (s_R_look Γ q8.2 _ hq22) ?_
            show Ev Γ m_R_clause 106 [some (vr 12 0 80), some (vi q1.1), some (vi (ii 1)), some (vi q8.1), some (vi q4.1)] [vi q9.1] q9.2 r h'
            refine Ev.callS (ν := m_R_isSign) (av := [vi q9.1]) (rest := []) (r1 := some (vi (p_R_isSign q9.1))) (h1 := q9.2) 58 1 tk_R_clause rfl bb_R_isSign vv_R_isSign lk_12_187 (by decide) rfl rfl (Nat.le_of_ble_eq_true rfl) (s_R_isSign Γ q9.1 q9.2) ?_
            show Ev Γ m_R_clause 109 [some (vr 12 0 80), some (vi q1.1), some (vi (ii 1)), some (vi q8.1), some (vi q4.1)] [vi (p_R_isSign q9.1)] q9.2 r h'
            refine Ev.if_eq 59 134 tk_R_clause rfl (by decide) (fun hc23 => ?_) (fun hc23 => ?_)
            · replace hx := ip hc23 hx
              refine Ev.blk (pc' := 139) (lv' := [some (vr 12 0 80), some (vi q1.1), some (vi (ii 1)), some (vi q8.1), some (vi q4.1)]) (st' := [vi (ii (-1)), vi (q9.2.1 80 11)]) (h' := q9.2) 73 3 (Nat.le_of_ble_eq_true rfl) tk_R_clause rfl rfl ⟨trivial, trivial, trivial, trivial⟩ ?_
              refine Ev.icmp_ne 76 161 tk_R_clause rfl (by decide) (fun hc24 => ?_) (fun hc24 => ?_)
              · replace hx := ia hc24 hx
                obtain rfl := Option.some.inj hx
                obtain ⟨rfl, rfl⟩ := hP
                exact Ev.vret 86 tk_R_clause rfl rfl
              · replace hx := ip hc24 hx
                refine Ev.blk (pc' := 146) (lv' := [some (vr 12 0 80), some (vi q1.1), some (vi (ii 1)), some (vi q8.1), some (vi q4.1)]) (st' := [vi (q9.2.1 80 17)]) (h' := q9.2) 77 2 (Nat.le_of_ble_eq_true rfl) tk_R_clause rfl rfl ⟨trivial, trivial, trivial⟩ ?_
                refine Ev.if_ne 79 161 tk_R_clause rfl (by decide) (fun hc25 => ?_) (fun hc25 => ?_)
                · replace hx := ia hc25 hx
                  obtain rfl := Option.some.inj hx
                  obtain ⟨rfl, rfl⟩ := hP
                  exact Ev.vret 86 tk_R_clause rfl rfl
                · replace hx := ip hc25 hx
                  refine Ev.blk (pc' := 154) (lv' := [some (vr 12 0 80), some (vi q1.1), some (vi (ii 1)), some (vi q8.1), some (vi q4.1)]) (st' := [vi (q9.2.1 80 13), vi q1.1]) (h' := q9.2) 80 3 (Nat.le_of_ble_eq_true rfl) tk_R_clause rfl rfl ⟨trivial, trivial, trivial, trivial⟩ ?_
                  refine Ev.icmp_ne 83 161 tk_R_clause rfl (by decide) (fun hc26 => ?_) (fun hc26 => ?_)
                  · replace hx := ia hc26 hx
                    obtain rfl := Option.some.inj hx
                    obtain ⟨rfl, rfl⟩ := hP
                    exact Ev.vret 86 tk_R_clause rfl rfl
                  · replace hx := ip hc26 hx
                    refine Ev.blk (pc' := 158) (lv' := [some (vr 12 0 80), some (vi q1.1), some (vi (ii 1)), some (vi q8.1), some (vi q4.1)]) (st' := [vi (ii 1)]) (h' := q9.2) 84 1 (Nat.le_of_ble_eq_true rfl) tk_R_clause rfl rfl ⟨trivial, trivial⟩ ?_
                    refine Ev.if_ne 85 162 tk_R_clause rfl (by decide) (fun _ => ?_) (fun hc => absurd hc (by decide))
                    refine Ev.blk (pc' := 172) (lv' := [some (vr 12 0 80), some (vi q1.1), some (vi (ii 1)), some (vi q8.1), some (vi q4.1)]) (st' := []) (h' := (wI (wI q9.2 80 17 (ii 1)) 80 14 q8.1)) 87 6 (Nat.le_of_ble_eq_true rfl) tk_R_clause rfl rfl ⟨trivial, trivial, (by decide), trivial, trivial, trivial, trivial⟩ ?_
                    obtain rfl := Option.some.inj hx
                    obtain ⟨rfl, rfl⟩ := hP
                    exact Ev.vret 93 tk_R_clause rfl rfl
            · replace hx := ia hc23 hx
              refine Ev.blk (pc' := 115) (lv' := [some (vr 12 0 80), some (vi q1.1), some (vi (ii 1)), some (vi q8.1), some (vi q4.1)]) (st' := [vi q8.1, vi (ii 1), vr 12 0 80]) (h' := q9.2) 60 3 (Nat.le_of_ble_eq_true rfl) tk_R_clause rfl rfl ⟨trivial, trivial, trivial, trivial⟩ ?_
              obtain ⟨q10, hq27, hx⟩ := bd hx
              refine Ev.callV (ν := (m_R_condition 40)) (av := [vi (ii 1), vi q8.1]) (rest := []) (r1 := some (vi q10.1)) (h1 := q10.2) (ci := 12) (nn := 0) (o := 80) 63 2 tk_R_clause rfl (bb_R_condition _) (vv_R_condition _) lk_12_193 (by decide) rfl rfl (Or.inl rfl) (Nat.le_of_ble_eq_true rfl) (t_R_condition Γ 40 (ii 1) q8.1 q9.2 _ hq27) ?_
              show Ev Γ m_R_clause 118 [some (vr 12 0 80), some (vi q1.1), some (vi (ii 1)), some (vi q8.1), some (vi q4.1)] [vi q10.1] q10.2 r h'
              refine Ev.blk (pc' := 122) (lv' := [some (vr 12 0 80), some (vi q1.1), some (vi q10.1), some (vi q8.1), some (vi q4.1)]) (st' := [vi (ii 63), vr 12 0 80]) (h' := q10.2) 64 3 (Nat.le_of_ble_eq_true rfl) tk_R_clause rfl rfl ⟨trivial, trivial, trivial, trivial⟩ ?_
              obtain ⟨q11, hq28, hx⟩ := bd hx
              refine Ev.callV (ν := m_R_takes) (av := [vi (ii 63)]) (rest := []) (r1 := some (vi q11.1)) (h1 := q11.2) (ci := 12) (nn := 0) (o := 80) 67 1 tk_R_clause rfl bb_R_takes vv_R_takes lk_12_170 (by decide) rfl rfl (Or.inl rfl) (Nat.le_of_ble_eq_true rfl) (s_R_takes Γ (ii 63) q10.2 _ hq28) ?_
              show Ev Γ m_R_clause 125 [some (vr 12 0 80), some (vi q1.1), some (vi q10.1), some (vi q8.1), some (vi q4.1)] [vi q11.1] q11.2 r h'
              refine Ev.if_ne 68 129 tk_R_clause rfl (by decide) (fun hc29 => ?_) (fun hc29 => ?_)
              · replace hx := ia hc29 hx
                refine Ev.blk (pc' := 130) (lv' := [some (vr 12 0 80), some (vi q1.1), some (vi q10.1), some (vi q8.1), some (vi q4.1)]) (st' := [vr 12 0 80]) (h' := q11.2) 70 1 (Nat.le_of_ble_eq_true rfl) tk_R_clause rfl rfl ⟨trivial, trivial⟩ ?_
                obtain ⟨q12, hq30, hx⟩ := bd hx
                refine Ev.callV (ν := (m_R_sum 40)) (av := []) (rest := []) (r1 := some (vi q12.1)) (h1 := q12.2) (ci := 12) (nn := 0) (o := 80) 71 0 tk_R_clause rfl (bb_R_sum _) (vv_R_sum _) lk_12_167 (by decide) rfl rfl (Or.inl rfl) (Nat.le_of_ble_eq_true rfl) (t_R_sum Γ 40 q11.2 _ hq30) ?_
                show Ev Γ m_R_clause 133 [some (vr 12 0 80), some (vi q1.1), some (vi q10.1), some (vi q8.1), some (vi q4.1)] [vi q12.1] q12.2 r h'
                refine Ev.blk (pc' := 139) (lv' := [some (vr 12 0 80), some (vi q1.1), some (vi q10.1), some (vi q12.1), some (vi q4.1)]) (st' := [vi (ii (-1)), vi (q12.2.1 80 11)]) (h' := q12.2) 72 4 (Nat.le_of_ble_eq_true rfl) tk_R_clause rfl rfl ⟨trivial, trivial, trivial, trivial, trivial⟩ ?_
                refine Ev.icmp_ne 76 161 tk_R_clause rfl (by decide) (fun hc31 => ?_) (fun hc31 => ?_)
                · replace hx := ia hc31 hx
                  obtain rfl := Option.some.inj hx
                  obtain ⟨rfl, rfl⟩ := hP
                  exact Ev.vret 86 tk_R_clause rfl rfl
                · replace hx := ip hc31 hx
                  refine Ev.blk (pc' := 146) (lv' := [some (vr 12 0 80), some (vi q1.1), some (vi q10.1), some (vi q12.1), some (vi q4.1)]) (st' := [vi (q12.2.1 80 17)]) (h' := q12.2) 77 2 (Nat.le_of_ble_eq_true rfl) tk_R_clause rfl rfl ⟨trivial, trivial, trivial⟩ ?_
                  refine Ev.if_ne 79 161 tk_R_clause rfl (by decide) (fun hc32 => ?_) (fun hc32 => ?_)
                  · replace hx := ia hc32 hx
                    obtain rfl := Option.some.inj hx
                    obtain ⟨rfl, rfl⟩ := hP
                    exact Ev.vret 86 tk_R_clause rfl rfl
                  · replace hx := ip hc32 hx
                    refine Ev.blk (pc' := 154) (lv' := [some (vr 12 0 80), some (vi q1.1), some (vi q10.1), some (vi q12.1), some (vi q4.1)]) (st' := [vi (q12.2.1 80 13), vi q1.1]) (h' := q12.2) 80 3 (Nat.le_of_ble_eq_true rfl) tk_R_clause rfl rfl ⟨trivial, trivial, trivial, trivial⟩ ?_
                    refine Ev.icmp_ne 83 161 tk_R_clause rfl (by decide) (fun hc33 => ?_) (fun hc33 => ?_)
                    · replace hx := ia hc33 hx
                      obtain rfl := Option.some.inj hx
                      obtain ⟨rfl, rfl⟩ := hP
                      exact Ev.vret 86 tk_R_clause rfl rfl
                    · replace hx := ip hc33 hx
                      refine Ev.blk (pc' := 158) (lv' := [some (vr 12 0 80), some (vi q1.1), some (vi q10.1), some (vi q12.1), some (vi q4.1)]) (st' := [vi q10.1]) (h' := q12.2) 84 1 (Nat.le_of_ble_eq_true rfl) tk_R_clause rfl rfl ⟨trivial, trivial⟩ ?_
                      refine Ev.if_ne 85 162 tk_R_clause rfl (by decide) (fun hc34 => ?_) (fun hc34 => ?_)
                      · replace hx := ia hc34 hx
                        refine Ev.blk (pc' := 172) (lv' := [some (vr 12 0 80), some (vi q1.1), some (vi q10.1), some (vi q12.1), some (vi q4.1)]) (st' := []) (h' := (wI (wI q12.2 80 17 (ii 1)) 80 14 q12.1)) 87 6 (Nat.le_of_ble_eq_true rfl) tk_R_clause rfl rfl ⟨trivial, trivial, (by decide), trivial, trivial, trivial, trivial⟩ ?_
                        obtain rfl := Option.some.inj hx
                        obtain ⟨rfl, rfl⟩ := hP
                        exact Ev.vret 93 tk_R_clause rfl rfl
                      · replace hx := ip hc34 hx
                        obtain rfl := Option.some.inj hx
                        obtain ⟨rfl, rfl⟩ := hP
                        exact Ev.vret 86 tk_R_clause rfl rfl
              · replace hx := ip hc29 hx
                obtain rfl := Option.some.inj hx
                obtain ⟨rfl, rfl⟩ := hP
                exact Ev.vret 69 tk_R_clause rfl rfl
        · replace hx := ip hc16 hx
          refine Ev.blk (pc' := 67) (lv' := [some (vr 12 0 80), some (vi q1.1), some (vi (ii 1)), some (vi (ii 0)), some (vi q4.1)]) (st' := [vi (ii 0), vi (ii 0), vr 12 0 80]) (h' := q4.2) 35 3 (Nat.le_of_ble_eq_true rfl) tk_R_clause rfl rfl ⟨trivial, trivial, trivial, trivial⟩ ?_
          obtain ⟨q13, hq35, hx⟩ := bd hx
          refine Ev.callV (ν := (m_R_condition 40)) (av := [vi (ii 0), vi (ii 0)]) (rest := []) (r1 := some (vi q13.1)) (h1 := q13.2) (ci := 12) (nn := 0) (o := 80) 38 2 tk_R_clause rfl (bb_R_condition _) (vv_R_condition _) lk_12_193 (by decide) rfl rfl (Or.inl rfl) (Nat.le_of_ble_eq_true rfl) (t_R_condition Γ 40 (ii 0) (ii 0) q4.2 _ hq35) ?_
          show Ev Γ m_R_clause 70 [some (vr 12 0 80), some (vi q1.1), some (vi (ii 1)), some (vi (ii 0)), some (vi q4.1)] [vi q13.1] q13.2 r h'
          refine Ev.blk (pc' := 74) (lv' := [some (vr 12 0 80), some (vi q1.1), some (vi q13.1), some (vi (ii 0)), some (vi q4.1)]) (st' := [vi (ii 63), vr 12 0 80]) (h' := q13.2) 39 3 (Nat.le_of_ble_eq_true rfl) tk_R_clause rfl rfl ⟨trivial, trivial, trivial, trivial⟩ ?_
          obtain ⟨q14, hq36, hx⟩ := bd hx
          refine Ev.callV (ν := m_R_takes) (av := [vi (ii 63)]) (rest := []) (r1 := some (vi q14.1)) (h1 := q14.2) (ci := 12) (nn := 0) (o := 80) 42 1 tk_R_clause rfl bb_R_takes vv_R_takes lk_12_170 (by decide) rfl rfl (Or.inl rfl) (Nat.le_of_ble_eq_true rfl) (s_R_takes Γ (ii 63) q13.2 _ hq36) ?_
          show Ev Γ m_R_clause 77 [some (vr 12 0 80), some (vi q1.1), some (vi q13.1), some (vi (ii 0)), some (vi q4.1)] [vi q14.1] q14.2 r h'
          refine Ev.if_ne 43 81 tk_R_clause rfl (by decide) (fun hc37 => ?_) (fun hc37 => ?_)
          · replace hx := ia hc37 hx
            refine Ev.blk (pc' := 82) (lv' := [some (vr 12 0 80), some (vi q1.1), some (vi q13.1), some (vi (ii 0)), some (vi q4.1)]) (st' := [vr 12 0 80]) (h' := q14.2) 45 1 (Nat.le_of_ble_eq_true rfl) tk_R_clause rfl rfl ⟨trivial, trivial⟩ ?_
            obtain ⟨q15, hq38, hx⟩ := bd hx
            refine Ev.callV (ν := (m_R_sum 40)) (av := []) (rest := []) (r1 := some (vi q15.1)) (h1 := q15.2) (ci := 12) (nn := 0) (o := 80) 46 0 tk_R_clause rfl (bb_R_sum _) (vv_R_sum _) lk_12_167 (by decide) rfl rfl (Or.inl rfl) (Nat.le_of_ble_eq_true rfl) (t_R_sum Γ 40 q14.2 _ hq38) ?_
            show Ev Γ m_R_clause 85 [some (vr 12 0 80), some (vi q1.1), some (vi q13.1), some (vi (ii 0)), some (vi q4.1)] [vi q15.1] q15.2 r h'
            refine Ev.blk (pc' := 134) (lv' := [some (vr 12 0 80), some (vi q1.1), some (vi q13.1), some (vi q15.1), some (vi q4.1)]) (st' := []) (h' := q15.2) 47 2 (Nat.le_of_ble_eq_true rfl) tk_R_clause rfl rfl ⟨trivial, trivial, trivial⟩ ?_
            refine Ev.blk (pc' := 139) (lv' := [some (vr 12 0 80), some (vi q1.1), some (vi q13.1), some (vi q15.1), some (vi q4.1)]) (st' := [vi (ii (-1)), vi (q15.2.1 80 11)]) (h' := q15.2) 73 3 (Nat.le_of_ble_eq_true rfl) tk_R_clause rfl rfl ⟨trivial, trivial, trivial, trivial⟩ ?_
            refine Ev.icmp_ne 76 161 tk_R_clause rfl (by decide) (fun hc39 => ?_) (fun hc39 => ?_)
            · replace hx := ia hc39 hx
              obtain rfl := Option.some.inj hx
              obtain ⟨rfl, rfl⟩ := hP
              exact Ev.vret 86 tk_R_clause rfl rfl
            · replace hx := ip hc39 hx
              refine Ev.blk (pc' := 146) (lv' := [some (vr 12 0 80), some (vi q1.1), some (vi q13.1), some (vi q15.1), some (vi q4.1)]) (st' := [vi (q15.2.1 80 17)]) (h' := q15.2) 77 2 (Nat.le_of_ble_eq_true rfl) tk_R_clause rfl rfl ⟨trivial, trivial, trivial⟩ ?_
              refine Ev.if_ne 79 161 tk_R_clause rfl (by decide) (fun hc40 => ?_) (fun hc40 => ?_)
              · replace hx := ia hc40 hx
                obtain rfl := Option.some.inj hx
                obtain ⟨rfl, rfl⟩ := hP
                exact Ev.vret 86 tk_R_clause rfl rfl
              · replace hx := ip hc40 hx
                refine Ev.blk (pc' := 154) (lv' := [some (vr 12 0 80), some (vi q1.1), some (vi q13.1), some (vi q15.1), some (vi q4.1)]) (st' := [vi (q15.2.1 80 13), vi q1.1]) (h' := q15.2) 80 3 (Nat.le_of_ble_eq_true rfl) tk_R_clause rfl rfl ⟨trivial, trivial, trivial, trivial⟩ ?_
                refine Ev.icmp_ne 83 161 tk_R_clause rfl (by decide) (fun hc41 => ?_) (fun hc41 => ?_)
                · replace hx := ia hc41 hx
                  obtain rfl := Option.some.inj hx
                  obtain ⟨rfl, rfl⟩ := hP
                  exact Ev.vret 86 tk_R_clause rfl rfl
                · replace hx := ip hc41 hx
                  refine Ev.blk (pc' := 158) (lv' := [some (vr 12 0 80), some (vi q1.1), some (vi q13.1), some (vi q15.1), some (vi q4.1)]) (st' := [vi q13.1]) (h' := q15.2) 84 1 (Nat.le_of_ble_eq_true rfl) tk_R_clause rfl rfl ⟨trivial, trivial⟩ ?_
                  refine Ev.if_ne 85 162 tk_R_clause rfl (by decide) (fun hc42 => ?_) (fun hc42 => ?_)
                  · replace hx := ia hc42 hx
                    refine Ev.blk (pc' := 172) (lv' := [some (vr 12 0 80), some (vi q1.1), some (vi q13.1), some (vi q15.1), some (vi q4.1)]) (st' := []) (h' := (wI (wI q15.2 80 17 (ii 1)) 80 14 q15.1)) 87 6 (Nat.le_of_ble_eq_true rfl) tk_R_clause rfl rfl ⟨trivial, trivial, (by decide), trivial, trivial, trivial, trivial⟩ ?_
                    obtain rfl := Option.some.inj hx
                    obtain ⟨rfl, rfl⟩ := hP
                    exact Ev.vret 93 tk_R_clause rfl rfl
                  · replace hx := ip hc42 hx
                    obtain rfl := Option.some.inj hx
                    obtain ⟨rfl, rfl⟩ := hP
                    exact Ev.vret 86 tk_R_clause rfl rfl
          · replace hx := ip hc37 hx
            obtain rfl := Option.some.inj hx
            obtain ⟨rfl, rfl⟩ := hP
            exact Ev.vret 44 tk_R_clause rfl rfl
    · replace hx := ip hc5 hx
      obtain rfl := Option.some.inj hx
      obtain ⟨rfl, rfl⟩ := hP
      exact Ev.vret 21 tk_R_clause rfl rfl
  · replace hx := ip hc3 hx
    refine Ev.blk (pc' := 15) (lv' := [some (vr 12 0 80), some (vi q1.1), none, none, none]) (st' := [vr 12 0 80]) (h' := q1.2) 7 1 (Nat.le_of_ble_eq_true rfl) tk_R_clause rfl rfl ⟨trivial, trivial⟩ ?_
    obtain ⟨q16, hq43, hx⟩ := bd hx
    refine Ev.callV (ν := m_R_fails) (av := []) (rest := []) (r1 := some (vi q16.1)) (h1 := q16.2) (ci := 12) (nn := 0) (o := 80) 8 0 tk_R_clause rfl bb_R_fails vv_R_fails lk_12_140 (by decide) rfl rfl (Or.inl rfl) (Nat.le_of_ble_eq_true rfl) (s_R_fails Γ q1.2 _ hq43) ?_
    show Ev Γ m_R_clause 18 [some (vr 12 0 80), some (vi q1.1), none, none, none] [vi q16.1] q16.2 r h'
    refine Ev.blk (pc' := 19) (lv' := [some (vr 12 0 80), some (vi q1.1), none, none, none]) (st' := []) (h' := q16.2) 9 1 (Nat.le_of_ble_eq_true rfl) tk_R_clause rfl rfl ⟨trivial, trivial⟩ ?_
    obtain rfl := Option.some.inj hx
    obtain ⟨rfl, rfl⟩ := hP
    exact Ev.vret 10 tk_R_clause rfl rfl
set_option maxRecDepth 4000 in
theorem l_R_goThrough_L32 (Γ : AG) : ∀ (n : Nat) (h : AH) (x : AH), R_goThrough_L32 n  h = some x → ∀ (r : Option AV) (h' : AH), r = none ∧ h' = x → Ev Γ m_R_goThrough 32 [some (vr 12 0 80), none, none, none] [] h r h' := by
  intro n
  induction n with
  | zero => intro  h x hx; cases hx
  | succ n ih =>
    intro  h x hx r h' hP
    replace hx : R_goThrough_L32_b (R_goThrough_L32 n)  h = some x := hx
    unfold R_goThrough_L32_b at hx
    refine Ev.blk (pc' := 37) (lv' := [some (vr 12 0 80), none, none, none]) (st' := [vi (ii (-1)), vi (h.1 80 11)]) (h' := h) 19 3 (Nat.le_of_ble_eq_true rfl) tk_R_goThrough rfl rfl ⟨trivial, trivial, trivial, trivial⟩ ?_
    refine Ev.icmp_ne 22 66 tk_R_goThrough rfl (by decide) (fun hc1 => ?_) (fun hc1 => ?_)
    · replace hx := ia hc1 hx
      refine Ev.blk (pc' := 71) (lv' := [some (vr 12 0 80), none, none, none]) (st' := [vi (ii (-1)), vi (h.1 80 11)]) (h' := h) 36 3 (Nat.le_of_ble_eq_true rfl) tk_R_goThrough rfl rfl ⟨trivial, trivial, trivial, trivial⟩ ?_
      refine Ev.icmp_ne 39 87 tk_R_goThrough rfl (by decide) (fun hc2 => ?_) (fun hc2 => ?_)
      · replace hx := ia hc2 hx
        obtain rfl := Option.some.inj hx
        obtain ⟨rfl, rfl⟩ := hP
        exact Ev.vret 47 tk_R_goThrough rfl rfl
      · replace hx := ip hc2 hx
        refine Ev.blk (pc' := 75) (lv' := [some (vr 12 0 80), none, none, none]) (st' := [vr 12 0 80]) (h' := h) 40 1 (Nat.le_of_ble_eq_true rfl) tk_R_goThrough rfl rfl ⟨trivial, trivial⟩ ?_
        obtain ⟨q1, hq3, hx⟩ := bd hx
        refine Ev.callV (ν := m_R_look) (av := []) (rest := []) (r1 := some (vi q1.1)) (h1 := q1.2) (ci := 12) (nn := 0) (o := 80) 41 0 tk_R_goThrough rfl bb_R_look vv_R_look lk_12_144 (by decide) rfl rfl (Or.inl rfl) (Nat.le_of_ble_eq_true rfl) (s_R_look Γ h _ hq3) ?_
        show Ev Γ m_R_goThrough 78 [some (vr 12 0 80), none, none, none] [vi q1.1] q1.2 r h'
        refine Ev.blk (pc' := 79) (lv' := [some (vr 12 0 80), none, none, none]) (st' := [vi (ii (-1)), vi q1.1]) (h' := q1.2) 42 1 (Nat.le_of_ble_eq_true rfl) tk_R_goThrough rfl rfl ⟨trivial, trivial⟩ ?_
        refine Ev.icmp_eq 43 87 tk_R_goThrough rfl (by decide) (fun hc4 => ?_) (fun hc4 => ?_)
        · replace hx := ip hc4 hx
          obtain rfl := Option.some.inj hx
          obtain ⟨rfl, rfl⟩ := hP
          exact Ev.vret 47 tk_R_goThrough rfl rfl
        · replace hx := ia hc4 hx
          refine Ev.blk (pc' := 83) (lv' := [some (vr 12 0 80), none, none, none]) (st' := [vr 12 0 80]) (h' := q1.2) 44 1 (Nat.le_of_ble_eq_true rfl) tk_R_goThrough rfl rfl ⟨trivial, trivial⟩ ?_
          obtain ⟨q2, hq5, hx⟩ := bd hx
          refine Ev.callV (ν := m_R_fails) (av := []) (rest := []) (r1 := some (vi q2.1)) (h1 := q2.2) (ci := 12) (nn := 0) (o := 80) 45 0 tk_R_goThrough rfl bb_R_fails vv_R_fails lk_12_140 (by decide) rfl rfl (Or.inl rfl) (Nat.le_of_ble_eq_true rfl) (s_R_fails Γ q1.2 _ hq5) ?_
          show Ev Γ m_R_goThrough 86 [some (vr 12 0 80), none, none, none] [vi q2.1] q2.2 r h'
          refine Ev.blk (pc' := 87) (lv' := [some (vr 12 0 80), none, none, none]) (st' := []) (h' := q2.2) 46 1 (Nat.le_of_ble_eq_true rfl) tk_R_goThrough rfl rfl ⟨trivial, trivial⟩ ?_
          obtain rfl := Option.some.inj hx
          obtain ⟨rfl, rfl⟩ := hP
          exact Ev.vret 47 tk_R_goThrough rfl rfl
    · replace hx := ip hc1 hx
      refine Ev.blk (pc' := 41) (lv' := [some (vr 12 0 80), none, none, none]) (st' := [vr 12 0 80]) (h' := h) 23 1 (Nat.le_of_ble_eq_true rfl) tk_R_goThrough rfl rfl ⟨trivial, trivial⟩ ?_
      obtain ⟨q3, hq6, hx⟩ := bd hx
      refine Ev.callV (ν := m_R_look) (av := []) (rest := []) (r1 := some (vi q3.1)) (h1 := q3.2) (ci := 12) (nn := 0) (o := 80) 24 0 tk_R_goThrough rfl bb_R_look vv_R_look lk_12_144 (by decide) rfl rfl (Or.inl rfl) (Nat.le_of_ble_eq_true rfl) (s_R_look Γ h _ hq6) ?_
      show Ev Γ m_R_goThrough 44 [some (vr 12 0 80), none, none, none] [vi q3.1] q3.2 r h'
      refine Ev.blk (pc' := 46) (lv' := [some (vr 12 0 80), none, none, none]) (st' := [vi (ii 59), vi q3.1]) (h' := q3.2) 25 1 (Nat.le_of_ble_eq_true rfl) tk_R_goThrough rfl rfl ⟨trivial, trivial⟩ ?_
      refine Ev.icmp_ne 26 66 tk_R_goThrough rfl (by decide) (fun hc7 => ?_) (fun hc7 => ?_)
      · replace hx := ia hc7 hx
        refine Ev.blk (pc' := 71) (lv' := [some (vr 12 0 80), none, none, none]) (st' := [vi (ii (-1)), vi (q3.2.1 80 11)]) (h' := q3.2) 36 3 (Nat.le_of_ble_eq_true rfl) tk_R_goThrough rfl rfl ⟨trivial, trivial, trivial, trivial⟩ ?_
        refine Ev.icmp_ne 39 87 tk_R_goThrough rfl (by decide) (fun hc8 => ?_) (fun hc8 => ?_)
        · replace hx := ia hc8 hx
          obtain rfl := Option.some.inj hx
          obtain ⟨rfl, rfl⟩ := hP
          exact Ev.vret 47 tk_R_goThrough rfl rfl
        · replace hx := ip hc8 hx
          refine Ev.blk (pc' := 75) (lv' := [some (vr 12 0 80), none, none, none]) (st' := [vr 12 0 80]) (h' := q3.2) 40 1 (Nat.le_of_ble_eq_true rfl) tk_R_goThrough rfl rfl ⟨trivial, trivial⟩ ?_
          obtain ⟨q4, hq9, hx⟩ := bd hx
          refine Ev.callV (ν := m_R_look) (av := []) (rest := []) (r1 := some (vi q4.1)) (h1 := q4.2) (ci := 12) (nn := 0) (o := 80) 41 0 tk_R_goThrough rfl bb_R_look vv_R_look lk_12_144 (by decide) rfl rfl (Or.inl rfl) (Nat.le_of_ble_eq_true rfl) (s_R_look Γ q3.2 _ hq9) ?_
          show Ev Γ m_R_goThrough 78 [some (vr 12 0 80), none, none, none] [vi q4.1] q4.2 r h'
          refine Ev.blk (pc' := 79) (lv' := [some (vr 12 0 80), none, none, none]) (st' := [vi (ii (-1)), vi q4.1]) (h' := q4.2) 42 1 (Nat.le_of_ble_eq_true rfl) tk_R_goThrough rfl rfl ⟨trivial, trivial⟩ ?_
          refine Ev.icmp_eq 43 87 tk_R_goThrough rfl (by decide) (fun hc10 => ?_) (fun hc10 => ?_)
          · replace hx := ip hc10 hx
            obtain rfl := Option.some.inj hx
            obtain ⟨rfl, rfl⟩ := hP
            exact Ev.vret 47 tk_R_goThrough rfl rfl
          · replace hx := ia hc10 hx
            refine Ev.blk (pc' := 83) (lv' := [some (vr 12 0 80), none, none, none]) (st' := [vr 12 0 80]) (h' := q4.2) 44 1 (Nat.le_of_ble_eq_true rfl) tk_R_goThrough rfl rfl ⟨trivial, trivial⟩ ?_
            obtain ⟨q5, hq11, hx⟩ := bd hx
            refine Ev.callV (ν := m_R_fails) (av := []) (rest := []) (r1 := some (vi q5.1)) (h1 := q5.2) (ci := 12) (nn := 0) (o := 80) 45 0 tk_R_goThrough rfl bb_R_fails vv_R_fails lk_12_140 (by decide) rfl rfl (Or.inl rfl) (Nat.le_of_ble_eq_true rfl) (s_R_fails Γ q4.2 _ hq11) ?_
            show Ev Γ m_R_goThrough 86 [some (vr 12 0 80), none, none, none] [vi q5.1] q5.2 r h'
            refine Ev.blk (pc' := 87) (lv' := [some (vr 12 0 80), none, none, none]) (st' := []) (h' := q5.2) 46 1 (Nat.le_of_ble_eq_true rfl) tk_R_goThrough rfl rfl ⟨trivial, trivial⟩ ?_
            obtain rfl := Option.some.inj hx
            obtain ⟨rfl, rfl⟩ := hP
            exact Ev.vret 47 tk_R_goThrough rfl rfl
      · replace hx := ip hc7 hx
        refine Ev.blk (pc' := 60) (lv' := [some (vr 12 0 80), none, none, none]) (st' := [vr 12 0 80]) (h' := (wI q3.2 80 10 ((q3.2.1 80 10) + (ii 1)))) 27 7 (Nat.le_of_ble_eq_true rfl) tk_R_goThrough rfl rfl ⟨trivial, trivial, trivial, trivial, trivial, trivial, trivial, trivial⟩ ?_
        obtain ⟨q6, hq12, hx⟩ := bd hx
        refine Ev.callV (ν := m_R_clause) (av := []) (rest := []) (r1 := none) (h1 := q6) (ci := 12) (nn := 0) (o := 80) 34 0 tk_R_goThrough rfl bb_R_clause vv_R_clause lk_12_217 (by decide) rfl rfl (Or.inl rfl) (Nat.le_of_ble_eq_true rfl) (s_R_clause Γ (wI q3.2 80 10 ((q3.2.1 80 10) + (ii 1))) _ hq12) ?_
        show Ev Γ m_R_goThrough 63 [some (vr 12 0 80), none, none, none] [] q6 r h'
        refine Ev.blk (pc' := 32) (lv' := [some (vr 12 0 80), none, none, none]) (st' := []) (h' := q6) 35 1 (Nat.le_of_ble_eq_true rfl) tk_R_goThrough rfl rfl ⟨trivial, trivial⟩ ?_
        exact Ev.msk [true, false, false, false] (ih  q6 _ hx r h' hP)
set_option maxRecDepth 4000 in
theorem s_R_goThrough (Γ : AG) (n1 : Nat) (o1 : Nat) (a2 : Int32) (a3 : Int32) (h : AH) (x : AH) (hx : f_R_goThrough n1 o1 a2 a3 h = some x) : MetA Γ m_R_goThrough [vr 12 0 80, vr 21 n1 o1, vi a2, vi a3] h (none) x := by
  refine Ev.met rfl rfl (Nat.le_of_ble_eq_true rfl) ?_
  show Ev Γ m_R_goThrough 0 [some (vr 12 0 80), some (vr 21 n1 o1), some (vi a2), some (vi a3)] [] h _ _
  obtain ⟨r, hr⟩ : ∃ r : Option AV, r = none := ⟨_, rfl⟩
  obtain ⟨h', hh⟩ : ∃ h' : AH, h' = x := ⟨_, rfl⟩
  have hP : r = none ∧ h' = x := ⟨hr, hh⟩
  suffices hS : Ev Γ m_R_goThrough 0 [some (vr 12 0 80), some (vr 21 n1 o1), some (vi a2), some (vi a3)] [] h r h' by rw [hr, hh] at hS; exact hS
  clear hr hh
  unfold f_R_goThrough at hx
  refine Ev.blk (pc' := 4) (lv' := [some (vr 12 0 80), some (vr 21 n1 o1), some (vi a2), some (vi a3)]) (st' := [vi a3, vi a2, vr 21 n1 o1, vr 12 0 80]) (h' := h) 0 4 (Nat.le_of_ble_eq_true rfl) tk_R_goThrough rfl rfl ⟨trivial, trivial, trivial, trivial, trivial⟩ ?_
  obtain ⟨q1, hq1, hx⟩ := bd hx
  refine Ev.callV (ν := m_R_starts) (av := [vr 21 n1 o1, vi a2, vi a3]) (rest := []) (r1 := none) (h1 := q1) (ci := 12) (nn := 0) (o := 80) 4 3 tk_R_goThrough rfl bb_R_starts vv_R_starts lk_12_213 (by decide) rfl rfl (Or.inl rfl) (Nat.le_of_ble_eq_true rfl) (s_R_starts Γ n1 o1 a2 a3 h _ hq1) ?_
  show Ev Γ m_R_goThrough 7 [some (vr 12 0 80), some (vr 21 n1 o1), some (vi a2), some (vi a3)] [] q1 r h'
  refine Ev.blk (pc' := 29) (lv' := [some (vr 12 0 80), some (vr 21 n1 o1), some (vi a2), some (vi a3)]) (st' := [vr 12 0 80]) (h' := (wI (wI (wI (wI q1 80 13 (ii 121)) 80 12 (ii 0)) 80 17 (ii 0)) 80 14 (ii 0))) 5 13 (Nat.le_of_ble_eq_true rfl) tk_R_goThrough rfl rfl ⟨trivial, trivial, trivial, trivial, trivial, trivial, trivial, trivial, (by decide), trivial, trivial, trivial, trivial, trivial⟩ ?_
  obtain ⟨q2, hq2, hx⟩ := bd hx
  refine Ev.callV (ν := m_R_clause) (av := []) (rest := []) (r1 := none) (h1 := q2) (ci := 12) (nn := 0) (o := 80) 18 0 tk_R_goThrough rfl bb_R_clause vv_R_clause lk_12_217 (by decide) rfl rfl (Or.inl rfl) (Nat.le_of_ble_eq_true rfl) (s_R_clause Γ (wI (wI (wI (wI q1 80 13 (ii 121)) 80 12 (ii 0)) 80 17 (ii 0)) 80 14 (ii 0)) _ hq2) ?_
  show Ev Γ m_R_goThrough 32 [some (vr 12 0 80), some (vr 21 n1 o1), some (vi a2), some (vi a3)] [] q2 r h'
  refine Ev.msk [true, false, false, false] ?_
  show Ev Γ m_R_goThrough 32 [some (vr 12 0 80), none, none, none] [] q2 r h'
  exact l_R_goThrough_L32 Γ FU  q2 _ hx r h' hP
set_option maxRecDepth 4000 in
theorem l_R_readWalks_L88 (Γ : AG) : ∀ (n : Nat) (v1 : Int32) (v2 : Int32) (v4 : Int32) (v5 : Int32) (v6 : Int32) (v7 : Int32) (h : AH) (x : AH), R_readWalks_L88 n v1 v2 v4 v5 v6 v7 h = some x → ∀ (r : Option AV) (h' : AH), Ev Γ m_R_readWalks 118 [some (vr 12 0 80), some (vi v1), some (vi v2), none, none, none, some (vi v6), none] [] x r h' → Ev Γ m_R_readWalks 88 [some (vr 12 0 80), some (vi v1), some (vi v2), none, some (vi v4), some (vi v5), some (vi v6), some (vi v7)] [] h r h' := by
  intro n
  induction n with
  | zero => intro v1 v2 v4 v5 v6 v7 h x hx; cases hx
  | succ n ih =>
    intro v1 v2 v4 v5 v6 v7 h x hx r h' hP
    replace hx : R_readWalks_L88_b (R_readWalks_L88 n) v1 v2 v4 v5 v6 v7 h = some x := hx
    unfold R_readWalks_L88_b at hx
    refine Ev.blk (pc' := 92) (lv' := [some (vr 12 0 80), some (vi v1), some (vi v2), none, some (vi v4), some (vi v5), some (vi v6), some (vi v7)]) (st' := [vi v6, vi v7]) (h' := h) 53 2 (Nat.le_of_ble_eq_true rfl) tk_R_readWalks rfl rfl ⟨trivial, trivial, trivial⟩ ?_
    refine Ev.icmp_ge 55 118 tk_R_readWalks rfl (by decide) (fun hc1 => ?_) (fun hc1 => ?_)
    · replace hx := ip hc1 hx
      obtain rfl := Option.some.inj hx
      exact Ev.msk [true, true, true, false, false, false, true, false] hP
    · replace hx := ia hc1 hx
      obtain ⟨hg2, hx⟩ := gd hx
      refine Ev.blk (pc' := 88) (lv' := [some (vr 12 0 80), some (vi v1), some (vi v2), none, some (vi v4), some (vi v5), some (vi v6), some (vi (v7 + ii 1))]) (st' := []) (h' := (wI h 95 (v5 + ((ii 2) * v7)).toNatClampNeg (v4 - (ii 48)))) 56 13 (Nat.le_of_ble_eq_true rfl) tk_R_readWalks rfl rfl ⟨trivial, trivial, trivial, trivial, trivial, trivial, trivial, trivial, trivial, trivial, hg2, trivial, trivial, trivial⟩ ?_
      exact Ev.msk [true, true, true, false, true, true, true, true] (ih v1 v2 v4 v5 v6 (v7 + ii 1) (wI h 95 (v5 + ((ii 2) * v7)).toNatClampNeg (v4 - (ii 48))) _ hx r h' hP)
set_option maxRecDepth 4000 in
theorem l_R_readWalks_L19 (Γ : AG) : ∀ (n : Nat) (v1 : Int32) (v2 : Int32) (v3 : Int32) (h : AH) (x : AH), R_readWalks_L19 n v1 v2 v3 h = some x → ∀ (r : Option AV) (h' : AH), r = none ∧ h' = x → Ev Γ m_R_readWalks 19 [some (vr 12 0 80), some (vi v1), some (vi v2), some (vi v3), none, none, none, none] [] h r h' := by
  intro n
  induction n with
  | zero => intro v1 v2 v3 h x hx; cases hx
  | succ n ih =>
    intro v1 v2 v3 h x hx r h' hP
    replace hx : R_readWalks_L19_b (R_readWalks_L19 n) v1 v2 v3 h = some x := hx
    unfold R_readWalks_L19_b at hx
    refine Ev.blk (pc' := 20) (lv' := [some (vr 12 0 80), some (vi v1), some (vi v2), some (vi v3), none, none, none, none]) (st' := [vi v3]) (h' := h) 13 1 (Nat.le_of_ble_eq_true rfl) tk_R_readWalks rfl rfl ⟨trivial, trivial⟩ ?_
    refine Ev.if_eq 14 174 tk_R_readWalks rfl (by decide) (fun hc1 => ?_) (fun hc1 => ?_)
    · replace hx := ip hc1 hx
      obtain ⟨hg2, hx⟩ := gd hx
      refine Ev.blk (pc' := 182) (lv' := [some (vr 12 0 80), some (vi v1), some (vi v2), some (vi v3), none, none, none, none]) (st' := [vr 12 0 80]) (h' := (wI h 96 (ii 4).toNatClampNeg v2)) 100 6 (Nat.le_of_ble_eq_true rfl) tk_R_readWalks rfl rfl ⟨trivial, trivial, trivial, trivial, hg2, trivial, trivial⟩ ?_
      obtain ⟨q1, hq3, hx⟩ := bd hx
      refine Ev.callV (ν := m_R_look) (av := []) (rest := []) (r1 := some (vi q1.1)) (h1 := q1.2) (ci := 12) (nn := 0) (o := 80) 106 0 tk_R_readWalks rfl bb_R_look vv_R_look lk_12_144 (by decide) rfl rfl (Or.inl rfl) (Nat.le_of_ble_eq_true rfl) (s_R_look Γ (wI h 96 (ii 4).toNatClampNeg v2) _ hq3) ?_
      show Ev Γ m_R_readWalks 185 [some (vr 12 0 80), some (vi v1), some (vi v2), some (vi v3), none, none, none, none] [vi q1.1] q1.2 r h'
      refine Ev.blk (pc' := 186) (lv' := [some (vr 12 0 80), some (vi v1), some (vi v2), some (vi v3), none, none, none, none]) (st' := [vi (ii (-1)), vi q1.1]) (h' := q1.2) 107 1 (Nat.le_of_ble_eq_true rfl) tk_R_readWalks rfl rfl ⟨trivial, trivial⟩ ?_
      refine Ev.icmp_eq 108 194 tk_R_readWalks rfl (by decide) (fun hc4 => ?_) (fun hc4 => ?_)
      · replace hx := ip hc4 hx
        obtain rfl := Option.some.inj hx
        obtain ⟨rfl, rfl⟩ := hP
        exact Ev.vret 112 tk_R_readWalks rfl rfl
      · replace hx := ia hc4 hx
        refine Ev.blk (pc' := 190) (lv' := [some (vr 12 0 80), some (vi v1), some (vi v2), some (vi v3), none, none, none, none]) (st' := [vr 12 0 80]) (h' := q1.2) 109 1 (Nat.le_of_ble_eq_true rfl) tk_R_readWalks rfl rfl ⟨trivial, trivial⟩ ?_
        obtain ⟨q2, hq5, hx⟩ := bd hx
        refine Ev.callV (ν := m_R_fails) (av := []) (rest := []) (r1 := some (vi q2.1)) (h1 := q2.2) (ci := 12) (nn := 0) (o := 80) 110 0 tk_R_readWalks rfl bb_R_fails vv_R_fails lk_12_140 (by decide) rfl rfl (Or.inl rfl) (Nat.le_of_ble_eq_true rfl) (s_R_fails Γ q1.2 _ hq5) ?_
        show Ev Γ m_R_readWalks 193 [some (vr 12 0 80), some (vi v1), some (vi v2), some (vi v3), none, none, none, none] [vi q2.1] q2.2 r h'
        refine Ev.blk (pc' := 194) (lv' := [some (vr 12 0 80), some (vi v1), some (vi v2), some (vi v3), none, none, none, none]) (st' := []) (h' := q2.2) 111 1 (Nat.le_of_ble_eq_true rfl) tk_R_readWalks rfl rfl ⟨trivial, trivial⟩ ?_
        obtain rfl := Option.some.inj hx
        obtain ⟨rfl, rfl⟩ := hP
        exact Ev.vret 112 tk_R_readWalks rfl rfl
    · replace hx := ia hc1 hx
      refine Ev.blk (pc' := 24) (lv' := [some (vr 12 0 80), some (vi v1), some (vi v2), some (vi v3), none, none, none, none]) (st' := [vr 12 0 80]) (h' := h) 15 1 (Nat.le_of_ble_eq_true rfl) tk_R_readWalks rfl rfl ⟨trivial, trivial⟩ ?_
      obtain ⟨q3, hq6, hx⟩ := bd hx
      refine Ev.callV (ν := m_R_look) (av := []) (rest := []) (r1 := some (vi q3.1)) (h1 := q3.2) (ci := 12) (nn := 0) (o := 80) 16 0 tk_R_readWalks rfl bb_R_look vv_R_look lk_12_144 (by decide) rfl rfl (Or.inl rfl) (Nat.le_of_ble_eq_true rfl) (s_R_look Γ h _ hq6) ?_
      show Ev Γ m_R_readWalks 27 [some (vr 12 0 80), some (vi v1), some (vi v2), some (vi v3), none, none, none, none] [vi q3.1] q3.2 r h'
      refine Ev.blk (pc' := 30) (lv' := [some (vr 12 0 80), some (vi v1), some (vi v2), some (vi v3), some (vi q3.1), none, none, none]) (st' := [vr 12 0 80]) (h' := q3.2) 17 2 (Nat.le_of_ble_eq_true rfl) tk_R_readWalks rfl rfl ⟨trivial, trivial, trivial⟩ ?_
      obtain ⟨q4, hq7, hx⟩ := bd hx
      refine Ev.callV (ν := m_R_isDigit) (av := []) (rest := []) (r1 := some (vi q4)) (h1 := q3.2) (ci := 12) (nn := 0) (o := 80) 19 0 tk_R_readWalks rfl bb_R_isDigit vv_R_isDigit lk_12_174 (by decide) rfl rfl (Or.inl rfl) (Nat.le_of_ble_eq_true rfl) (s_R_isDigit Γ q3.2 _ hq7) ?_
      show Ev Γ m_R_readWalks 33 [some (vr 12 0 80), some (vi v1), some (vi v2), some (vi v3), some (vi q3.1), none, none, none] [vi q4] q3.2 r h'
      refine Ev.if_ne 20 42 tk_R_readWalks rfl (by decide) (fun hc8 => ?_) (fun hc8 => ?_)
      · replace hx := ia hc8 hx
        refine Ev.blk (pc' := 71) (lv' := [some (vr 12 0 80), some (vi v1), some (vi v2), some (vi v3), some (vi q3.1), some (vi ((ii 2) * ((ii 256) + v2))), none, none]) (st' := [vi (ii 2), vi (((ii 2) * ((ii 256) + v2)) + (ii 1)), vr 20 640 95, vr 12 0 80]) (h' := (wI q3.2 80 10 ((q3.2.1 80 10) + (ii 1)))) 25 19 (Nat.le_of_ble_eq_true rfl) tk_R_readWalks rfl rfl ⟨trivial, trivial, trivial, trivial, trivial, trivial, trivial, trivial, trivial, trivial, trivial, trivial, trivial, trivial, trivial, trivial, trivial, trivial, trivial, trivial⟩ ?_
        obtain ⟨q5, hq9, hx⟩ := bd hx
        refine Ev.callV (ν := m_R_readWays) (av := [vr 20 640 95, vi (((ii 2) * ((ii 256) + v2)) + (ii 1)), vi (ii 2)]) (rest := []) (r1 := some (vi q5.1)) (h1 := q5.2) (ci := 12) (nn := 0) (o := 80) 44 3 tk_R_readWalks rfl bb_R_readWays vv_R_readWays lk_12_259 (by decide) rfl rfl (Or.inl rfl) (Nat.le_of_ble_eq_true rfl) (s_R_readWays Γ 640 95 (((ii 2) * ((ii 256) + v2)) + (ii 1)) (ii 2) (wI q3.2 80 10 ((q3.2.1 80 10) + (ii 1))) _ hq9) ?_
        show Ev Γ m_R_readWalks 74 [some (vr 12 0 80), some (vi v1), some (vi v2), some (vi v3), some (vi q3.1), some (vi ((ii 2) * ((ii 256) + v2))), none, none] [vi q5.1] q5.2 r h'
        refine Ev.blk (pc' := 81) (lv' := [some (vr 12 0 80), some (vi v1), some (vi v2), some (vi v3), some (vi q3.1), some (vi ((ii 2) * ((ii 256) + v2))), some (vi q5.1), none]) (st' := [vi (ii (-1)), vi (q5.2.1 80 11)]) (h' := q5.2) 45 4 (Nat.le_of_ble_eq_true rfl) tk_R_readWalks rfl rfl ⟨trivial, trivial, trivial, trivial, trivial⟩ ?_
        refine Ev.icmp_eq 49 85 tk_R_readWalks rfl (by decide) (fun hc10 => ?_) (fun hc10 => ?_)
        · replace hx := ip hc10 hx
          refine Ev.blk (pc' := 88) (lv' := [some (vr 12 0 80), some (vi v1), some (vi v2), some (vi v3), some (vi q3.1), some (vi ((ii 2) * ((ii 256) + v2))), some (vi q5.1), some (vi (ii 0))]) (st' := []) (h' := q5.2) 51 2 (Nat.le_of_ble_eq_true rfl) tk_R_readWalks rfl rfl ⟨trivial, trivial, trivial⟩ ?_
          obtain ⟨q6, hq11, hx⟩ := bd hx
          refine Ev.msk [true, true, true, false, true, true, true, true] ?_
          show Ev Γ m_R_readWalks 88 [some (vr 12 0 80), some (vi v1), some (vi v2), none, some (vi q3.1), some (vi ((ii 2) * ((ii 256) + v2))), some (vi q5.1), some (vi (ii 0))] [] q5.2 r h'
          refine l_R_readWalks_L88 Γ FU v1 v2 q3.1 ((ii 2) * ((ii 256) + v2)) q5.1 (ii 0) q5.2 _ hq11 r h' ?_
          show Ev Γ m_R_readWalks 118 [some (vr 12 0 80), some (vi v1), some (vi v2), none, none, none, some (vi q5.1), none] [] q6 r h'
          refine Ev.blk (pc' := 127) (lv' := [some (vr 12 0 80), some (vi (v1 + ii 1)), some (vi (v2 + q5.1)), none, none, none, some (vi q5.1), none]) (st' := [vr 12 0 80]) (h' := q6) 69 6 (Nat.le_of_ble_eq_true rfl) tk_R_readWalks rfl rfl ⟨trivial, trivial, trivial, trivial, trivial, trivial, trivial⟩ ?_
          obtain ⟨q7, hq12, hx⟩ := bd hx
          refine Ev.callV (ν := m_R_look) (av := []) (rest := []) (r1 := some (vi q7.1)) (h1 := q7.2) (ci := 12) (nn := 0) (o := 80) 75 0 tk_R_readWalks rfl bb_R_look vv_R_look lk_12_144 (by decide) rfl rfl (Or.inl rfl) (Nat.le_of_ble_eq_true rfl) (s_R_look Γ q6 _ hq12) ?_
          show Ev Γ m_R_readWalks 130 [some (vr 12 0 80), some (vi (v1 + ii 1)), some (vi (v2 + q5.1)), none, none, none, some (vi q5.1), none] [vi q7.1] q7.2 r h'
          refine Ev.blk (pc' := 132) (lv' := [some (vr 12 0 80), some (vi (v1 + ii 1)), some (vi (v2 + q5.1)), none, none, none, some (vi q5.1), none]) (st' := [vi (ii 59), vi q7.1]) (h' := q7.2) 76 1 (Nat.le_of_ble_eq_true rfl) tk_R_readWalks rfl rfl ⟨trivial, trivial⟩ ?_
          have K13 : ∀ v13_0 : Int32, v13_0 = (if q7.1 = (ii 59) then (ii 1) else (ii 0)) → Ev Γ m_R_readWalks 140 [some (vr 12 0 80), some (vi (v1 + ii 1)), some (vi (v2 + q5.1)), none, none, none, none, none] [vi v13_0] q7.2 r h' := by
            intro v13_0 e14
            subst e14
            refine Ev.blk (pc' := 142) (lv' := [some (vr 12 0 80), some (vi (v1 + ii 1)), some (vi (v2 + q5.1)), some (vi (if q7.1 = (ii 59) then (ii 1) else (ii 0))), none, none, none, none]) (st' := [vi (if q7.1 = (ii 59) then (ii 1) else (ii 0))]) (h' := q7.2) 81 2 (Nat.le_of_ble_eq_true rfl) tk_R_readWalks rfl rfl ⟨trivial, trivial, trivial⟩ ?_
            refine Ev.if_eq 83 157 tk_R_readWalks rfl (by decide) (fun hc15 => ?_) (fun hc15 => ?_)
            · replace hx := ip hc15 hx
              refine Ev.blk (pc' := 158) (lv' := [some (vr 12 0 80), some (vi (v1 + ii 1)), some (vi (v2 + q5.1)), some (vi (if q7.1 = (ii 59) then (ii 1) else (ii 0))), none, none, none, none]) (st' := [vi (if q7.1 = (ii 59) then (ii 1) else (ii 0))]) (h' := q7.2) 91 1 (Nat.le_of_ble_eq_true rfl) tk_R_readWalks rfl rfl ⟨trivial, trivial⟩ ?_
              obtain ⟨q8, hq16, hx⟩ := bd hx
              have K17 : Ev Γ m_R_readWalks 171 [some (vr 12 0 80), some (vi (v1 + ii 1)), some (vi (v2 + q5.1)), some (vi (if q7.1 = (ii 59) then (ii 1) else (ii 0))), none, none, none, none] [] q8 r h' := by
                refine Ev.blk (pc' := 19) (lv' := [some (vr 12 0 80), some (vi (v1 + ii 1)), some (vi (v2 + q5.1)), some (vi (if q7.1 = (ii 59) then (ii 1) else (ii 0))), none, none, none, none]) (st' := []) (h' := q8) 99 1 (Nat.le_of_ble_eq_true rfl) tk_R_readWalks rfl rfl ⟨trivial, trivial⟩ ?_
                exact Ev.msk [true, true, true, true, false, false, false, false] (ih (v1 + ii 1) (v2 + q5.1) (if q7.1 = (ii 59) then (ii 1) else (ii 0)) q8 _ hx r h' hP)
              clear hx
              refine Ev.if_eq 92 171 tk_R_readWalks rfl (by decide) (fun hc18 => ?_) (fun hc18 => ?_)
              · replace hq16 := ip hc18 hq16
                obtain rfl := Option.some.inj hq16
                exact Ev.msk [true, true, true, true, false, false, false, false] K17
              · replace hq16 := ia hc18 hq16
                refine Ev.blk (pc' := 171) (lv' := [some (vr 12 0 80), some (vi (v1 + ii 1)), some (vi (v2 + q5.1)), some (vi (if q7.1 = (ii 59) then (ii 1) else (ii 0))), none, none, none, none]) (st' := []) (h' := (wI q7.2 80 10 ((q7.2.1 80 10) + (ii 1)))) 93 6 (Nat.le_of_ble_eq_true rfl) tk_R_readWalks rfl rfl ⟨trivial, trivial, trivial, trivial, trivial, trivial, trivial⟩ ?_
                obtain rfl := Option.some.inj hq16
                exact Ev.msk [true, true, true, true, false, false, false, false] K17
            · replace hx := ia hc15 hx
              refine Ev.blk (pc' := 148) (lv' := [some (vr 12 0 80), some (vi (v1 + ii 1)), some (vi (v2 + q5.1)), some (vi (if q7.1 = (ii 59) then (ii 1) else (ii 0))), none, none, none, none]) (st' := [vi (ii 8), vi (v1 + ii 1)]) (h' := q7.2) 84 2 (Nat.le_of_ble_eq_true rfl) tk_R_readWalks rfl rfl ⟨trivial, trivial, trivial⟩ ?_
              refine Ev.icmp_ne 86 157 tk_R_readWalks rfl (by decide) (fun hc19 => ?_) (fun hc19 => ?_)
              · replace hx := ia hc19 hx
                refine Ev.blk (pc' := 158) (lv' := [some (vr 12 0 80), some (vi (v1 + ii 1)), some (vi (v2 + q5.1)), some (vi (if q7.1 = (ii 59) then (ii 1) else (ii 0))), none, none, none, none]) (st' := [vi (if q7.1 = (ii 59) then (ii 1) else (ii 0))]) (h' := q7.2) 91 1 (Nat.le_of_ble_eq_true rfl) tk_R_readWalks rfl rfl ⟨trivial, trivial⟩ ?_
                obtain ⟨q9, hq20, hx⟩ := bd hx
                have K21 : Ev Γ m_R_readWalks 171 [some (vr 12 0 80), some (vi (v1 + ii 1)), some (vi (v2 + q5.1)), some (vi (if q7.1 = (ii 59) then (ii 1) else (ii 0))), none, none, none, none] [] q9 r h' := by
                  refine Ev.blk (pc' := 19) (lv' := [some (vr 12 0 80), some (vi (v1 + ii 1)), some (vi (v2 + q5.1)), some (vi (if q7.1 = (ii 59) then (ii 1) else (ii 0))), none, none, none, none]) (st' := []) (h' := q9) 99 1 (Nat.le_of_ble_eq_true rfl) tk_R_readWalks rfl rfl ⟨trivial, trivial⟩ ?_
                  exact Ev.msk [true, true, true, true, false, false, false, false] (ih (v1 + ii 1) (v2 + q5.1) (if q7.1 = (ii 59) then (ii 1) else (ii 0)) q9 _ hx r h' hP)
                clear hx
                refine Ev.if_eq 92 171 tk_R_readWalks rfl (by decide) (fun hc22 => ?_) (fun hc22 => ?_)
                · replace hq20 := ip hc22 hq20
                  obtain rfl := Option.some.inj hq20
                  exact Ev.msk [true, true, true, true, false, false, false, false] K21
                · replace hq20 := ia hc22 hq20
                  refine Ev.blk (pc' := 171) (lv' := [some (vr 12 0 80), some (vi (v1 + ii 1)), some (vi (v2 + q5.1)), some (vi (if q7.1 = (ii 59) then (ii 1) else (ii 0))), none, none, none, none]) (st' := []) (h' := (wI q7.2 80 10 ((q7.2.1 80 10) + (ii 1)))) 93 6 (Nat.le_of_ble_eq_true rfl) tk_R_readWalks rfl rfl ⟨trivial, trivial, trivial, trivial, trivial, trivial, trivial⟩ ?_
                  obtain rfl := Option.some.inj hq20
                  exact Ev.msk [true, true, true, true, false, false, false, false] K21
              · replace hx := ip hc19 hx
                refine Ev.blk (pc' := 152) (lv' := [some (vr 12 0 80), some (vi (v1 + ii 1)), some (vi (v2 + q5.1)), some (vi (if q7.1 = (ii 59) then (ii 1) else (ii 0))), none, none, none, none]) (st' := [vr 12 0 80]) (h' := q7.2) 87 1 (Nat.le_of_ble_eq_true rfl) tk_R_readWalks rfl rfl ⟨trivial, trivial⟩ ?_
                obtain ⟨q10, hq23, hx⟩ := bd hx
                refine Ev.callV (ν := m_R_fails) (av := []) (rest := []) (r1 := some (vi q10.1)) (h1 := q10.2) (ci := 12) (nn := 0) (o := 80) 88 0 tk_R_readWalks rfl bb_R_fails vv_R_fails lk_12_140 (by decide) rfl rfl (Or.inl rfl) (Nat.le_of_ble_eq_true rfl) (s_R_fails Γ q7.2 _ hq23) ?_
                show Ev Γ m_R_readWalks 155 [some (vr 12 0 80), some (vi (v1 + ii 1)), some (vi (v2 + q5.1)), some (vi (if q7.1 = (ii 59) then (ii 1) else (ii 0))), none, none, none, none] [vi q10.1] q10.2 r h'
                refine Ev.blk (pc' := 156) (lv' := [some (vr 12 0 80), some (vi (v1 + ii 1)), some (vi (v2 + q5.1)), some (vi (if q7.1 = (ii 59) then (ii 1) else (ii 0))), none, none, none, none]) (st' := []) (h' := q10.2) 89 1 (Nat.le_of_ble_eq_true rfl) tk_R_readWalks rfl rfl ⟨trivial, trivial⟩ ?_
                obtain rfl := Option.some.inj hx
                obtain ⟨rfl, rfl⟩ := hP
                exact Ev.vret 90 tk_R_readWalks rfl rfl
          refine Ev.icmp_ne 77 139 tk_R_readWalks rfl (by decide) (fun hc24 => ?_) (fun hc24 => ?_)
          · refine Ev.blk (pc' := 140) (lv' := [some (vr 12 0 80), some (vi (v1 + ii 1)), some (vi (v2 + q5.1)), none, none, none, some (vi q5.1), none]) (st' := [vi (ii 0)]) (h' := q7.2) 80 1 (Nat.le_of_ble_eq_true rfl) tk_R_readWalks rfl rfl ⟨trivial, trivial⟩ ?_
            exact Ev.msk [true, true, true, false, false, false, false, false] (K13 _ (by first | rfl | simp only [if_neg hc24]))
          · refine Ev.blk (pc' := 140) (lv' := [some (vr 12 0 80), some (vi (v1 + ii 1)), some (vi (v2 + q5.1)), none, none, none, some (vi q5.1), none]) (st' := [vi (ii 1)]) (h' := q7.2) 78 2 (Nat.le_of_ble_eq_true rfl) tk_R_readWalks rfl rfl ⟨trivial, trivial, trivial⟩ ?_
            exact Ev.msk [true, true, true, false, false, false, false, false] (K13 _ (by first | rfl | simp only [if_pos hc24]))
        · replace hx := ia hc10 hx
          obtain rfl := Option.some.inj hx
          obtain ⟨rfl, rfl⟩ := hP
          exact Ev.vret 50 tk_R_readWalks rfl rfl
      · replace hx := ip hc8 hx
        refine Ev.blk (pc' := 37) (lv' := [some (vr 12 0 80), some (vi v1), some (vi v2), some (vi v3), some (vi q3.1), none, none, none]) (st' := [vr 12 0 80]) (h' := q3.2) 21 1 (Nat.le_of_ble_eq_true rfl) tk_R_readWalks rfl rfl ⟨trivial, trivial⟩ ?_
        obtain ⟨q11, hq25, hx⟩ := bd hx
        refine Ev.callV (ν := m_R_fails) (av := []) (rest := []) (r1 := some (vi q11.1)) (h1 := q11.2) (ci := 12) (nn := 0) (o := 80) 22 0 tk_R_readWalks rfl bb_R_fails vv_R_fails lk_12_140 (by decide) rfl rfl (Or.inl rfl) (Nat.le_of_ble_eq_true rfl) (s_R_fails Γ q3.2 _ hq25) ?_
        show Ev Γ m_R_readWalks 40 [some (vr 12 0 80), some (vi v1), some (vi v2), some (vi v3), some (vi q3.1), none, none, none] [vi q11.1] q11.2 r h'
        refine Ev.blk (pc' := 41) (lv' := [some (vr 12 0 80), some (vi v1), some (vi v2), some (vi v3), some (vi q3.1), none, none, none]) (st' := []) (h' := q11.2) 23 1 (Nat.le_of_ble_eq_true rfl) tk_R_readWalks rfl rfl ⟨trivial, trivial⟩ ?_
        obtain rfl := Option.some.inj hx
        obtain ⟨rfl, rfl⟩ := hP
        exact Ev.vret 24 tk_R_readWalks rfl rfl
set_option maxRecDepth 4000 in
theorem s_R_readWalks (Γ : AG) (h : AH) (x : AH) (hx : f_R_readWalks  h = some x) : MetA Γ m_R_readWalks [vr 12 0 80] h (none) x := by
  refine Ev.met rfl rfl (Nat.le_of_ble_eq_true rfl) ?_
  show Ev Γ m_R_readWalks 0 [some (vr 12 0 80), none, none, none, none, none, none, none] [] h _ _
  obtain ⟨r, hr⟩ : ∃ r : Option AV, r = none := ⟨_, rfl⟩
  obtain ⟨h', hh⟩ : ∃ h' : AH, h' = x := ⟨_, rfl⟩
  have hP : r = none ∧ h' = x := ⟨hr, hh⟩
  suffices hS : Ev Γ m_R_readWalks 0 [some (vr 12 0 80), none, none, none, none, none, none, none] [] h r h' by rw [hr, hh] at hS; exact hS
  clear hr hh
  unfold f_R_readWalks at hx
  refine Ev.blk (pc' := 10) (lv' := [some (vr 12 0 80), none, none, none, none, none, none, none]) (st' := [vi (h.1 80 6), vi (ii 0), vr 21 240 81, vr 12 0 80]) (h' := h) 0 6 (Nat.le_of_ble_eq_true rfl) tk_R_readWalks rfl rfl ⟨trivial, trivial, trivial, trivial, trivial, trivial, trivial⟩ ?_
  obtain ⟨q1, hq1, hx⟩ := bd hx
  refine Ev.callV (ν := m_R_starts) (av := [vr 21 240 81, vi (ii 0), vi (h.1 80 6)]) (rest := []) (r1 := none) (h1 := q1) (ci := 12) (nn := 0) (o := 80) 6 3 tk_R_readWalks rfl bb_R_starts vv_R_starts lk_12_213 (by decide) rfl rfl (Or.inl rfl) (Nat.le_of_ble_eq_true rfl) (s_R_starts Γ 240 81 (ii 0) (h.1 80 6) h _ hq1) ?_
  show Ev Γ m_R_readWalks 13 [some (vr 12 0 80), none, none, none, none, none, none, none] [] q1 r h'
  refine Ev.blk (pc' := 19) (lv' := [some (vr 12 0 80), some (vi (ii 0)), some (vi (ii 0)), some (vi (ii 1)), none, none, none, none]) (st' := []) (h' := q1) 7 6 (Nat.le_of_ble_eq_true rfl) tk_R_readWalks rfl rfl ⟨trivial, trivial, trivial, trivial, trivial, trivial, trivial⟩ ?_
  refine Ev.msk [true, true, true, true, false, false, false, false] ?_
  show Ev Γ m_R_readWalks 19 [some (vr 12 0 80), some (vi (ii 0)), some (vi (ii 0)), some (vi (ii 1)), none, none, none, none] [] q1 r h'
  exact l_R_readWalks_L19 Γ FU (ii 0) (ii 0) (ii 1) q1 _ hx r h' hP
set_option maxRecDepth 4000 in
theorem s_R_fault (Γ : AG) (a1 : Int32) (h : AH) (x : Int32 × AH) (hx : f_R_fault a1 h = some x) : MetA Γ m_R_fault [vr 12 0 80, vi a1] h (some (vi x.1)) x.2 := by
  refine Ev.met rfl rfl (Nat.le_of_ble_eq_true rfl) ?_
  show Ev Γ m_R_fault 0 [some (vr 12 0 80), some (vi a1)] [] h _ _
  obtain ⟨r, hr⟩ : ∃ r : Option AV, r = some (vi x.1) := ⟨_, rfl⟩
  obtain ⟨h', hh⟩ : ∃ h' : AH, h' = x.2 := ⟨_, rfl⟩
  have hP : r = some (vi x.1) ∧ h' = x.2 := ⟨hr, hh⟩
  suffices hS : Ev Γ m_R_fault 0 [some (vr 12 0 80), some (vi a1)] [] h r h' by rw [hr, hh] at hS; exact hS
  clear hr hh
  unfold f_R_fault at hx
  refine Ev.blk (pc' := 11) (lv' := [some (vr 12 0 80), some (vi a1)]) (st' := [vl (Int64.ofInt 2), vl (Int64.ofNat 0), vl a1.toInt64]) (h' := (wI h 80 0 (ii 0))) 0 7 (Nat.le_of_ble_eq_true rfl) tk_R_fault rfl rfl ⟨trivial, trivial, trivial, trivial, trivial, trivial, trivial, trivial⟩ ?_
  refine Ev.callS (ν := m_R_isIn) (av := [vl a1.toInt64, vl (Int64.ofNat 0), vl (Int64.ofInt 2)]) (rest := []) (r1 := some (vi (p_R_isIn a1.toInt64 (Int64.ofNat 0) (Int64.ofInt 2)))) (h1 := (wI h 80 0 (ii 0))) 7 3 tk_R_fault rfl bb_R_isIn vv_R_isIn lk_12_223 (by decide) rfl rfl (Nat.le_of_ble_eq_true rfl) (s_R_isIn Γ a1.toInt64 (Int64.ofNat 0) (Int64.ofInt 2) (wI h 80 0 (ii 0))) ?_
  show Ev Γ m_R_fault 14 [some (vr 12 0 80), some (vi a1)] [vi (p_R_isIn a1.toInt64 (Int64.ofNat 0) (Int64.ofInt 2))] (wI h 80 0 (ii 0)) r h'
  refine Ev.if_ne 8 20 tk_R_fault rfl (by decide) (fun hc1 => ?_) (fun hc1 => ?_)
  · replace hx := ia hc1 hx
    refine Ev.blk (pc' := 21) (lv' := [some (vr 12 0 80), some (vi a1)]) (st' := [vi a1]) (h' := (wI h 80 0 (ii 0))) 11 1 (Nat.le_of_ble_eq_true rfl) tk_R_fault rfl rfl ⟨trivial, trivial⟩ ?_
    obtain ⟨q2, hq2, hx⟩ := bd hx
    have K3 : Ev Γ m_R_fault 28 [some (vr 12 0 80), some (vi a1)] [] q2 r h' := by
      refine Ev.blk (pc' := 30) (lv' := [some (vr 12 0 80), some (vi a1)]) (st' := [vi (ii 1), vi a1]) (h' := q2) 15 2 (Nat.le_of_ble_eq_true rfl) tk_R_fault rfl rfl ⟨trivial, trivial, trivial⟩ ?_
      obtain ⟨q4, hq4, hx⟩ := bd hx
      have K5 : Ev Γ m_R_fault 46 [some (vr 12 0 80), some (vi a1)] [] q4 r h' := by
        refine Ev.blk (pc' := 48) (lv' := [some (vr 12 0 80), some (vi a1)]) (st' := [vi (ii 2), vi a1]) (h' := q4) 25 2 (Nat.le_of_ble_eq_true rfl) tk_R_fault rfl rfl ⟨trivial, trivial, trivial⟩ ?_
        obtain ⟨q6, hq6, hx⟩ := bd hx
        have K7 : Ev Γ m_R_fault 55 [some (vr 12 0 80), none] [] q6 r h' := by
          refine Ev.blk (pc' := 59) (lv' := [some (vr 12 0 80), none]) (st' := [vi (q6.1 80 11)]) (h' := q6) 30 2 (Nat.le_of_ble_eq_true rfl) tk_R_fault rfl rfl ⟨trivial, trivial, trivial⟩ ?_
          obtain rfl := Option.some.inj hx
          obtain ⟨rfl, rfl⟩ := hP
          exact Ev.iret 32 tk_R_fault rfl rfl
        clear hx
        refine Ev.icmp_ne 27 55 tk_R_fault rfl (by decide) (fun hc8 => ?_) (fun hc8 => ?_)
        · replace hq6 := ia hc8 hq6
          obtain rfl := Option.some.inj hq6
          exact Ev.msk [true, false] K7
        · replace hq6 := ip hc8 hq6
          refine Ev.blk (pc' := 52) (lv' := [some (vr 12 0 80), some (vi a1)]) (st' := [vr 12 0 80]) (h' := q4) 28 1 (Nat.le_of_ble_eq_true rfl) tk_R_fault rfl rfl ⟨trivial, trivial⟩ ?_
          obtain ⟨q5, hq9, hq6⟩ := bd hq6
          refine Ev.callV (ν := m_R_readWalks) (av := []) (rest := []) (r1 := none) (h1 := q5) (ci := 12) (nn := 0) (o := 80) 29 0 tk_R_fault rfl bb_R_readWalks vv_R_readWalks lk_12_308 (by decide) rfl rfl (Or.inl rfl) (Nat.le_of_ble_eq_true rfl) (s_R_readWalks Γ q4 _ hq9) ?_
          show Ev Γ m_R_fault 55 [some (vr 12 0 80), some (vi a1)] [] q5 r h'
          obtain rfl := Option.some.inj hq6
          exact Ev.msk [true, false] K7
      clear hx
      refine Ev.icmp_ne 17 46 tk_R_fault rfl (by decide) (fun hc10 => ?_) (fun hc10 => ?_)
      · replace hq4 := ia hc10 hq4
        obtain rfl := Option.some.inj hq4
        exact Ev.msk [true, true] K5
      · replace hq4 := ip hc10 hq4
        refine Ev.blk (pc' := 43) (lv' := [some (vr 12 0 80), some (vi a1)]) (st' := [vi (q2.1 80 6), vi (ii 0), vr 21 240 81, vr 12 0 80]) (h' := q2) 18 6 (Nat.le_of_ble_eq_true rfl) tk_R_fault rfl rfl ⟨trivial, trivial, trivial, trivial, trivial, trivial, trivial⟩ ?_
        obtain ⟨q3, hq11, hq4⟩ := bd hq4
        refine Ev.callV (ν := m_R_goThrough) (av := [vr 21 240 81, vi (ii 0), vi (q2.1 80 6)]) (rest := []) (r1 := none) (h1 := q3) (ci := 12) (nn := 0) (o := 80) 24 3 tk_R_fault rfl bb_R_goThrough vv_R_goThrough lk_12_305 (by decide) rfl rfl (Or.inl rfl) (Nat.le_of_ble_eq_true rfl) (s_R_goThrough Γ 240 81 (ii 0) (q2.1 80 6) q2 _ hq11) ?_
        show Ev Γ m_R_fault 46 [some (vr 12 0 80), some (vi a1)] [] q3 r h'
        obtain rfl := Option.some.inj hq4
        exact Ev.msk [true, true] K5
    clear hx
    refine Ev.if_ne 12 28 tk_R_fault rfl (by decide) (fun hc12 => ?_) (fun hc12 => ?_)
    · replace hq2 := ia hc12 hq2
      obtain rfl := Option.some.inj hq2
      exact Ev.msk [true, true] K3
    · replace hq2 := ip hc12 hq2
      refine Ev.blk (pc' := 25) (lv' := [some (vr 12 0 80), some (vi a1)]) (st' := [vr 12 0 80]) (h' := (wI h 80 0 (ii 0))) 13 1 (Nat.le_of_ble_eq_true rfl) tk_R_fault rfl rfl ⟨trivial, trivial⟩ ?_
      obtain ⟨q1, hq13, hq2⟩ := bd hq2
      refine Ev.callV (ν := m_R_readHeath) (av := []) (rest := []) (r1 := none) (h1 := q1) (ci := 12) (nn := 0) (o := 80) 14 0 tk_R_fault rfl bb_R_readHeath vv_R_readHeath lk_12_302 (by decide) rfl rfl (Or.inl rfl) (Nat.le_of_ble_eq_true rfl) (s_R_readHeath Γ (wI h 80 0 (ii 0)) _ hq13) ?_
      show Ev Γ m_R_fault 28 [some (vr 12 0 80), some (vi a1)] [] q1 r h'
      obtain rfl := Option.some.inj hq2
      exact Ev.msk [true, true] K3
  · replace hx := ip hc1 hx
    refine Ev.blk (pc' := 19) (lv' := [some (vr 12 0 80), some (vi a1)]) (st' := [vi (ii (-2))]) (h' := (wI h 80 0 (ii 0))) 9 1 (Nat.le_of_ble_eq_true rfl) tk_R_fault rfl rfl ⟨trivial, trivial⟩ ?_
    obtain rfl := Option.some.inj hx
    obtain ⟨rfl, rfl⟩ := hP
    exact Ev.iret 10 tk_R_fault rfl rfl
set_option maxRecDepth 4000 in
theorem l_R_copy_L2 (Γ : AG) : ∀ (n : Nat) (n0 : Nat) (o0 : Nat) (n1 : Nat) (o1 : Nat) (v2 : Int32) (h : AH) (x : AH), R_copy_L2 n n0 o0 n1 o1 v2 h = some x → ∀ (r : Option AV) (h' : AH), r = none ∧ h' = x → Ev Γ m_R_copy 2 [some (vr 20 n0 o0), some (vr 20 n1 o1), some (vi v2)] [] h r h' := by
  intro n
  induction n with
  | zero => intro n0 o0 n1 o1 v2 h x hx; cases hx
  | succ n ih =>
    intro n0 o0 n1 o1 v2 h x hx r h' hP
    replace hx : R_copy_L2_b (R_copy_L2 n) n0 o0 n1 o1 v2 h = some x := hx
    unfold R_copy_L2_b at hx
    refine Ev.blk (pc' := 5) (lv' := [some (vr 20 n0 o0), some (vr 20 n1 o1), some (vi v2)]) (st' := [vi (ii (n1 : Int)), vi v2]) (h' := h) 2 3 (Nat.le_of_ble_eq_true rfl) tk_R_copy rfl rfl ⟨trivial, trivial, trivial, trivial⟩ ?_
    refine Ev.icmp_ge 5 20 tk_R_copy rfl (by decide) (fun hc1 => ?_) (fun hc1 => ?_)
    · replace hx := ip hc1 hx
      obtain rfl := Option.some.inj hx
      obtain ⟨rfl, rfl⟩ := hP
      exact Ev.vret 14 tk_R_copy rfl rfl
    · replace hx := ia hc1 hx
      obtain ⟨hg2, hx⟩ := gd hx
      obtain ⟨hg3, hx⟩ := gd hx
      refine Ev.blk (pc' := 2) (lv' := [some (vr 20 n0 o0), some (vr 20 n1 o1), some (vi (v2 + ii 1))]) (st' := []) (h' := (wI h o1 v2.toNatClampNeg (h.1 o0 (v2).toNatClampNeg))) 6 8 (Nat.le_of_ble_eq_true rfl) tk_R_copy rfl rfl ⟨trivial, trivial, trivial, trivial, hg2, hg3, trivial, trivial, trivial⟩ ?_
      exact Ev.msk [true, true, true] (ih n0 o0 n1 o1 (v2 + ii 1) (wI h o1 v2.toNatClampNeg (h.1 o0 (v2).toNatClampNeg)) _ hx r h' hP)
set_option maxRecDepth 4000 in
theorem s_R_copy (Γ : AG) (n0 : Nat) (o0 : Nat) (n1 : Nat) (o1 : Nat) (h : AH) (x : AH) (hx : f_R_copy n0 o0 n1 o1 h = some x) : MetA Γ m_R_copy [vr 20 n0 o0, vr 20 n1 o1] h (none) x := by
  refine Ev.met rfl rfl (Nat.le_of_ble_eq_true rfl) ?_
  show Ev Γ m_R_copy 0 [some (vr 20 n0 o0), some (vr 20 n1 o1), none] [] h _ _
  obtain ⟨r, hr⟩ : ∃ r : Option AV, r = none := ⟨_, rfl⟩
  obtain ⟨h', hh⟩ : ∃ h' : AH, h' = x := ⟨_, rfl⟩
  have hP : r = none ∧ h' = x := ⟨hr, hh⟩
  suffices hS : Ev Γ m_R_copy 0 [some (vr 20 n0 o0), some (vr 20 n1 o1), none] [] h r h' by rw [hr, hh] at hS; exact hS
  clear hr hh
  unfold f_R_copy at hx
  refine Ev.blk (pc' := 2) (lv' := [some (vr 20 n0 o0), some (vr 20 n1 o1), some (vi (ii 0))]) (st' := []) (h' := h) 0 2 (Nat.le_of_ble_eq_true rfl) tk_R_copy rfl rfl ⟨trivial, trivial, trivial⟩ ?_
  refine Ev.msk [true, true, true] ?_
  show Ev Γ m_R_copy 2 [some (vr 20 n0 o0), some (vr 20 n1 o1), some (vi (ii 0))] [] h r h'
  exact l_R_copy_L2 Γ FU n0 o0 n1 o1 (ii 0) h _ hx r h' hP
set_option maxRecDepth 4000 in
theorem s_R_told (Γ : AG) (a1 : Int32) (a2 : Int32) (h : AH) (x : Int32) (hx : f_R_told a1 a2 h = some x) : MetA Γ m_R_told [vr 12 0 80, vi a1, vi a2] h (some (vi x)) h := by
  refine Ev.met rfl rfl (Nat.le_of_ble_eq_true rfl) ?_
  show Ev Γ m_R_told 0 [some (vr 12 0 80), some (vi a1), some (vi a2)] [] h _ _
  obtain ⟨r, hr⟩ : ∃ r : Option AV, r = some (vi x) := ⟨_, rfl⟩
  obtain ⟨h', hh⟩ : ∃ h' : AH, h' = h := ⟨_, rfl⟩
  have hP : r = some (vi x) ∧ h' = h := ⟨hr, hh⟩
  suffices hS : Ev Γ m_R_told 0 [some (vr 12 0 80), some (vi a1), some (vi a2)] [] h r h' by rw [hr, hh] at hS; exact hS
  clear hr hh
  unfold f_R_told at hx
  obtain ⟨hg1, hx⟩ := gd hx
  refine Ev.blk (pc' := 11) (lv' := [some (vr 12 0 80), some (vi a1), some (vi a2)]) (st' := [vi (h.1 93 (((ii 6) * a1) + a2).toNatClampNeg)]) (h' := h) 0 8 (Nat.le_of_ble_eq_true rfl) tk_R_told rfl rfl ⟨trivial, trivial, trivial, trivial, trivial, trivial, trivial, hg1, trivial⟩ ?_
  obtain rfl := Option.some.inj hx
  obtain ⟨rfl, rfl⟩ := hP
  exact Ev.iret 8 tk_R_told rfl rfl
set_option maxRecDepth 4000 in
theorem l_R_text_L313 (Γ : AG) : ∀ (n : Nat) (v3 : Int32) (h : AH) (x : AH), R_text_L313 n v3 h = some x → ∀ (r : Option AV) (h' : AH), Ev Γ m_R_text 333 [some (vr 12 0 80), none, none, none] [] x r h' → Ev Γ m_R_text 313 [some (vr 12 0 80), none, none, some (vi v3)] [] h r h' := by
  intro n
  induction n with
  | zero => intro v3 h x hx; cases hx
  | succ n ih =>
    intro v3 h x hx r h' hP
    replace hx : R_text_L313_b (R_text_L313 n) v3 h = some x := hx
    unfold R_text_L313_b at hx
    refine Ev.blk (pc' := 317) (lv' := [some (vr 12 0 80), none, none, some (vi v3)]) (st' := [vi (ii 227), vi v3]) (h' := h) 175 2 (Nat.le_of_ble_eq_true rfl) tk_R_text rfl rfl ⟨trivial, trivial, trivial⟩ ?_
    refine Ev.icmp_ge 177 333 tk_R_text rfl (by decide) (fun hc1 => ?_) (fun hc1 => ?_)
    · replace hx := ip hc1 hx
      obtain rfl := Option.some.inj hx
      exact Ev.msk [true, false, false, false] hP
    · replace hx := ia hc1 hx
      obtain ⟨hg2, hx⟩ := gd hx
      refine Ev.blk (pc' := 313) (lv' := [some (vr 12 0 80), none, none, some (vi (v3 + ii 1))]) (st' := []) (h' := (wI h 97 v3.toNatClampNeg (ii 0))) 178 7 (Nat.le_of_ble_eq_true rfl) tk_R_text rfl rfl ⟨trivial, trivial, trivial, trivial, hg2, trivial, trivial, trivial⟩ ?_
      exact Ev.msk [true, false, false, true] (ih (v3 + ii 1) (wI h 97 v3.toNatClampNeg (ii 0)) _ hx r h' hP)
set_option maxRecDepth 4000 in
theorem l_R_text_L71 (Γ : AG) : ∀ (n : Nat) (v2 : Int32) (v3 : Int32) (h : AH) (x : Int32 × AH), R_text_L71 n v2 v3 h = some x → ∀ (r : Option AV) (h' : AH), r = some (vi x.1) ∧ h' = x.2 → Ev Γ m_R_text 71 [some (vr 12 0 80), none, some (vi v2), some (vi v3)] [] h r h' := by
  intro n
  induction n with
  | zero => intro v2 v3 h x hx; cases hx
  | succ n ih =>
    intro v2 v3 h x hx r h' hP
    replace hx : R_text_L71_b (R_text_L71 n) v2 v3 h = some x := hx
    unfold R_text_L71_b at hx
    refine Ev.blk (pc' := 73) (lv' := [some (vr 12 0 80), none, some (vi v2), some (vi v3)]) (st' := [vi v2, vi v3]) (h' := h) 41 2 (Nat.le_of_ble_eq_true rfl) tk_R_text rfl rfl ⟨trivial, trivial, trivial⟩ ?_
    refine Ev.icmp_ge 43 103 tk_R_text rfl (by decide) (fun hc1 => ?_) (fun hc1 => ?_)
    · replace hx := ip hc1 hx
      obtain ⟨hg2, hx⟩ := gd hx
      refine Ev.blk (pc' := 129) (lv' := [some (vr 12 0 80), none, some (vi v2), some (vi v3)]) (st' := [vi (((wI (wI h 83 (h.1 80 7).toNatClampNeg v2) 80 7 (((wI h 83 (h.1 80 7).toNatClampNeg v2).1 80 7) + (ii 1))).1 80 7) - (ii 1))]) (h' := (wI (wI h 83 (h.1 80 7).toNatClampNeg v2) 80 7 (((wI h 83 (h.1 80 7).toNatClampNeg v2).1 80 7) + (ii 1)))) 59 16 (Nat.le_of_ble_eq_true rfl) tk_R_text rfl rfl ⟨trivial, trivial, trivial, trivial, trivial, hg2, trivial, trivial, trivial, trivial, trivial, trivial, trivial, trivial, trivial, trivial, trivial⟩ ?_
      obtain rfl := Option.some.inj hx
      obtain ⟨rfl, rfl⟩ := hP
      exact Ev.iret 75 tk_R_text rfl rfl
    · replace hx := ia hc1 hx
      obtain ⟨hg3, hx⟩ := gd hx
      obtain ⟨hg4, hx⟩ := gd hx
      refine Ev.blk (pc' := 71) (lv' := [some (vr 12 0 80), none, some (vi v2), some (vi (v3 + ii 1))]) (st' := []) (h' := (wI h 82 (((ii 240) * (h.1 80 7)) + v3).toNatClampNeg (h.1 81 (v3).toNatClampNeg).toInt8.toInt32)) 44 15 (Nat.le_of_ble_eq_true rfl) tk_R_text rfl rfl ⟨trivial, trivial, trivial, trivial, trivial, trivial, trivial, trivial, trivial, trivial, trivial, hg3, hg4, trivial, trivial, trivial⟩ ?_
      exact Ev.msk [true, false, true, true] (ih v2 (v3 + ii 1) (wI h 82 (((ii 240) * (h.1 80 7)) + v3).toNatClampNeg (h.1 81 (v3).toNatClampNeg).toInt8.toInt32) _ hx r h' hP)
set_option maxRecDepth 4000 in
theorem l_R_text_L137 (Γ : AG) : ∀ (n : Nat) (v3 : Int32) (h : AH) (x : Int32 × AH), R_text_L137 n v3 h = some x → ∀ (r : Option AV) (h' : AH), r = some (vi x.1) ∧ h' = x.2 → Ev Γ m_R_text 137 [some (vr 12 0 80), none, none, some (vi v3)] [] h r h' := by
  intro n
  induction n with
  | zero => intro v3 h x hx; cases hx
  | succ n ih =>
    intro v3 h x hx r h' hP
    replace hx : R_text_L137_b (R_text_L137 n) v3 h = some x := hx
    unfold R_text_L137_b at hx
    refine Ev.blk (pc' := 141) (lv' := [some (vr 12 0 80), none, none, some (vi v3)]) (st' := [vi (ii 128), vi v3]) (h' := h) 81 2 (Nat.le_of_ble_eq_true rfl) tk_R_text rfl rfl ⟨trivial, trivial, trivial⟩ ?_
    refine Ev.icmp_ge 83 175 tk_R_text rfl (by decide) (fun hc1 => ?_) (fun hc1 => ?_)
    · replace hx := ip hc1 hx
      obtain ⟨hg2, hx⟩ := gd hx
      obtain ⟨hg3, hx⟩ := gd hx
      refine Ev.blk (pc' := 206) (lv' := [some (vr 12 0 80), none, none, some (vi v3)]) (st' := [vi (((wI (wI h 96 (h.1 80 39).toNatClampNeg (h.1 96 (ii 4).toNatClampNeg)) 80 39 (((wI h 96 (h.1 80 39).toNatClampNeg (h.1 96 (ii 4).toNatClampNeg)).1 80 39) + (ii 1))).1 80 39) - (ii 1))]) (h' := (wI (wI h 96 (h.1 80 39).toNatClampNeg (h.1 96 (ii 4).toNatClampNeg)) 80 39 (((wI h 96 (h.1 80 39).toNatClampNeg (h.1 96 (ii 4).toNatClampNeg)).1 80 39) + (ii 1)))) 101 19 (Nat.le_of_ble_eq_true rfl) tk_R_text rfl rfl ⟨trivial, trivial, trivial, trivial, trivial, trivial, trivial, hg2, hg3, trivial, trivial, trivial, trivial, trivial, trivial, trivial, trivial, trivial, trivial, trivial⟩ ?_
      obtain rfl := Option.some.inj hx
      obtain ⟨rfl, rfl⟩ := hP
      exact Ev.iret 120 tk_R_text rfl rfl
    · replace hx := ia hc1 hx
      obtain ⟨hg4, hx⟩ := gd hx
      obtain ⟨hg5, hx⟩ := gd hx
      refine Ev.blk (pc' := 137) (lv' := [some (vr 12 0 80), none, none, some (vi (v3 + ii 1))]) (st' := []) (h' := (wI h 95 (((ii 128) * (h.1 80 39)) + v3).toNatClampNeg (h.1 95 ((ii 512) + v3).toNatClampNeg))) 84 17 (Nat.le_of_ble_eq_true rfl) tk_R_text rfl rfl ⟨trivial, trivial, trivial, trivial, trivial, trivial, trivial, trivial, trivial, trivial, trivial, trivial, trivial, hg4, hg5, trivial, trivial, trivial⟩ ?_
      exact Ev.msk [true, false, false, true] (ih (v3 + ii 1) (wI h 95 (((ii 128) * (h.1 80 39)) + v3).toNatClampNeg (h.1 95 ((ii 512) + v3).toNatClampNeg)) _ hx r h' hP)
set_option maxRecDepth 4000 in
theorem l_R_text_L335 (Γ : AG) : ∀ (n : Nat) (v3 : Int32) (h : AH) (x : Int32 × AH), R_text_L335 n v3 h = some x → ∀ (r : Option AV) (h' : AH), r = some (vi x.1) ∧ h' = x.2 → Ev Γ m_R_text 335 [some (vr 12 0 80), none, none, some (vi v3)] [] h r h' := by
  intro n
  induction n with
  | zero => intro v3 h x hx; cases hx
  | succ n ih =>
    intro v3 h x hx r h' hP
    replace hx : R_text_L335_b (R_text_L335 n) v3 h = some x := hx
    unfold R_text_L335_b at hx
    refine Ev.blk (pc' := 340) (lv' := [some (vr 12 0 80), none, none, some (vi v3)]) (st' := [vi (h.1 80 33), vi v3]) (h' := h) 187 3 (Nat.le_of_ble_eq_true rfl) tk_R_text rfl rfl ⟨trivial, trivial, trivial, trivial⟩ ?_
    refine Ev.icmp_ge 190 388 tk_R_text rfl (by decide) (fun hc1 => ?_) (fun hc1 => ?_)
    · replace hx := ip hc1 hx
      refine Ev.blk (pc' := 407) (lv' := [some (vr 12 0 80), none, none, some (vi v3)]) (st' := [vi ((wI (wI (wI h 80 52 (ii 0)) 80 45 (ii 0)) 80 55 (ii 0)).1 80 34)]) (h' := (wI (wI (wI h 80 52 (ii 0)) 80 45 (ii 0)) 80 55 (ii 0))) 221 11 (Nat.le_of_ble_eq_true rfl) tk_R_text rfl rfl ⟨trivial, trivial, trivial, trivial, trivial, trivial, trivial, trivial, (by decide), trivial, trivial, trivial⟩ ?_
      obtain rfl := Option.some.inj hx
      obtain ⟨rfl, rfl⟩ := hP
      exact Ev.iret 232 tk_R_text rfl rfl
    · replace hx := ia hc1 hx
      refine Ev.blk (pc' := 353) (lv' := [some (vr 12 0 80), none, none, some (vi v3)]) (st' := [vi (ii 0), vi v3, vr 12 0 80, vi ((ii 2) * v3), vr 20 227 97]) (h' := h) 191 8 (Nat.le_of_ble_eq_true rfl) tk_R_text rfl rfl ⟨trivial, trivial, trivial, trivial, trivial, trivial, trivial, trivial, trivial⟩ ?_
      obtain ⟨q1, hq2, hx⟩ := bd hx
      refine Ev.callV (ν := m_R_told) (av := [vi v3, vi (ii 0)]) (rest := [vi ((ii 2) * v3), vr 20 227 97]) (r1 := some (vi q1)) (h1 := h) (ci := 12) (nn := 0) (o := 80) 199 2 tk_R_text rfl bb_R_told vv_R_told lk_12_338 (by decide) rfl rfl (Or.inl rfl) (Nat.le_of_ble_eq_true rfl) (s_R_told Γ v3 (ii 0) h _ hq2) ?_
      show Ev Γ m_R_text 356 [some (vr 12 0 80), none, none, some (vi v3)] [vi q1, vi ((ii 2) * v3), vr 20 227 97] h r h'
      obtain ⟨hg3, hx⟩ := gd hx
      refine Ev.blk (pc' := 366) (lv' := [some (vr 12 0 80), none, none, some (vi v3)]) (st' := [vi (ii 5), vi v3, vr 12 0 80, vi (ii 12), vr 20 227 97]) (h' := (wI h 97 ((ii 2) * v3).toNatClampNeg q1)) 200 7 (Nat.le_of_ble_eq_true rfl) tk_R_text rfl rfl ⟨hg3, trivial, trivial, trivial, trivial, trivial, trivial, trivial⟩ ?_
      obtain ⟨q2, hq4, hx⟩ := bd hx
      refine Ev.callV (ν := m_R_told) (av := [vi v3, vi (ii 5)]) (rest := [vi (ii 12), vr 20 227 97]) (r1 := some (vi q2)) (h1 := (wI h 97 ((ii 2) * v3).toNatClampNeg q1)) (ci := 12) (nn := 0) (o := 80) 207 2 tk_R_text rfl bb_R_told vv_R_told lk_12_338 (by decide) rfl rfl (Or.inl rfl) (Nat.le_of_ble_eq_true rfl) (s_R_told Γ v3 (ii 5) (wI h 97 ((ii 2) * v3).toNatClampNeg q1) _ hq4) ?_
      show Ev Γ m_R_text 369 [some (vr 12 0 80), none, none, some (vi v3)] [vi q2, vi (ii 12), vr 20 227 97] (wI h 97 ((ii 2) * v3).toNatClampNeg q1) r h'
      obtain ⟨hg5, hx⟩ := gd hx
      refine Ev.blk (pc' := 376) (lv' := [some (vr 12 0 80), none, none, some (vi v3)]) (st' := [vi (ii 0), vi v3, vr 12 0 80, vi (ii 1), vi ((wI h 97 ((ii 2) * v3).toNatClampNeg q1).1 97 ((ii 12) + q2).toNatClampNeg), vi ((ii 12) + q2), vr 20 227 97]) (h' := (wI h 97 ((ii 2) * v3).toNatClampNeg q1)) 208 7 (Nat.le_of_ble_eq_true rfl) tk_R_text rfl rfl ⟨trivial, trivial, hg5, trivial, trivial, trivial, trivial, trivial⟩ ?_
      obtain ⟨q3, hq6, hx⟩ := bd hx
      refine Ev.callV (ν := m_R_told) (av := [vi v3, vi (ii 0)]) (rest := [vi (ii 1), vi ((wI h 97 ((ii 2) * v3).toNatClampNeg q1).1 97 ((ii 12) + q2).toNatClampNeg), vi ((ii 12) + q2), vr 20 227 97]) (r1 := some (vi q3)) (h1 := (wI h 97 ((ii 2) * v3).toNatClampNeg q1)) (ci := 12) (nn := 0) (o := 80) 215 2 tk_R_text rfl bb_R_told vv_R_told lk_12_338 (by decide) rfl rfl (Or.inl rfl) (Nat.le_of_ble_eq_true rfl) (s_R_told Γ v3 (ii 0) (wI h 97 ((ii 2) * v3).toNatClampNeg q1) _ hq6) ?_
      show Ev Γ m_R_text 379 [some (vr 12 0 80), none, none, some (vi v3)] [vi q3, vi (ii 1), vi ((wI h 97 ((ii 2) * v3).toNatClampNeg q1).1 97 ((ii 12) + q2).toNatClampNeg), vi ((ii 12) + q2), vr 20 227 97] (wI h 97 ((ii 2) * v3).toNatClampNeg q1) r h'
      obtain ⟨hg7, hx⟩ := gd hx
      refine Ev.blk (pc' := 335) (lv' := [some (vr 12 0 80), none, none, some (vi (v3 + ii 1))]) (st' := []) (h' := (wI (wI h 97 ((ii 2) * v3).toNatClampNeg q1) 97 ((ii 12) + q2).toNatClampNeg (((wI h 97 ((ii 2) * v3).toNatClampNeg q1).1 97 ((ii 12) + q2).toNatClampNeg) ||| (shlI (ii 1) q3)))) 216 5 (Nat.le_of_ble_eq_true rfl) tk_R_text rfl rfl ⟨trivial, trivial, hg7, trivial, trivial, trivial⟩ ?_
      exact Ev.msk [true, false, false, true] (ih (v3 + ii 1) (wI (wI h 97 ((ii 2) * v3).toNatClampNeg q1) 97 ((ii 12) + q2).toNatClampNeg (((wI h 97 ((ii 2) * v3).toNatClampNeg q1).1 97 ((ii 12) + q2).toNatClampNeg) ||| (shlI (ii 1) q3))) _ hx r h' hP)
set_option maxRecDepth 4000 in
theorem s_R_text (Γ : AG) (a1 : Int32) (h : AH) (x : Int32 × AH) (hx : f_R_text a1 h = some x) : MetA Γ m_R_text [vr 12 0 80, vi a1] h (some (vi x.1)) x.2 := by
  refine Ev.met rfl rfl (Nat.le_of_ble_eq_true rfl) ?_
  show Ev Γ m_R_text 0 [some (vr 12 0 80), some (vi a1), none, none] [] h _ _
  obtain ⟨r, hr⟩ : ∃ r : Option AV, r = some (vi x.1) := ⟨_, rfl⟩
  obtain ⟨h', hh⟩ : ∃ h' : AH, h' = x.2 := ⟨_, rfl⟩
  have hP : r = some (vi x.1) ∧ h' = x.2 := ⟨hr, hh⟩
  suffices hS : Ev Γ m_R_text 0 [some (vr 12 0 80), some (vi a1), none, none] [] h r h' by rw [hr, hh] at hS; exact hS
  clear hr hh
  unfold f_R_text at hx
  refine Ev.blk (pc' := 11) (lv' := [some (vr 12 0 80), some (vi a1), none, none]) (st' := [vl (Int64.ofInt 2), vl (Int64.ofNat 0), vl a1.toInt64]) (h' := (wI h 80 0 (ii 0))) 0 7 (Nat.le_of_ble_eq_true rfl) tk_R_text rfl rfl ⟨trivial, trivial, trivial, trivial, trivial, trivial, trivial, trivial⟩ ?_
  refine Ev.callS (ν := m_R_isIn) (av := [vl a1.toInt64, vl (Int64.ofNat 0), vl (Int64.ofInt 2)]) (rest := []) (r1 := some (vi (p_R_isIn a1.toInt64 (Int64.ofNat 0) (Int64.ofInt 2)))) (h1 := (wI h 80 0 (ii 0))) 7 3 tk_R_text rfl bb_R_isIn vv_R_isIn lk_12_223 (by decide) rfl rfl (Nat.le_of_ble_eq_true rfl) (s_R_isIn Γ a1.toInt64 (Int64.ofNat 0) (Int64.ofInt 2) (wI h 80 0 (ii 0))) ?_
  show Ev Γ m_R_text 14 [some (vr 12 0 80), some (vi a1), none, none] [vi (p_R_isIn a1.toInt64 (Int64.ofNat 0) (Int64.ofInt 2))] (wI h 80 0 (ii 0)) r h'
  refine Ev.if_eq 8 52 tk_R_text rfl (by decide) (fun hc1 => ?_) (fun hc1 => ?_)
  · replace hx := ip hc1 hx
    refine Ev.blk (pc' := 53) (lv' := [some (vr 12 0 80), some (vi a1), none, none]) (st' := [vi (ii (-1))]) (h' := (wI h 80 0 (ii 0))) 28 1 (Nat.le_of_ble_eq_true rfl) tk_R_text rfl rfl ⟨trivial, trivial⟩ ?_
    obtain rfl := Option.some.inj hx
    obtain ⟨rfl, rfl⟩ := hP
    exact Ev.iret 29 tk_R_text rfl rfl
  · replace hx := ia hc1 hx
    refine Ev.blk (pc' := 19) (lv' := [some (vr 12 0 80), some (vi a1), none, none]) (st' := [vi (ii 1), vi a1]) (h' := (wI h 80 0 (ii 0))) 9 2 (Nat.le_of_ble_eq_true rfl) tk_R_text rfl rfl ⟨trivial, trivial, trivial⟩ ?_
    refine Ev.icmp_ne 11 30 tk_R_text rfl (by decide) (fun hc2 => ?_) (fun hc2 => ?_)
    · replace hx := ia hc2 hx
      refine Ev.blk (pc' := 32) (lv' := [some (vr 12 0 80), some (vi a1), none, none]) (st' := [vi (ii 2), vi a1]) (h' := (wI h 80 0 (ii 0))) 16 2 (Nat.le_of_ble_eq_true rfl) tk_R_text rfl rfl ⟨trivial, trivial, trivial⟩ ?_
      refine Ev.icmp_ne 18 43 tk_R_text rfl (by decide) (fun hc3 => ?_) (fun hc3 => ?_)
      · replace hx := ia hc3 hx
        refine Ev.blk (pc' := 45) (lv' := [some (vr 12 0 80), some (vi a1), none, none]) (st' := [vi a1, vr 12 0 80]) (h' := (wI h 80 0 (ii 0))) 23 2 (Nat.le_of_ble_eq_true rfl) tk_R_text rfl rfl ⟨trivial, trivial, trivial⟩ ?_
        obtain ⟨q1, hq4, hx⟩ := bd hx
        refine Ev.callV (ν := m_R_fault) (av := [vi a1]) (rest := []) (r1 := some (vi q1.1)) (h1 := q1.2) (ci := 12) (nn := 0) (o := 80) 25 1 tk_R_text rfl bb_R_fault vv_R_fault lk_12_317 (by decide) rfl rfl (Or.inl rfl) (Nat.le_of_ble_eq_true rfl) (s_R_fault Γ a1 (wI h 80 0 (ii 0)) _ hq4) ?_
        show Ev Γ m_R_text 48 [some (vr 12 0 80), some (vi a1), none, none] [vi q1.1] q1.2 r h'
        refine Ev.blk (pc' := 49) (lv' := [some (vr 12 0 80), some (vi a1), none, none]) (st' := [vi (ii (-1)), vi q1.1]) (h' := q1.2) 26 1 (Nat.le_of_ble_eq_true rfl) tk_R_text rfl rfl ⟨trivial, trivial⟩ ?_
        refine Ev.icmp_eq 27 54 tk_R_text rfl (by decide) (fun hc5 => ?_) (fun hc5 => ?_)
        · replace hx := ip hc5 hx
          refine Ev.blk (pc' := 66) (lv' := [some (vr 12 0 80), some (vi a1), some (vi (q1.2.1 80 6)), none]) (st' := [vi (ii 1), vi a1]) (h' := (wI q1.2 80 6 (ii 0))) 30 8 (Nat.le_of_ble_eq_true rfl) tk_R_text rfl rfl ⟨trivial, trivial, trivial, trivial, trivial, trivial, trivial, trivial, trivial⟩ ?_
          refine Ev.icmp_ne 38 130 tk_R_text rfl (by decide) (fun hc6 => ?_) (fun hc6 => ?_)
          · replace hx := ia hc6 hx
            refine Ev.blk (pc' := 132) (lv' := [some (vr 12 0 80), some (vi a1), some (vi (q1.2.1 80 6)), none]) (st' := [vi (ii 2), vi a1]) (h' := (wI q1.2 80 6 (ii 0))) 76 2 (Nat.le_of_ble_eq_true rfl) tk_R_text rfl rfl ⟨trivial, trivial, trivial⟩ ?_
            refine Ev.icmp_ne 78 207 tk_R_text rfl (by decide) (fun hc7 => ?_) (fun hc7 => ?_)
            · replace hx := ia hc7 hx
              refine Ev.blk (pc' := 239) (lv' := [some (vr 12 0 80), some (vi a1), some (vi (q1.2.1 80 6)), none]) (st' := []) (h' := (wI (wI (wI (wI (wI q1.2 80 6 (ii 0)) 80 30 ((wI q1.2 80 6 (ii 0)).1 80 35)) 80 31 ((wI (wI q1.2 80 6 (ii 0)) 80 30 ((wI q1.2 80 6 (ii 0)).1 80 35)).1 80 36)) 80 32 ((wI (wI (wI q1.2 80 6 (ii 0)) 80 30 ((wI q1.2 80 6 (ii 0)).1 80 35)) 80 31 ((wI (wI q1.2 80 6 (ii 0)) 80 30 ((wI q1.2 80 6 (ii 0)).1 80 35)).1 80 36)).1 80 37)) 80 33 ((wI (wI (wI (wI q1.2 80 6 (ii 0)) 80 30 ((wI q1.2 80 6 (ii 0)).1 80 35)) 80 31 ((wI (wI q1.2 80 6 (ii 0)) 80 30 ((wI q1.2 80 6 (ii 0)).1 80 35)).1 80 36)) 80 32 ((wI (wI (wI q1.2 80 6 (ii 0)) 80 30 ((wI q1.2 80 6 (ii 0)).1 80 35)) 80 31 ((wI (wI q1.2 80 6 (ii 0)) 80 30 ((wI q1.2 80 6 (ii 0)).1 80 35)).1 80 36)).1 80 37)).1 80 38))) 121 16 (Nat.le_of_ble_eq_true rfl) tk_R_text rfl rfl ⟨trivial, trivial, trivial, trivial, trivial, trivial, trivial, trivial, trivial, trivial, trivial, trivial, trivial, trivial, trivial, trivial, trivial⟩ ?_
              obtain ⟨q2, hq8, hx⟩ := bd hx
              rw [Option.some.inj hq8]
              show Ev Γ m_R_text 239 [some (vr 12 0 80), some (vi a1), some (vi (q1.2.1 80 6)), none] [] q2 r h'
              refine Ev.blk (pc' := 247) (lv' := [some (vr 12 0 80), some (vi a1), some (vi (q1.2.1 80 6)), none]) (st' := [vr 20 4 85, vr 20 4 86]) (h' := q2) 137 4 (Nat.le_of_ble_eq_true rfl) tk_R_text rfl rfl ⟨trivial, trivial, trivial, trivial, trivial⟩ ?_
              obtain ⟨q3, hq9, hx⟩ := bd hx
              refine Ev.callS (ν := m_R_copy) (av := [vr 20 4 86, vr 20 4 85]) (rest := []) (r1 := none) (h1 := q3) 141 2 tk_R_text rfl bb_R_copy vv_R_copy lk_12_331 (by decide) rfl rfl (Nat.le_of_ble_eq_true rfl) (s_R_copy Γ 4 86 4 85 q2 _ hq9) ?_
              show Ev Γ m_R_text 250 [some (vr 12 0 80), some (vi a1), some (vi (q1.2.1 80 6)), none] [] q3 r h'
              refine Ev.blk (pc' := 258) (lv' := [some (vr 12 0 80), some (vi a1), some (vi (q1.2.1 80 6)), none]) (st' := [vr 20 52 87, vr 20 52 88]) (h' := q3) 142 4 (Nat.le_of_ble_eq_true rfl) tk_R_text rfl rfl ⟨trivial, trivial, trivial, trivial, trivial⟩ ?_
              obtain ⟨q4, hq10, hx⟩ := bd hx
              refine Ev.callS (ν := m_R_copy) (av := [vr 20 52 88, vr 20 52 87]) (rest := []) (r1 := none) (h1 := q4) 146 2 tk_R_text rfl bb_R_copy vv_R_copy lk_12_331 (by decide) rfl rfl (Nat.le_of_ble_eq_true rfl) (s_R_copy Γ 52 88 52 87 q3 _ hq10) ?_
              show Ev Γ m_R_text 261 [some (vr 12 0 80), some (vi a1), some (vi (q1.2.1 80 6)), none] [] q4 r h'
              refine Ev.blk (pc' := 269) (lv' := [some (vr 12 0 80), some (vi a1), some (vi (q1.2.1 80 6)), none]) (st' := [vr 20 12 89, vr 20 12 90]) (h' := q4) 147 4 (Nat.le_of_ble_eq_true rfl) tk_R_text rfl rfl ⟨trivial, trivial, trivial, trivial, trivial⟩ ?_
              obtain ⟨q5, hq11, hx⟩ := bd hx
              refine Ev.callS (ν := m_R_copy) (av := [vr 20 12 90, vr 20 12 89]) (rest := []) (r1 := none) (h1 := q5) 151 2 tk_R_text rfl bb_R_copy vv_R_copy lk_12_331 (by decide) rfl rfl (Nat.le_of_ble_eq_true rfl) (s_R_copy Γ 12 90 12 89 q4 _ hq11) ?_
              show Ev Γ m_R_text 272 [some (vr 12 0 80), some (vi a1), some (vi (q1.2.1 80 6)), none] [] q5 r h'
              refine Ev.blk (pc' := 280) (lv' := [some (vr 12 0 80), some (vi a1), some (vi (q1.2.1 80 6)), none]) (st' := [vr 20 12 91, vr 20 12 92]) (h' := q5) 152 4 (Nat.le_of_ble_eq_true rfl) tk_R_text rfl rfl ⟨trivial, trivial, trivial, trivial, trivial⟩ ?_
              obtain ⟨q6, hq12, hx⟩ := bd hx
              refine Ev.callS (ν := m_R_copy) (av := [vr 20 12 92, vr 20 12 91]) (rest := []) (r1 := none) (h1 := q6) 156 2 tk_R_text rfl bb_R_copy vv_R_copy lk_12_331 (by decide) rfl rfl (Nat.le_of_ble_eq_true rfl) (s_R_copy Γ 12 92 12 91 q5 _ hq12) ?_
              show Ev Γ m_R_text 283 [some (vr 12 0 80), some (vi a1), some (vi (q1.2.1 80 6)), none] [] q6 r h'
              refine Ev.blk (pc' := 291) (lv' := [some (vr 12 0 80), some (vi a1), some (vi (q1.2.1 80 6)), none]) (st' := [vr 20 36 93, vr 20 36 94]) (h' := q6) 157 4 (Nat.le_of_ble_eq_true rfl) tk_R_text rfl rfl ⟨trivial, trivial, trivial, trivial, trivial⟩ ?_
              obtain ⟨q7, hq13, hx⟩ := bd hx
              refine Ev.callS (ν := m_R_copy) (av := [vr 20 36 94, vr 20 36 93]) (rest := []) (r1 := none) (h1 := q7) 161 2 tk_R_text rfl bb_R_copy vv_R_copy lk_12_331 (by decide) rfl rfl (Nat.le_of_ble_eq_true rfl) (s_R_copy Γ 36 94 36 93 q6 _ hq13) ?_
              show Ev Γ m_R_text 294 [some (vr 12 0 80), some (vi a1), some (vi (q1.2.1 80 6)), none] [] q7 r h'
              obtain ⟨hg14, hx⟩ := gd hx
              obtain ⟨hg15, hx⟩ := gd hx
              refine Ev.blk (pc' := 313) (lv' := [some (vr 12 0 80), some (vi a1), some (vi (q1.2.1 80 6)), some (vi (ii 0))]) (st' := []) (h' := (wI q7 80 34 ((q7.1 85 (ii 0).toNatClampNeg) * (q7.1 85 (ii 1).toNatClampNeg)))) 162 13 (Nat.le_of_ble_eq_true rfl) tk_R_text rfl rfl ⟨trivial, trivial, trivial, trivial, hg14, trivial, trivial, trivial, hg15, trivial, trivial, trivial, trivial, trivial⟩ ?_
              obtain ⟨q8, hq16, hx⟩ := bd hx
              refine Ev.msk [true, false, false, true] ?_
              show Ev Γ m_R_text 313 [some (vr 12 0 80), none, none, some (vi (ii 0))] [] (wI q7 80 34 ((q7.1 85 (ii 0).toNatClampNeg) * (q7.1 85 (ii 1).toNatClampNeg))) r h'
              refine l_R_text_L313 Γ FU (ii 0) (wI q7 80 34 ((q7.1 85 (ii 0).toNatClampNeg) * (q7.1 85 (ii 1).toNatClampNeg))) _ hq16 r h' ?_
              show Ev Γ m_R_text 333 [some (vr 12 0 80), none, none, none] [] q8 r h'
              refine Ev.blk (pc' := 335) (lv' := [some (vr 12 0 80), none, none, some (vi (ii 0))]) (st' := []) (h' := q8) 185 2 (Nat.le_of_ble_eq_true rfl) tk_R_text rfl rfl ⟨trivial, trivial, trivial⟩ ?_
              refine Ev.msk [true, false, false, true] ?_
              show Ev Γ m_R_text 335 [some (vr 12 0 80), none, none, some (vi (ii 0))] [] q8 r h'
              exact l_R_text_L335 Γ FU (ii 0) q8 _ hx r h' hP
            · replace hx := ip hc7 hx
              refine Ev.blk (pc' := 137) (lv' := [some (vr 12 0 80), some (vi a1), some (vi (q1.2.1 80 6)), some (vi (ii 0))]) (st' := []) (h' := (wI q1.2 80 6 (ii 0))) 79 2 (Nat.le_of_ble_eq_true rfl) tk_R_text rfl rfl ⟨trivial, trivial, trivial⟩ ?_
              refine Ev.msk [true, false, false, true] ?_
              show Ev Γ m_R_text 137 [some (vr 12 0 80), none, none, some (vi (ii 0))] [] (wI q1.2 80 6 (ii 0)) r h'
              exact l_R_text_L137 Γ FU (ii 0) (wI q1.2 80 6 (ii 0)) _ hx r h' hP
          · replace hx := ip hc6 hx
            refine Ev.blk (pc' := 71) (lv' := [some (vr 12 0 80), some (vi a1), some (vi (q1.2.1 80 6)), some (vi (ii 0))]) (st' := []) (h' := (wI q1.2 80 6 (ii 0))) 39 2 (Nat.le_of_ble_eq_true rfl) tk_R_text rfl rfl ⟨trivial, trivial, trivial⟩ ?_
            refine Ev.msk [true, false, true, true] ?_
            show Ev Γ m_R_text 71 [some (vr 12 0 80), none, some (vi (q1.2.1 80 6)), some (vi (ii 0))] [] (wI q1.2 80 6 (ii 0)) r h'
            exact l_R_text_L71 Γ FU (q1.2.1 80 6) (ii 0) (wI q1.2 80 6 (ii 0)) _ hx r h' hP
        · replace hx := ia hc5 hx
          refine Ev.blk (pc' := 53) (lv' := [some (vr 12 0 80), some (vi a1), none, none]) (st' := [vi (ii (-1))]) (h' := q1.2) 28 1 (Nat.le_of_ble_eq_true rfl) tk_R_text rfl rfl ⟨trivial, trivial⟩ ?_
          obtain rfl := Option.some.inj hx
          obtain ⟨rfl, rfl⟩ := hP
          exact Ev.iret 29 tk_R_text rfl rfl
      · replace hx := ip hc3 hx
        refine Ev.blk (pc' := 40) (lv' := [some (vr 12 0 80), some (vi a1), none, none]) (st' := [vi (ii 4), vi ((wI h 80 0 (ii 0)).1 80 39)]) (h' := (wI h 80 0 (ii 0))) 19 3 (Nat.le_of_ble_eq_true rfl) tk_R_text rfl rfl ⟨trivial, trivial, trivial, trivial⟩ ?_
        refine Ev.icmp_eq 22 52 tk_R_text rfl (by decide) (fun hc17 => ?_) (fun hc17 => ?_)
        · replace hx := ip hc17 hx
          refine Ev.blk (pc' := 53) (lv' := [some (vr 12 0 80), some (vi a1), none, none]) (st' := [vi (ii (-1))]) (h' := (wI h 80 0 (ii 0))) 28 1 (Nat.le_of_ble_eq_true rfl) tk_R_text rfl rfl ⟨trivial, trivial⟩ ?_
          obtain rfl := Option.some.inj hx
          obtain ⟨rfl, rfl⟩ := hP
          exact Ev.iret 29 tk_R_text rfl rfl
        · replace hx := ia hc17 hx
          refine Ev.blk (pc' := 45) (lv' := [some (vr 12 0 80), some (vi a1), none, none]) (st' := [vi a1, vr 12 0 80]) (h' := (wI h 80 0 (ii 0))) 23 2 (Nat.le_of_ble_eq_true rfl) tk_R_text rfl rfl ⟨trivial, trivial, trivial⟩ ?_
          obtain ⟨q9, hq18, hx⟩ := bd hx
          refine Ev.callV (ν := m_R_fault) (av := [vi a1]) (rest := []) (r1 := some (vi q9.1)) (h1 := q9.2) (ci := 12) (nn := 0) (o := 80) 25 1 tk_R_text rfl bb_R_fault vv_R_fault lk_12_317 (by decide) rfl rfl (Or.inl rfl) (Nat.le_of_ble_eq_true rfl) (s_R_fault Γ a1 (wI h 80 0 (ii 0)) _ hq18) ?_
          show Ev Γ m_R_text 48 [some (vr 12 0 80), some (vi a1), none, none] [vi q9.1] q9.2 r h'
          refine Ev.blk (pc' := 49) (lv' := [some (vr 12 0 80), some (vi a1), none, none]) (st' := [vi (ii (-1)), vi q9.1]) (h' := q9.2) 26 1 (Nat.le_of_ble_eq_true rfl) tk_R_text rfl rfl ⟨trivial, trivial⟩ ?_
          refine Ev.icmp_eq 27 54 tk_R_text rfl (by decide) (fun hc19 => ?_) (fun hc19 => ?_)
          · replace hx := ip hc19 hx
            refine Ev.blk (pc' := 66) (lv' := [some (vr 12 0 80), some (vi a1), some (vi (q9.2.1 80 6)), none]) (st' := [vi (ii 1), vi a1]) (h' := (wI q9.2 80 6 (ii 0))) 30 8 (Nat.le_of_ble_eq_true rfl) tk_R_text rfl rfl ⟨trivial, trivial, trivial, trivial, trivial, trivial, trivial, trivial, trivial⟩ ?_
            refine Ev.icmp_ne 38 130 tk_R_text rfl (by decide) (fun hc20 => ?_) (fun hc20 => ?_)
            · replace hx := ia hc20 hx
              refine Ev.blk (pc' := 132) (lv' := [some (vr 12 0 80), some (vi a1), some (vi (q9.2.1 80 6)), none]) (st' := [vi (ii 2), vi a1]) (h' := (wI q9.2 80 6 (ii 0))) 76 2 (Nat.le_of_ble_eq_true rfl) tk_R_text rfl rfl ⟨trivial, trivial, trivial⟩ ?_
              refine Ev.icmp_ne 78 207 tk_R_text rfl (by decide) (fun hc21 => ?_) (fun hc21 => ?_)
              · replace hx := ia hc21 hx
                refine Ev.blk (pc' := 239) (lv' := [some (vr 12 0 80), some (vi a1), some (vi (q9.2.1 80 6)), none]) (st' := []) (h' := (wI (wI (wI (wI (wI q9.2 80 6 (ii 0)) 80 30 ((wI q9.2 80 6 (ii 0)).1 80 35)) 80 31 ((wI (wI q9.2 80 6 (ii 0)) 80 30 ((wI q9.2 80 6 (ii 0)).1 80 35)).1 80 36)) 80 32 ((wI (wI (wI q9.2 80 6 (ii 0)) 80 30 ((wI q9.2 80 6 (ii 0)).1 80 35)) 80 31 ((wI (wI q9.2 80 6 (ii 0)) 80 30 ((wI q9.2 80 6 (ii 0)).1 80 35)).1 80 36)).1 80 37)) 80 33 ((wI (wI (wI (wI q9.2 80 6 (ii 0)) 80 30 ((wI q9.2 80 6 (ii 0)).1 80 35)) 80 31 ((wI (wI q9.2 80 6 (ii 0)) 80 30 ((wI q9.2 80 6 (ii 0)).1 80 35)).1 80 36)) 80 32 ((wI (wI (wI q9.2 80 6 (ii 0)) 80 30 ((wI q9.2 80 6 (ii 0)).1 80 35)) 80 31 ((wI (wI q9.2 80 6 (ii 0)) 80 30 ((wI q9.2 80 6 (ii 0)).1 80 35)).1 80 36)).1 80 37)).1 80 38))) 121 16 (Nat.le_of_ble_eq_true rfl) tk_R_text rfl rfl ⟨trivial, trivial, trivial, trivial, trivial, trivial, trivial, trivial, trivial, trivial, trivial, trivial, trivial, trivial, trivial, trivial, trivial⟩ ?_
                obtain ⟨q10, hq22, hx⟩ := bd hx
                rw [Option.some.inj hq22]
                show Ev Γ m_R_text 239 [some (vr 12 0 80), some (vi a1), some (vi (q9.2.1 80 6)), none] [] q10 r h'
                refine Ev.blk (pc' := 247) (lv' := [some (vr 12 0 80), some (vi a1), some (vi (q9.2.1 80 6)), none]) (st' := [vr 20 4 85, vr 20 4 86]) (h' := q10) 137 4 (Nat.le_of_ble_eq_true rfl) tk_R_text rfl rfl ⟨trivial, trivial, trivial, trivial, trivial⟩ ?_
                obtain ⟨q11, hq23, hx⟩ := bd hx
                refine Ev.callS (ν := m_R_copy) (av := [vr 20 4 86, vr 20 4 85]) (rest := []) (r1 := none) (h1 := q11) 141 2 tk_R_text rfl bb_R_copy vv_R_copy lk_12_331 (by decide) rfl rfl (Nat.le_of_ble_eq_true rfl) (s_R_copy Γ 4 86 4 85 q10 _ hq23) ?_
                show Ev Γ m_R_text 250 [some (vr 12 0 80), some (vi a1), some (vi (q9.2.1 80 6)), none] [] q11 r h'
                refine Ev.blk (pc' := 258) (lv' := [some (vr 12 0 80), some (vi a1), some (vi (q9.2.1 80 6)), none]) (st' := [vr 20 52 87, vr 20 52 88]) (h' := q11) 142 4 (Nat.le_of_ble_eq_true rfl) tk_R_text rfl rfl ⟨trivial, trivial, trivial, trivial, trivial⟩ ?_
                obtain ⟨q12, hq24, hx⟩ := bd hx
                refine Ev.callS (ν := m_R_copy) (av := [vr 20 52 88, vr 20 52 87]) (rest := []) (r1 := none) (h1 := q12) 146 2 tk_R_text rfl bb_R_copy vv_R_copy lk_12_331 (by decide) rfl rfl (Nat.le_of_ble_eq_true rfl) (s_R_copy Γ 52 88 52 87 q11 _ hq24) ?_
                show Ev Γ m_R_text 261 [some (vr 12 0 80), some (vi a1), some (vi (q9.2.1 80 6)), none] [] q12 r h'
                refine Ev.blk (pc' := 269) (lv' := [some (vr 12 0 80), some (vi a1), some (vi (q9.2.1 80 6)), none]) (st' := [vr 20 12 89, vr 20 12 90]) (h' := q12) 147 4 (Nat.le_of_ble_eq_true rfl) tk_R_text rfl rfl ⟨trivial, trivial, trivial, trivial, trivial⟩ ?_
                obtain ⟨q13, hq25, hx⟩ := bd hx
                refine Ev.callS (ν := m_R_copy) (av := [vr 20 12 90, vr 20 12 89]) (rest := []) (r1 := none) (h1 := q13) 151 2 tk_R_text rfl bb_R_copy vv_R_copy lk_12_331 (by decide) rfl rfl (Nat.le_of_ble_eq_true rfl) (s_R_copy Γ 12 90 12 89 q12 _ hq25) ?_
                show Ev Γ m_R_text 272 [some (vr 12 0 80), some (vi a1), some (vi (q9.2.1 80 6)), none] [] q13 r h'
                refine Ev.blk (pc' := 280) (lv' := [some (vr 12 0 80), some (vi a1), some (vi (q9.2.1 80 6)), none]) (st' := [vr 20 12 91, vr 20 12 92]) (h' := q13) 152 4 (Nat.le_of_ble_eq_true rfl) tk_R_text rfl rfl ⟨trivial, trivial, trivial, trivial, trivial⟩ ?_
                obtain ⟨q14, hq26, hx⟩ := bd hx
                refine Ev.callS (ν := m_R_copy) (av := [vr 20 12 92, vr 20 12 91]) (rest := []) (r1 := none) (h1 := q14) 156 2 tk_R_text rfl bb_R_copy vv_R_copy lk_12_331 (by decide) rfl rfl (Nat.le_of_ble_eq_true rfl) (s_R_copy Γ 12 92 12 91 q13 _ hq26) ?_
                show Ev Γ m_R_text 283 [some (vr 12 0 80), some (vi a1), some (vi (q9.2.1 80 6)), none] [] q14 r h'
                refine Ev.blk (pc' := 291) (lv' := [some (vr 12 0 80), some (vi a1), some (vi (q9.2.1 80 6)), none]) (st' := [vr 20 36 93, vr 20 36 94]) (h' := q14) 157 4 (Nat.le_of_ble_eq_true rfl) tk_R_text rfl rfl ⟨trivial, trivial, trivial, trivial, trivial⟩ ?_
                obtain ⟨q15, hq27, hx⟩ := bd hx
                refine Ev.callS (ν := m_R_copy) (av := [vr 20 36 94, vr 20 36 93]) (rest := []) (r1 := none) (h1 := q15) 161 2 tk_R_text rfl bb_R_copy vv_R_copy lk_12_331 (by decide) rfl rfl (Nat.le_of_ble_eq_true rfl) (s_R_copy Γ 36 94 36 93 q14 _ hq27) ?_
                show Ev Γ m_R_text 294 [some (vr 12 0 80), some (vi a1), some (vi (q9.2.1 80 6)), none] [] q15 r h'
                obtain ⟨hg28, hx⟩ := gd hx
                obtain ⟨hg29, hx⟩ := gd hx
                refine Ev.blk (pc' := 313) (lv' := [some (vr 12 0 80), some (vi a1), some (vi (q9.2.1 80 6)), some (vi (ii 0))]) (st' := []) (h' := (wI q15 80 34 ((q15.1 85 (ii 0).toNatClampNeg) * (q15.1 85 (ii 1).toNatClampNeg)))) 162 13 (Nat.le_of_ble_eq_true rfl) tk_R_text rfl rfl ⟨trivial, trivial, trivial, trivial, hg28, trivial, trivial, trivial, hg29, trivial, trivial, trivial, trivial, trivial⟩ ?_
                obtain ⟨q16, hq30, hx⟩ := bd hx
                refine Ev.msk [true, false, false, true] ?_
                show Ev Γ m_R_text 313 [some (vr 12 0 80), none, none, some (vi (ii 0))] [] (wI q15 80 34 ((q15.1 85 (ii 0).toNatClampNeg) * (q15.1 85 (ii 1).toNatClampNeg))) r h'
                refine l_R_text_L313 Γ FU (ii 0) (wI q15 80 34 ((q15.1 85 (ii 0).toNatClampNeg) * (q15.1 85 (ii 1).toNatClampNeg))) _ hq30 r h' ?_
                show Ev Γ m_R_text 333 [some (vr 12 0 80), none, none, none] [] q16 r h'
                refine Ev.blk (pc' := 335) (lv' := [some (vr 12 0 80), none, none, some (vi (ii 0))]) (st' := []) (h' := q16) 185 2 (Nat.le_of_ble_eq_true rfl) tk_R_text rfl rfl ⟨trivial, trivial, trivial⟩ ?_
                refine Ev.msk [true, false, false, true] ?_
                show Ev Γ m_R_text 335 [some (vr 12 0 80), none, none, some (vi (ii 0))] [] q16 r h'
                exact l_R_text_L335 Γ FU (ii 0) q16 _ hx r h' hP
              · replace hx := ip hc21 hx
                refine Ev.blk (pc' := 137) (lv' := [some (vr 12 0 80), some (vi a1), some (vi (q9.2.1 80 6)), some (vi (ii 0))]) (st' := []) (h' := (wI q9.2 80 6 (ii 0))) 79 2 (Nat.le_of_ble_eq_true rfl) tk_R_text rfl rfl ⟨trivial, trivial, trivial⟩ ?_
                refine Ev.msk [true, false, false, true] ?_
                show Ev Γ m_R_text 137 [some (vr 12 0 80), none, none, some (vi (ii 0))] [] (wI q9.2 80 6 (ii 0)) r h'
                exact l_R_text_L137 Γ FU (ii 0) (wI q9.2 80 6 (ii 0)) _ hx r h' hP
            · replace hx := ip hc20 hx
              refine Ev.blk (pc' := 71) (lv' := [some (vr 12 0 80), some (vi a1), some (vi (q9.2.1 80 6)), some (vi (ii 0))]) (st' := []) (h' := (wI q9.2 80 6 (ii 0))) 39 2 (Nat.le_of_ble_eq_true rfl) tk_R_text rfl rfl ⟨trivial, trivial, trivial⟩ ?_
              refine Ev.msk [true, false, true, true] ?_
              show Ev Γ m_R_text 71 [some (vr 12 0 80), none, some (vi (q9.2.1 80 6)), some (vi (ii 0))] [] (wI q9.2 80 6 (ii 0)) r h'
              exact l_R_text_L71 Γ FU (q9.2.1 80 6) (ii 0) (wI q9.2 80 6 (ii 0)) _ hx r h' hP
          · replace hx := ia hc19 hx
            refine Ev.blk (pc' := 53) (lv' := [some (vr 12 0 80), some (vi a1), none, none]) (st' := [vi (ii (-1))]) (h' := q9.2) 28 1 (Nat.le_of_ble_eq_true rfl) tk_R_text rfl rfl ⟨trivial, trivial⟩ ?_
            obtain rfl := Option.some.inj hx
            obtain ⟨rfl, rfl⟩ := hP
            exact Ev.iret 29 tk_R_text rfl rfl
    · replace hx := ip hc2 hx
      refine Ev.blk (pc' := 27) (lv' := [some (vr 12 0 80), some (vi a1), none, none]) (st' := [vi (ii 4), vi ((wI h 80 0 (ii 0)).1 80 7)]) (h' := (wI h 80 0 (ii 0))) 12 3 (Nat.le_of_ble_eq_true rfl) tk_R_text rfl rfl ⟨trivial, trivial, trivial, trivial⟩ ?_
      refine Ev.icmp_eq 15 52 tk_R_text rfl (by decide) (fun hc31 => ?_) (fun hc31 => ?_)
      · replace hx := ip hc31 hx
        refine Ev.blk (pc' := 53) (lv' := [some (vr 12 0 80), some (vi a1), none, none]) (st' := [vi (ii (-1))]) (h' := (wI h 80 0 (ii 0))) 28 1 (Nat.le_of_ble_eq_true rfl) tk_R_text rfl rfl ⟨trivial, trivial⟩ ?_
        obtain rfl := Option.some.inj hx
        obtain ⟨rfl, rfl⟩ := hP
        exact Ev.iret 29 tk_R_text rfl rfl
      · replace hx := ia hc31 hx
        refine Ev.blk (pc' := 32) (lv' := [some (vr 12 0 80), some (vi a1), none, none]) (st' := [vi (ii 2), vi a1]) (h' := (wI h 80 0 (ii 0))) 16 2 (Nat.le_of_ble_eq_true rfl) tk_R_text rfl rfl ⟨trivial, trivial, trivial⟩ ?_
        refine Ev.icmp_ne 18 43 tk_R_text rfl (by decide) (fun hc32 => ?_) (fun hc32 => ?_)
        · replace hx := ia hc32 hx
          refine Ev.blk (pc' := 45) (lv' := [some (vr 12 0 80), some (vi a1), none, none]) (st' := [vi a1, vr 12 0 80]) (h' := (wI h 80 0 (ii 0))) 23 2 (Nat.le_of_ble_eq_true rfl) tk_R_text rfl rfl ⟨trivial, trivial, trivial⟩ ?_
          obtain ⟨q17, hq33, hx⟩ := bd hx
          refine Ev.callV (ν := m_R_fault) (av := [vi a1]) (rest := []) (r1 := some (vi q17.1)) (h1 := q17.2) (ci := 12) (nn := 0) (o := 80) 25 1 tk_R_text rfl bb_R_fault vv_R_fault lk_12_317 (by decide) rfl rfl (Or.inl rfl) (Nat.le_of_ble_eq_true rfl) (s_R_fault Γ a1 (wI h 80 0 (ii 0)) _ hq33) ?_
          show Ev Γ m_R_text 48 [some (vr 12 0 80), some (vi a1), none, none] [vi q17.1] q17.2 r h'
          refine Ev.blk (pc' := 49) (lv' := [some (vr 12 0 80), some (vi a1), none, none]) (st' := [vi (ii (-1)), vi q17.1]) (h' := q17.2) 26 1 (Nat.le_of_ble_eq_true rfl) tk_R_text rfl rfl ⟨trivial, trivial⟩ ?_
          refine Ev.icmp_eq 27 54 tk_R_text rfl (by decide) (fun hc34 => ?_) (fun hc34 => ?_)
          · replace hx := ip hc34 hx
            refine Ev.blk (pc' := 66) (lv' := [some (vr 12 0 80), some (vi a1), some (vi (q17.2.1 80 6)), none]) (st' := [vi (ii 1), vi a1]) (h' := (wI q17.2 80 6 (ii 0))) 30 8 (Nat.le_of_ble_eq_true rfl) tk_R_text rfl rfl ⟨trivial, trivial, trivial, trivial, trivial, trivial, trivial, trivial, trivial⟩ ?_
            refine Ev.icmp_ne 38 130 tk_R_text rfl (by decide) (fun hc35 => ?_) (fun hc35 => ?_)
            · replace hx := ia hc35 hx
              refine Ev.blk (pc' := 132) (lv' := [some (vr 12 0 80), some (vi a1), some (vi (q17.2.1 80 6)), none]) (st' := [vi (ii 2), vi a1]) (h' := (wI q17.2 80 6 (ii 0))) 76 2 (Nat.le_of_ble_eq_true rfl) tk_R_text rfl rfl ⟨trivial, trivial, trivial⟩ ?_
              refine Ev.icmp_ne 78 207 tk_R_text rfl (by decide) (fun hc36 => ?_) (fun hc36 => ?_)
              · replace hx := ia hc36 hx
                refine Ev.blk (pc' := 239) (lv' := [some (vr 12 0 80), some (vi a1), some (vi (q17.2.1 80 6)), none]) (st' := []) (h' := (wI (wI (wI (wI (wI q17.2 80 6 (ii 0)) 80 30 ((wI q17.2 80 6 (ii 0)).1 80 35)) 80 31 ((wI (wI q17.2 80 6 (ii 0)) 80 30 ((wI q17.2 80 6 (ii 0)).1 80 35)).1 80 36)) 80 32 ((wI (wI (wI q17.2 80 6 (ii 0)) 80 30 ((wI q17.2 80 6 (ii 0)).1 80 35)) 80 31 ((wI (wI q17.2 80 6 (ii 0)) 80 30 ((wI q17.2 80 6 (ii 0)).1 80 35)).1 80 36)).1 80 37)) 80 33 ((wI (wI (wI (wI q17.2 80 6 (ii 0)) 80 30 ((wI q17.2 80 6 (ii 0)).1 80 35)) 80 31 ((wI (wI q17.2 80 6 (ii 0)) 80 30 ((wI q17.2 80 6 (ii 0)).1 80 35)).1 80 36)) 80 32 ((wI (wI (wI q17.2 80 6 (ii 0)) 80 30 ((wI q17.2 80 6 (ii 0)).1 80 35)) 80 31 ((wI (wI q17.2 80 6 (ii 0)) 80 30 ((wI q17.2 80 6 (ii 0)).1 80 35)).1 80 36)).1 80 37)).1 80 38))) 121 16 (Nat.le_of_ble_eq_true rfl) tk_R_text rfl rfl ⟨trivial, trivial, trivial, trivial, trivial, trivial, trivial, trivial, trivial, trivial, trivial, trivial, trivial, trivial, trivial, trivial, trivial⟩ ?_
                obtain ⟨q18, hq37, hx⟩ := bd hx
                rw [Option.some.inj hq37]
                show Ev Γ m_R_text 239 [some (vr 12 0 80), some (vi a1), some (vi (q17.2.1 80 6)), none] [] q18 r h'
                refine Ev.blk (pc' := 247) (lv' := [some (vr 12 0 80), some (vi a1), some (vi (q17.2.1 80 6)), none]) (st' := [vr 20 4 85, vr 20 4 86]) (h' := q18) 137 4 (Nat.le_of_ble_eq_true rfl) tk_R_text rfl rfl ⟨trivial, trivial, trivial, trivial, trivial⟩ ?_
                obtain ⟨q19, hq38, hx⟩ := bd hx
                refine Ev.callS (ν := m_R_copy) (av := [vr 20 4 86, vr 20 4 85]) (rest := []) (r1 := none) (h1 := q19) 141 2 tk_R_text rfl bb_R_copy vv_R_copy lk_12_331 (by decide) rfl rfl (Nat.le_of_ble_eq_true rfl) (s_R_copy Γ 4 86 4 85 q18 _ hq38) ?_
                show Ev Γ m_R_text 250 [some (vr 12 0 80), some (vi a1), some (vi (q17.2.1 80 6)), none] [] q19 r h'
                refine Ev.blk (pc' := 258) (lv' := [some (vr 12 0 80), some (vi a1), some (vi (q17.2.1 80 6)), none]) (st' := [vr 20 52 87, vr 20 52 88]) (h' := q19) 142 4 (Nat.le_of_ble_eq_true rfl) tk_R_text rfl rfl ⟨trivial, trivial, trivial, trivial, trivial⟩ ?_
                obtain ⟨q20, hq39, hx⟩ := bd hx
                refine Ev.callS (ν := m_R_copy) (av := [vr 20 52 88, vr 20 52 87]) (rest := []) (r1 := none) (h1 := q20) 146 2 tk_R_text rfl bb_R_copy vv_R_copy lk_12_331 (by decide) rfl rfl (Nat.le_of_ble_eq_true rfl) (s_R_copy Γ 52 88 52 87 q19 _ hq39) ?_
                show Ev Γ m_R_text 261 [some (vr 12 0 80), some (vi a1), some (vi (q17.2.1 80 6)), none] [] q20 r h'
                refine Ev.blk (pc' := 269) (lv' := [some (vr 12 0 80), some (vi a1), some (vi (q17.2.1 80 6)), none]) (st' := [vr 20 12 89, vr 20 12 90]) (h' := q20) 147 4 (Nat.le_of_ble_eq_true rfl) tk_R_text rfl rfl ⟨trivial, trivial, trivial, trivial, trivial⟩ ?_
                obtain ⟨q21, hq40, hx⟩ := bd hx
                refine Ev.callS (ν := m_R_copy) (av := [vr 20 12 90, vr 20 12 89]) (rest := []) (r1 := none) (h1 := q21) 151 2 tk_R_text rfl bb_R_copy vv_R_copy lk_12_331 (by decide) rfl rfl (Nat.le_of_ble_eq_true rfl) (s_R_copy Γ 12 90 12 89 q20 _ hq40) ?_
                show Ev Γ m_R_text 272 [some (vr 12 0 80), some (vi a1), some (vi (q17.2.1 80 6)), none] [] q21 r h'
                refine Ev.blk (pc' := 280) (lv' := [some (vr 12 0 80), some (vi a1), some (vi (q17.2.1 80 6)), none]) (st' := [vr 20 12 91, vr 20 12 92]) (h' := q21) 152 4 (Nat.le_of_ble_eq_true rfl) tk_R_text rfl rfl ⟨trivial, trivial, trivial, trivial, trivial⟩ ?_
                obtain ⟨q22, hq41, hx⟩ := bd hx
                refine Ev.callS (ν := m_R_copy) (av := [vr 20 12 92, vr 20 12 91]) (rest := []) (r1 := none) (h1 := q22) 156 2 tk_R_text rfl bb_R_copy vv_R_copy lk_12_331 (by decide) rfl rfl (Nat.le_of_ble_eq_true rfl) (s_R_copy Γ 12 92 12 91 q21 _ hq41) ?_
                show Ev Γ m_R_text 283 [some (vr 12 0 80), some (vi a1), some (vi (q17.2.1 80 6)), none] [] q22 r h'
                refine Ev.blk (pc' := 291) (lv' := [some (vr 12 0 80), some (vi a1), some (vi (q17.2.1 80 6)), none]) (st' := [vr 20 36 93, vr 20 36 94]) (h' := q22) 157 4 (Nat.le_of_ble_eq_true rfl) tk_R_text rfl rfl ⟨trivial, trivial, trivial, trivial, trivial⟩ ?_
                obtain ⟨q23, hq42, hx⟩ := bd hx
                refine Ev.callS (ν := m_R_copy) (av := [vr 20 36 94, vr 20 36 93]) (rest := []) (r1 := none) (h1 := q23) 161 2 tk_R_text rfl bb_R_copy vv_R_copy lk_12_331 (by decide) rfl rfl (Nat.le_of_ble_eq_true rfl) (s_R_copy Γ 36 94 36 93 q22 _ hq42) ?_
                show Ev Γ m_R_text 294 [some (vr 12 0 80), some (vi a1), some (vi (q17.2.1 80 6)), none] [] q23 r h'
                obtain ⟨hg43, hx⟩ := gd hx
                obtain ⟨hg44, hx⟩ := gd hx
                refine Ev.blk (pc' := 313) (lv' := [some (vr 12 0 80), some (vi a1), some (vi (q17.2.1 80 6)), some (vi (ii 0))]) (st' := []) (h' := (wI q23 80 34 ((q23.1 85 (ii 0).toNatClampNeg) * (q23.1 85 (ii 1).toNatClampNeg)))) 162 13 (Nat.le_of_ble_eq_true rfl) tk_R_text rfl rfl ⟨trivial, trivial, trivial, trivial, hg43, trivial, trivial, trivial, hg44, trivial, trivial, trivial, trivial, trivial⟩ ?_
                obtain ⟨q24, hq45, hx⟩ := bd hx
                refine Ev.msk [true, false, false, true] ?_
                show Ev Γ m_R_text 313 [some (vr 12 0 80), none, none, some (vi (ii 0))] [] (wI q23 80 34 ((q23.1 85 (ii 0).toNatClampNeg) * (q23.1 85 (ii 1).toNatClampNeg))) r h'
                refine l_R_text_L313 Γ FU (ii 0) (wI q23 80 34 ((q23.1 85 (ii 0).toNatClampNeg) * (q23.1 85 (ii 1).toNatClampNeg))) _ hq45 r h' ?_
                show Ev Γ m_R_text 333 [some (vr 12 0 80), none, none, none] [] q24 r h'
                refine Ev.blk (pc' := 335) (lv' := [some (vr 12 0 80), none, none, some (vi (ii 0))]) (st' := []) (h' := q24) 185 2 (Nat.le_of_ble_eq_true rfl) tk_R_text rfl rfl ⟨trivial, trivial, trivial⟩ ?_
                refine Ev.msk [true, false, false, true] ?_
                show Ev Γ m_R_text 335 [some (vr 12 0 80), none, none, some (vi (ii 0))] [] q24 r h'
                exact l_R_text_L335 Γ FU (ii 0) q24 _ hx r h' hP
              · replace hx := ip hc36 hx
                refine Ev.blk (pc' := 137) (lv' := [some (vr 12 0 80), some (vi a1), some (vi (q17.2.1 80 6)), some (vi (ii 0))]) (st' := []) (h' := (wI q17.2 80 6 (ii 0))) 79 2 (Nat.le_of_ble_eq_true rfl) tk_R_text rfl rfl ⟨trivial, trivial, trivial⟩ ?_
                refine Ev.msk [true, false, false, true] ?_
                show Ev Γ m_R_text 137 [some (vr 12 0 80), none, none, some (vi (ii 0))] [] (wI q17.2 80 6 (ii 0)) r h'
                exact l_R_text_L137 Γ FU (ii 0) (wI q17.2 80 6 (ii 0)) _ hx r h' hP
            · replace hx := ip hc35 hx
              refine Ev.blk (pc' := 71) (lv' := [some (vr 12 0 80), some (vi a1), some (vi (q17.2.1 80 6)), some (vi (ii 0))]) (st' := []) (h' := (wI q17.2 80 6 (ii 0))) 39 2 (Nat.le_of_ble_eq_true rfl) tk_R_text rfl rfl ⟨trivial, trivial, trivial⟩ ?_
              refine Ev.msk [true, false, true, true] ?_
              show Ev Γ m_R_text 71 [some (vr 12 0 80), none, some (vi (q17.2.1 80 6)), some (vi (ii 0))] [] (wI q17.2 80 6 (ii 0)) r h'
              exact l_R_text_L71 Γ FU (q17.2.1 80 6) (ii 0) (wI q17.2 80 6 (ii 0)) _ hx r h' hP
          · replace hx := ia hc34 hx
            refine Ev.blk (pc' := 53) (lv' := [some (vr 12 0 80), some (vi a1), none, none]) (st' := [vi (ii (-1))]) (h' := q17.2) 28 1 (Nat.le_of_ble_eq_true rfl) tk_R_text rfl rfl ⟨trivial, trivial⟩ ?_
            obtain rfl := Option.some.inj hx
            obtain ⟨rfl, rfl⟩ := hP
            exact Ev.iret 29 tk_R_text rfl rfl
        · replace hx := ip hc32 hx
          refine Ev.blk (pc' := 40) (lv' := [some (vr 12 0 80), some (vi a1), none, none]) (st' := [vi (ii 4), vi ((wI h 80 0 (ii 0)).1 80 39)]) (h' := (wI h 80 0 (ii 0))) 19 3 (Nat.le_of_ble_eq_true rfl) tk_R_text rfl rfl ⟨trivial, trivial, trivial, trivial⟩ ?_
          refine Ev.icmp_eq 22 52 tk_R_text rfl (by decide) (fun hc46 => ?_) (fun hc46 => ?_)
          · replace hx := ip hc46 hx
            refine Ev.blk (pc' := 53) (lv' := [some (vr 12 0 80), some (vi a1), none, none]) (st' := [vi (ii (-1))]) (h' := (wI h 80 0 (ii 0))) 28 1 (Nat.le_of_ble_eq_true rfl) tk_R_text rfl rfl ⟨trivial, trivial⟩ ?_
            obtain rfl := Option.some.inj hx
            obtain ⟨rfl, rfl⟩ := hP
            exact Ev.iret 29 tk_R_text rfl rfl
          · replace hx := ia hc46 hx
            refine Ev.blk (pc' := 45) (lv' := [some (vr 12 0 80), some (vi a1), none, none]) (st' := [vi a1, vr 12 0 80]) (h' := (wI h 80 0 (ii 0))) 23 2 (Nat.le_of_ble_eq_true rfl) tk_R_text rfl rfl ⟨trivial, trivial, trivial⟩ ?_
            obtain ⟨q25, hq47, hx⟩ := bd hx
            refine Ev.callV (ν := m_R_fault) (av := [vi a1]) (rest := []) (r1 := some (vi q25.1)) (h1 := q25.2) (ci := 12) (nn := 0) (o := 80) 25 1 tk_R_text rfl bb_R_fault vv_R_fault lk_12_317 (by decide) rfl rfl (Or.inl rfl) (Nat.le_of_ble_eq_true rfl) (s_R_fault Γ a1 (wI h 80 0 (ii 0)) _ hq47) ?_
            show Ev Γ m_R_text 48 [some (vr 12 0 80), some (vi a1), none, none] [vi q25.1] q25.2 r h'
            refine Ev.blk (pc' := 49) (lv' := [some (vr 12 0 80), some (vi a1), none, none]) (st' := [vi (ii (-1)), vi q25.1]) (h' := q25.2) 26 1 (Nat.le_of_ble_eq_true rfl) tk_R_text rfl rfl ⟨trivial, trivial⟩ ?_
            refine Ev.icmp_eq 27 54 tk_R_text rfl (by decide) (fun hc48 => ?_) (fun hc48 => ?_)
            · replace hx := ip hc48 hx
              refine Ev.blk (pc' := 66) (lv' := [some (vr 12 0 80), some (vi a1), some (vi (q25.2.1 80 6)), none]) (st' := [vi (ii 1), vi a1]) (h' := (wI q25.2 80 6 (ii 0))) 30 8 (Nat.le_of_ble_eq_true rfl) tk_R_text rfl rfl ⟨trivial, trivial, trivial, trivial, trivial, trivial, trivial, trivial, trivial⟩ ?_
              refine Ev.icmp_ne 38 130 tk_R_text rfl (by decide) (fun hc49 => ?_) (fun hc49 => ?_)
              · replace hx := ia hc49 hx
                refine Ev.blk (pc' := 132) (lv' := [some (vr 12 0 80), some (vi a1), some (vi (q25.2.1 80 6)), none]) (st' := [vi (ii 2), vi a1]) (h' := (wI q25.2 80 6 (ii 0))) 76 2 (Nat.le_of_ble_eq_true rfl) tk_R_text rfl rfl ⟨trivial, trivial, trivial⟩ ?_
                refine Ev.icmp_ne 78 207 tk_R_text rfl (by decide) (fun hc50 => ?_) (fun hc50 => ?_)
                · replace hx := ia hc50 hx
                  refine Ev.blk (pc' := 239) (lv' := [some (vr 12 0 80), some (vi a1), some (vi (q25.2.1 80 6)), none]) (st' := []) (h' := (wI (wI (wI (wI (wI q25.2 80 6 (ii 0)) 80 30 ((wI q25.2 80 6 (ii 0)).1 80 35)) 80 31 ((wI (wI q25.2 80 6 (ii 0)) 80 30 ((wI q25.2 80 6 (ii 0)).1 80 35)).1 80 36)) 80 32 ((wI (wI (wI q25.2 80 6 (ii 0)) 80 30 ((wI q25.2 80 6 (ii 0)).1 80 35)) 80 31 ((wI (wI q25.2 80 6 (ii 0)) 80 30 ((wI q25.2 80 6 (ii 0)).1 80 35)).1 80 36)).1 80 37)) 80 33 ((wI (wI (wI (wI q25.2 80 6 (ii 0)) 80 30 ((wI q25.2 80 6 (ii 0)).1 80 35)) 80 31 ((wI (wI q25.2 80 6 (ii 0)) 80 30 ((wI q25.2 80 6 (ii 0)).1 80 35)).1 80 36)) 80 32 ((wI (wI (wI q25.2 80 6 (ii 0)) 80 30 ((wI q25.2 80 6 (ii 0)).1 80 35)) 80 31 ((wI (wI q25.2 80 6 (ii 0)) 80 30 ((wI q25.2 80 6 (ii 0)).1 80 35)).1 80 36)).1 80 37)).1 80 38))) 121 16 (Nat.le_of_ble_eq_true rfl) tk_R_text rfl rfl ⟨trivial, trivial, trivial, trivial, trivial, trivial, trivial, trivial, trivial, trivial, trivial, trivial, trivial, trivial, trivial, trivial, trivial⟩ ?_
                  obtain ⟨q26, hq51, hx⟩ := bd hx
                  rw [Option.some.inj hq51]
                  show Ev Γ m_R_text 239 [some (vr 12 0 80), some (vi a1), some (vi (q25.2.1 80 6)), none] [] q26 r h'
                  refine Ev.blk (pc' := 247) (lv' := [some (vr 12 0 80), some (vi a1), some (vi (q25.2.1 80 6)), none]) (st' := [vr 20 4 85, vr 20 4 86]) (h' := q26) 137 4 (Nat.le_of_ble_eq_true rfl) tk_R_text rfl rfl ⟨trivial, trivial, trivial, trivial, trivial⟩ ?_
                  obtain ⟨q27, hq52, hx⟩ := bd hx
                  refine Ev.callS (ν := m_R_copy) (av := [vr 20 4 86, vr 20 4 85]) (rest := []) (r1 := none) (h1 := q27) 141 2 tk_R_text rfl bb_R_copy vv_R_copy lk_12_331 (by decide) rfl rfl (Nat.le_of_ble_eq_true rfl) (s_R_copy Γ 4 86 4 85 q26 _ hq52) ?_
                  show Ev Γ m_R_text 250 [some (vr 12 0 80), some (vi a1), some (vi (q25.2.1 80 6)), none] [] q27 r h'
                  refine Ev.blk (pc' := 258) (lv' := [some (vr 12 0 80), some (vi a1), some (vi (q25.2.1 80 6)), none]) (st' := [vr 20 52 87, vr 20 52 88]) (h' := q27) 142 4 (Nat.le_of_ble_eq_true rfl) tk_R_text rfl rfl ⟨trivial, trivial, trivial, trivial, trivial⟩ ?_
                  obtain ⟨q28, hq53, hx⟩ := bd hx
                  refine Ev.callS (ν := m_R_copy) (av := [vr 20 52 88, vr 20 52 87]) (rest := []) (r1 := none) (h1 := q28) 146 2 tk_R_text rfl bb_R_copy vv_R_copy lk_12_331 (by decide) rfl rfl (Nat.le_of_ble_eq_true rfl) (s_R_copy Γ 52 88 52 87 q27 _ hq53) ?_
                  show Ev Γ m_R_text 261 [some (vr 12 0 80), some (vi a1), some (vi (q25.2.1 80 6)), none] [] q28 r h'
                  refine Ev.blk (pc' := 269) (lv' := [some (vr 12 0 80), some (vi a1), some (vi (q25.2.1 80 6)), none]) (st' := [vr 20 12 89, vr 20 12 90]) (h' := q28) 147 4 (Nat.le_of_ble_eq_true rfl) tk_R_text rfl rfl ⟨trivial, trivial, trivial, trivial, trivial⟩ ?_
                  obtain ⟨q29, hq54, hx⟩ := bd hx
                  refine Ev.callS (ν := m_R_copy) (av := [vr 20 12 90, vr 20 12 89]) (rest := []) (r1 := none) (h1 := q29) 151 2 tk_R_text rfl bb_R_copy vv_R_copy lk_12_331 (by decide) rfl rfl (Nat.le_of_ble_eq_true rfl) (s_R_copy Γ 12 90 12 89 q28 _ hq54) ?_
                  show Ev Γ m_R_text 272 [some (vr 12 0 80), some (vi a1), some (vi (q25.2.1 80 6)), none] [] q29 r h'
                  refine Ev.blk (pc' := 280) (lv' := [some (vr 12 0 80), some (vi a1), some (vi (q25.2.1 80 6)), none]) (st' := [vr 20 12 91, vr 20 12 92]) (h' := q29) 152 4 (Nat.le_of_ble_eq_true rfl) tk_R_text rfl rfl ⟨trivial, trivial, trivial, trivial, trivial⟩ ?_
                  obtain ⟨q30, hq55, hx⟩ := bd hx
                  refine Ev.callS (ν := m_R_copy) (av := [vr 20 12 92, vr 20 12 91]) (rest := []) (r1 := none) (h1 := q30) 156 2 tk_R_text rfl bb_R_copy vv_R_copy lk_12_331 (by decide) rfl rfl (Nat.le_of_ble_eq_true rfl) (s_R_copy Γ 12 92 12 91 q29 _ hq55) ?_
                  show Ev Γ m_R_text 283 [some (vr 12 0 80), some (vi a1), some (vi (q25.2.1 80 6)), none] [] q30 r h'
                  refine Ev.blk (pc' := 291) (lv' := [some (vr 12 0 80), some (vi a1), some (vi (q25.2.1 80 6)), none]) (st' := [vr 20 36 93, vr 20 36 94]) (h' := q30) 157 4 (Nat.le_of_ble_eq_true rfl) tk_R_text rfl rfl ⟨trivial, trivial, trivial, trivial, trivial⟩ ?_
                  obtain ⟨q31, hq56, hx⟩ := bd hx
                  refine Ev.callS (ν := m_R_copy) (av := [vr 20 36 94, vr 20 36 93]) (rest := []) (r1 := none) (h1 := q31) 161 2 tk_R_text rfl bb_R_copy vv_R_copy lk_12_331 (by decide) rfl rfl (Nat.le_of_ble_eq_true rfl) (s_R_copy Γ 36 94 36 93 q30 _ hq56) ?_
                  show Ev Γ m_R_text 294 [some (vr 12 0 80), some (vi a1), some (vi (q25.2.1 80 6)), none] [] q31 r h'
                  obtain ⟨hg57, hx⟩ := gd hx
                  obtain ⟨hg58, hx⟩ := gd hx
                  refine Ev.blk (pc' := 313) (lv' := [some (vr 12 0 80), some (vi a1), some (vi (q25.2.1 80 6)), some (vi (ii 0))]) (st' := []) (h' := (wI q31 80 34 ((q31.1 85 (ii 0).toNatClampNeg) * (q31.1 85 (ii 1).toNatClampNeg)))) 162 13 (Nat.le_of_ble_eq_true rfl) tk_R_text rfl rfl ⟨trivial, trivial, trivial, trivial, hg57, trivial, trivial, trivial, hg58, trivial, trivial, trivial, trivial, trivial⟩ ?_
                  obtain ⟨q32, hq59, hx⟩ := bd hx
                  refine Ev.msk [true, false, false, true] ?_
                  show Ev Γ m_R_text 313 [some (vr 12 0 80), none, none, some (vi (ii 0))] [] (wI q31 80 34 ((q31.1 85 (ii 0).toNatClampNeg) * (q31.1 85 (ii 1).toNatClampNeg))) r h'
                  refine l_R_text_L313 Γ FU (ii 0) (wI q31 80 34 ((q31.1 85 (ii 0).toNatClampNeg) * (q31.1 85 (ii 1).toNatClampNeg))) _ hq59 r h' ?_
                  show Ev Γ m_R_text 333 [some (vr 12 0 80), none, none, none] [] q32 r h'
                  refine Ev.blk (pc' := 335) (lv' := [some (vr 12 0 80), none, none, some (vi (ii 0))]) (st' := []) (h' := q32) 185 2 (Nat.le_of_ble_eq_true rfl) tk_R_text rfl rfl ⟨trivial, trivial, trivial⟩ ?_
                  refine Ev.msk [true, false, false, true] ?_
                  show Ev Γ m_R_text 335 [some (vr 12 0 80), none, none, some (vi (ii 0))] [] q32 r h'
                  exact l_R_text_L335 Γ FU (ii 0) q32 _ hx r h' hP
                · replace hx := ip hc50 hx
                  refine Ev.blk (pc' := 137) (lv' := [some (vr 12 0 80), some (vi a1), some (vi (q25.2.1 80 6)), some (vi (ii 0))]) (st' := []) (h' := (wI q25.2 80 6 (ii 0))) 79 2 (Nat.le_of_ble_eq_true rfl) tk_R_text rfl rfl ⟨trivial, trivial, trivial⟩ ?_
                  refine Ev.msk [true, false, false, true] ?_
                  show Ev Γ m_R_text 137 [some (vr 12 0 80), none, none, some (vi (ii 0))] [] (wI q25.2 80 6 (ii 0)) r h'
                  exact l_R_text_L137 Γ FU (ii 0) (wI q25.2 80 6 (ii 0)) _ hx r h' hP
              · replace hx := ip hc49 hx
                refine Ev.blk (pc' := 71) (lv' := [some (vr 12 0 80), some (vi a1), some (vi (q25.2.1 80 6)), some (vi (ii 0))]) (st' := []) (h' := (wI q25.2 80 6 (ii 0))) 39 2 (Nat.le_of_ble_eq_true rfl) tk_R_text rfl rfl ⟨trivial, trivial, trivial⟩ ?_
                refine Ev.msk [true, false, true, true] ?_
                show Ev Γ m_R_text 71 [some (vr 12 0 80), none, some (vi (q25.2.1 80 6)), some (vi (ii 0))] [] (wI q25.2 80 6 (ii 0)) r h'
                exact l_R_text_L71 Γ FU (q25.2.1 80 6) (ii 0) (wI q25.2 80 6 (ii 0)) _ hx r h' hP
            · replace hx := ia hc48 hx
              refine Ev.blk (pc' := 53) (lv' := [some (vr 12 0 80), some (vi a1), none, none]) (st' := [vi (ii (-1))]) (h' := q25.2) 28 1 (Nat.le_of_ble_eq_true rfl) tk_R_text rfl rfl ⟨trivial, trivial⟩ ?_
              obtain rfl := Option.some.inj hx
              obtain ⟨rfl, rfl⟩ := hP
              exact Ev.iret 29 tk_R_text rfl rfl
