set_option maxRecDepth 4000 in
theorem s_R_goesIn (Γ : AG) (h : AH) (x : Int32 × AH) (hx : f_R_goesIn  h = some x) : MetA Γ m_R_goesIn [vr 12 0 80] h (some (vi x.1)) x.2 := by
  refine Ev.met rfl rfl (Nat.le_of_ble_eq_true rfl) ?_
  show Ev Γ m_R_goesIn 0 [some (vr 12 0 80)] [] h _ _
  obtain ⟨r, hr⟩ : ∃ r : Option AV, r = some (vi x.1) := ⟨_, rfl⟩
  obtain ⟨h', hh⟩ : ∃ h' : AH, h' = x.2 := ⟨_, rfl⟩
  have hP : r = some (vi x.1) ∧ h' = x.2 := ⟨hr, hh⟩
  suffices hS : Ev Γ m_R_goesIn 0 [some (vr 12 0 80)] [] h r h' by rw [hr, hh] at hS; exact hS
  clear hr hh
  unfold f_R_goesIn at hx
  refine Ev.blk (pc' := 6) (lv' := [some (vr 12 0 80)]) (st' := [vi (ii 6), vi (h.1 80 12)]) (h' := h) 0 3 (Nat.le_of_ble_eq_true rfl) tk_R_goesIn rfl rfl ⟨trivial, trivial, trivial, trivial⟩ ?_
  refine Ev.icmp_ne 3 14 tk_R_goesIn rfl (by decide) (fun hc1 => ?_) (fun hc1 => ?_)
  · replace hx := ia hc1 hx
    refine Ev.blk (pc' := 35) (lv' := [some (vr 12 0 80)]) (st' := [vi (ii 1)]) (h' := (wI (wI h 80 12 ((h.1 80 12) + (ii 1))) 80 10 (((wI h 80 12 ((h.1 80 12) + (ii 1))).1 80 10) + (ii 1)))) 7 13 (Nat.le_of_ble_eq_true rfl) tk_R_goesIn rfl rfl ⟨trivial, trivial, trivial, trivial, trivial, trivial, trivial, trivial, trivial, trivial, trivial, trivial, trivial, trivial⟩ ?_
    obtain rfl := Option.some.inj hx
    obtain ⟨rfl, rfl⟩ := hP
    exact Ev.zret 20 tk_R_goesIn rfl rfl rfl
  · replace hx := ip hc1 hx
    refine Ev.blk (pc' := 10) (lv' := [some (vr 12 0 80)]) (st' := [vr 12 0 80]) (h' := h) 4 1 (Nat.le_of_ble_eq_true rfl) tk_R_goesIn rfl rfl ⟨trivial, trivial⟩ ?_
    obtain ⟨q1, hq2, hx⟩ := bd hx
    refine Ev.callV (ν := m_R_fails) (av := []) (rest := []) (r1 := some (vi q1.1)) (h1 := q1.2) (ci := 12) (nn := 0) (o := 80) 5 0 tk_R_goesIn rfl bb_R_fails vv_R_fails lk_12_140 (by decide) rfl rfl (Or.inl rfl) (Nat.le_of_ble_eq_true rfl) (s_R_fails Γ h _ hq2) ?_
    show Ev Γ m_R_goesIn 13 [some (vr 12 0 80)] [vi q1.1] q1.2 r h'
    obtain ⟨hg3, hx⟩ := gd hx
    obtain rfl := Option.some.inj hx
    obtain ⟨rfl, rfl⟩ := hP
    exact Ev.zret 6 tk_R_goesIn rfl rfl (nbool hg3)
set_option maxRecDepth 4000 in
theorem l_R_atom_L90 (Γ : AG) (d : Nat) : ∀ (n : Nat) (v2 : Int32) (v3 : Int32) (h : AH) (x : Int32 × AH), R_atom_L90 n v2 v3 h = some x → ∀ (r : Option AV) (h' : AH), r = some (vi x.1) ∧ h' = x.2 → Ev Γ (m_R_atom (d + 1)) 90 [some (vr 12 0 80), none, some (vi v2), some (vi v3)] [] h r h' := by
  intro n
  induction n with
  | zero => intro v2 v3 h x hx; cases hx
  | succ n ih =>
    intro v2 v3 h x hx r h' hP
    replace hx : R_atom_L90_b (R_atom_L90 n) v2 v3 h = some x := hx
    unfold R_atom_L90_b at hx
    refine Ev.blk (pc' := 91) (lv' := [some (vr 12 0 80), none, some (vi v2), some (vi v3)]) (st' := [vr 12 0 80]) (h' := h) 53 1 (Nat.le_of_ble_eq_true rfl) tk_R_atom rfl rfl ⟨trivial, trivial⟩ ?_
    obtain ⟨q1, hq1, hx⟩ := bd hx
    refine Ev.callV (ν := m_R_isDigit) (av := []) (rest := []) (r1 := some (vi q1)) (h1 := h) (ci := 12) (nn := 0) (o := 80) 54 0 tk_R_atom rfl bb_R_isDigit vv_R_isDigit lk_12_174 (by show _ ≤ 6 + (d + 1); simp only [mv, m_R_isDigit]; omega) rfl rfl (Or.inl rfl) (Nat.le_of_ble_eq_true rfl) (s_R_isDigit Γ h _ hq1) ?_
    show Ev Γ (m_R_atom (d + 1)) 94 [some (vr 12 0 80), none, some (vi v2), some (vi v3)] [vi q1] h r h'
    refine Ev.if_eq 55 156 tk_R_atom rfl (by decide) (fun hc2 => ?_) (fun hc2 => ?_)
    · replace hx := ip hc2 hx
      refine Ev.blk (pc' := 157) (lv' := [some (vr 12 0 80), none, some (vi v2), some (vi v3)]) (st' := [vi v2]) (h' := h) 91 1 (Nat.le_of_ble_eq_true rfl) tk_R_atom rfl rfl ⟨trivial, trivial⟩ ?_
      obtain rfl := Option.some.inj hx
      obtain ⟨rfl, rfl⟩ := hP
      exact Ev.iret 92 tk_R_atom rfl rfl
    · replace hx := ia hc2 hx
      refine Ev.blk (pc' := 102) (lv' := [some (vr 12 0 80), none, some (vi v2), some (vi v3)]) (st' := [vi (ii (-1)), vi (h.1 80 11)]) (h' := h) 56 3 (Nat.le_of_ble_eq_true rfl) tk_R_atom rfl rfl ⟨trivial, trivial, trivial, trivial⟩ ?_
      refine Ev.icmp_ne 59 156 tk_R_atom rfl (by decide) (fun hc3 => ?_) (fun hc3 => ?_)
      · replace hx := ia hc3 hx
        refine Ev.blk (pc' := 157) (lv' := [some (vr 12 0 80), none, some (vi v2), some (vi v3)]) (st' := [vi v2]) (h' := h) 91 1 (Nat.le_of_ble_eq_true rfl) tk_R_atom rfl rfl ⟨trivial, trivial⟩ ?_
        obtain rfl := Option.some.inj hx
        obtain ⟨rfl, rfl⟩ := hP
        exact Ev.iret 92 tk_R_atom rfl rfl
      · replace hx := ip hc3 hx
        refine Ev.blk (pc' := 107) (lv' := [some (vr 12 0 80), none, some (vi v2), some (vi v3)]) (st' := [vi (ii 4), vi v3]) (h' := h) 60 2 (Nat.le_of_ble_eq_true rfl) tk_R_atom rfl rfl ⟨trivial, trivial, trivial⟩ ?_
        refine Ev.icmp_ne 62 117 tk_R_atom rfl (by decide) (fun hc4 => ?_) (fun hc4 => ?_)
        · replace hx := ia hc4 hx
          obtain ⟨hg5, hx⟩ := gd hx
          refine Ev.blk (pc' := 90) (lv' := [some (vr 12 0 80), none, some (vi ((((ii 10) * v2) + (h.1 (h.2.2 80 5) ((h.1 80 8) + (h.1 80 10)).toNatClampNeg)) - (ii 48))), some (vi (v3 + ii 1))]) (st' := []) (h' := (wI h 80 10 ((h.1 80 10) + (ii 1)))) 68 23 (Nat.le_of_ble_eq_true rfl) tk_R_atom rfl rfl ⟨trivial, trivial, trivial, trivial, trivial, trivial, trivial, trivial, trivial, trivial, hg5, trivial, trivial, trivial, trivial, trivial, trivial, trivial, trivial, trivial, trivial, trivial, trivial, trivial⟩ ?_
          exact Ev.msk [true, false, true, true] (ih ((((ii 10) * v2) + (h.1 (h.2.2 80 5) ((h.1 80 8) + (h.1 80 10)).toNatClampNeg)) - (ii 48)) (v3 + ii 1) (wI h 80 10 ((h.1 80 10) + (ii 1))) _ hx r h' hP)
        · replace hx := ip hc4 hx
          refine Ev.blk (pc' := 111) (lv' := [some (vr 12 0 80), none, some (vi v2), some (vi v3)]) (st' := [vr 12 0 80]) (h' := h) 63 1 (Nat.le_of_ble_eq_true rfl) tk_R_atom rfl rfl ⟨trivial, trivial⟩ ?_
          obtain ⟨q2, hq6, hx⟩ := bd hx
          refine Ev.callV (ν := m_R_fails) (av := []) (rest := []) (r1 := some (vi q2.1)) (h1 := q2.2) (ci := 12) (nn := 0) (o := 80) 64 0 tk_R_atom rfl bb_R_fails vv_R_fails lk_12_140 (by show _ ≤ 6 + (d + 1); simp only [mv, m_R_fails]; omega) rfl rfl (Or.inl rfl) (Nat.le_of_ble_eq_true rfl) (s_R_fails Γ h _ hq6) ?_
          show Ev Γ (m_R_atom (d + 1)) 114 [some (vr 12 0 80), none, some (vi v2), some (vi v3)] [vi q2.1] q2.2 r h'
          refine Ev.blk (pc' := 116) (lv' := [some (vr 12 0 80), none, some (vi v2), some (vi v3)]) (st' := [vi (ii 0)]) (h' := q2.2) 65 2 (Nat.le_of_ble_eq_true rfl) tk_R_atom rfl rfl ⟨trivial, trivial, trivial⟩ ?_
          obtain rfl := Option.some.inj hx
          obtain ⟨rfl, rfl⟩ := hP
          exact Ev.iret 67 tk_R_atom rfl rfl
set_option maxRecDepth 4000 in
theorem u_R_atom_ok (Γ : AG) (d : Nat) (rc : Nat → AH → Option (Int32 × AH)) (hrc0 : ∀ (h : AH) (x : Int32 × AH), rc 0  h = some x → MetA Γ (m_R_sum d) [vr 12 0 80] h (some (vi x.1)) x.2) (hrc1 : ∀ (h : AH) (x : Int32 × AH), rc 1  h = some x → MetA Γ (m_R_term d) [vr 12 0 80] h (some (vi x.1)) x.2) (hrc2 : ∀ (h : AH) (x : Int32 × AH), rc 2  h = some x → MetA Γ (m_R_atom d) [vr 12 0 80] h (some (vi x.1)) x.2) (h : AH) (x : Int32 × AH) (hx : u_R_atom rc  h = some x) : MetA Γ (m_R_atom (d + 1)) [vr 12 0 80] h (some (vi x.1)) x.2 := by
  refine Ev.met rfl rfl (Nat.le_of_ble_eq_true rfl) ?_
  show Ev Γ (m_R_atom (d + 1)) 0 [some (vr 12 0 80), none, none, none] [] h _ _
  obtain ⟨r, hr⟩ : ∃ r : Option AV, r = some (vi x.1) := ⟨_, rfl⟩
  obtain ⟨h', hh⟩ : ∃ h' : AH, h' = x.2 := ⟨_, rfl⟩
  have hP : r = some (vi x.1) ∧ h' = x.2 := ⟨hr, hh⟩
  suffices hS : Ev Γ (m_R_atom (d + 1)) 0 [some (vr 12 0 80), none, none, none] [] h r h' by rw [hr, hh] at hS; exact hS
  clear hr hh
  unfold u_R_atom at hx
  refine Ev.blk (pc' := 1) (lv' := [some (vr 12 0 80), none, none, none]) (st' := [vr 12 0 80]) (h' := h) 0 1 (Nat.le_of_ble_eq_true rfl) tk_R_atom rfl rfl ⟨trivial, trivial⟩ ?_
  obtain ⟨q1, hq1, hx⟩ := bd hx
  refine Ev.callV (ν := m_R_look) (av := []) (rest := []) (r1 := some (vi q1.1)) (h1 := q1.2) (ci := 12) (nn := 0) (o := 80) 1 0 tk_R_atom rfl bb_R_look vv_R_look lk_12_144 (by show _ ≤ 6 + (d + 1); simp only [mv, m_R_look]; omega) rfl rfl (Or.inl rfl) (Nat.le_of_ble_eq_true rfl) (s_R_look Γ h _ hq1) ?_
  show Ev Γ (m_R_atom (d + 1)) 4 [some (vr 12 0 80), none, none, none] [vi q1.1] q1.2 r h'
  refine Ev.blk (pc' := 8) (lv' := [some (vr 12 0 80), some (vi q1.1), none, none]) (st' := [vi q1.1, vr 31 0 7]) (h' := q1.2) 2 3 (Nat.le_of_ble_eq_true rfl) tk_R_atom rfl rfl ⟨trivial, trivial, trivial, trivial⟩ ?_
  obtain ⟨q2, hq2, hx⟩ := bd hx
  refine Ev.callS (ν := m_R_isAmong) (av := [vr 31 0 7, vi q1.1]) (rest := []) (r1 := some (vi q2)) (h1 := q1.2) 5 2 tk_R_atom rfl bb_R_isAmong vv_R_isAmong lk_12_160 (by show _ ≤ 6 + (d + 1); simp only [mv, m_R_isAmong]; omega) rfl rfl (Nat.le_of_ble_eq_true rfl) (s_R_isAmong Γ 7 q1.1 q1.2 _ hq2) ?_
  show Ev Γ (m_R_atom (d + 1)) 11 [some (vr 12 0 80), some (vi q1.1), none, none] [vi q2] q1.2 r h'
  refine Ev.if_eq 6 31 tk_R_atom rfl (by decide) (fun hc3 => ?_) (fun hc3 => ?_)
  · replace hx := ip hc3 hx
    refine Ev.blk (pc' := 34) (lv' := [some (vr 12 0 80), some (vi q1.1), none, none]) (st' := [vi (ii 91), vi q1.1]) (h' := q1.2) 18 2 (Nat.le_of_ble_eq_true rfl) tk_R_atom rfl rfl ⟨trivial, trivial, trivial⟩ ?_
    refine Ev.icmp_ne 20 74 tk_R_atom rfl (by decide) (fun hc4 => ?_) (fun hc4 => ?_)
    · replace hx := ia hc4 hx
      refine Ev.blk (pc' := 75) (lv' := [some (vr 12 0 80), some (vi q1.1), none, none]) (st' := [vr 12 0 80]) (h' := q1.2) 43 1 (Nat.le_of_ble_eq_true rfl) tk_R_atom rfl rfl ⟨trivial, trivial⟩ ?_
      obtain ⟨q3, hq5, hx⟩ := bd hx
      refine Ev.callV (ν := m_R_isDigit) (av := []) (rest := []) (r1 := some (vi q3)) (h1 := q1.2) (ci := 12) (nn := 0) (o := 80) 44 0 tk_R_atom rfl bb_R_isDigit vv_R_isDigit lk_12_174 (by show _ ≤ 6 + (d + 1); simp only [mv, m_R_isDigit]; omega) rfl rfl (Or.inl rfl) (Nat.le_of_ble_eq_true rfl) (s_R_isDigit Γ q1.2 _ hq5) ?_
      show Ev Γ (m_R_atom (d + 1)) 78 [some (vr 12 0 80), some (vi q1.1), none, none] [vi q3] q1.2 r h'
      obtain ⟨q5, hq6, hx⟩ := bd hx
      have K7 : Ev Γ (m_R_atom (d + 1)) 86 [some (vr 12 0 80), none, none, none] [] q5 r h' := by
        refine Ev.blk (pc' := 90) (lv' := [some (vr 12 0 80), none, some (vi (ii 0)), some (vi (ii 0))]) (st' := []) (h' := q5) 49 4 (Nat.le_of_ble_eq_true rfl) tk_R_atom rfl rfl ⟨trivial, trivial, trivial, trivial, trivial⟩ ?_
        refine Ev.msk [true, false, true, true] ?_
        show Ev Γ (m_R_atom (d + 1)) 90 [some (vr 12 0 80), none, some (vi (ii 0)), some (vi (ii 0))] [] q5 r h'
        exact l_R_atom_L90 Γ d FU (ii 0) (ii 0) q5 _ hx r h' hP
      clear hx
      refine Ev.if_ne 45 86 tk_R_atom rfl (by decide) (fun hc8 => ?_) (fun hc8 => ?_)
      · replace hq6 := ia hc8 hq6
        obtain rfl := Option.some.inj hq6
        exact Ev.msk [true, false, false, false] K7
      · replace hq6 := ip hc8 hq6
        refine Ev.blk (pc' := 82) (lv' := [some (vr 12 0 80), some (vi q1.1), none, none]) (st' := [vr 12 0 80]) (h' := q1.2) 46 1 (Nat.le_of_ble_eq_true rfl) tk_R_atom rfl rfl ⟨trivial, trivial⟩ ?_
        obtain ⟨q4, hq9, hq6⟩ := bd hq6
        refine Ev.callV (ν := m_R_fails) (av := []) (rest := []) (r1 := some (vi q4.1)) (h1 := q4.2) (ci := 12) (nn := 0) (o := 80) 47 0 tk_R_atom rfl bb_R_fails vv_R_fails lk_12_140 (by show _ ≤ 6 + (d + 1); simp only [mv, m_R_fails]; omega) rfl rfl (Or.inl rfl) (Nat.le_of_ble_eq_true rfl) (s_R_fails Γ q1.2 _ hq9) ?_
        show Ev Γ (m_R_atom (d + 1)) 85 [some (vr 12 0 80), some (vi q1.1), none, none] [vi q4.1] q4.2 r h'
        refine Ev.blk (pc' := 86) (lv' := [some (vr 12 0 80), some (vi q1.1), none, none]) (st' := []) (h' := q4.2) 48 1 (Nat.le_of_ble_eq_true rfl) tk_R_atom rfl rfl ⟨trivial, trivial⟩ ?_
        obtain rfl := Option.some.inj hq6
        exact Ev.msk [true, false, false, false] K7
    · replace hx := ip hc4 hx
      refine Ev.blk (pc' := 38) (lv' := [some (vr 12 0 80), some (vi q1.1), none, none]) (st' := [vr 12 0 80]) (h' := q1.2) 21 1 (Nat.le_of_ble_eq_true rfl) tk_R_atom rfl rfl ⟨trivial, trivial⟩ ?_
      obtain ⟨q6, hq10, hx⟩ := bd hx
      refine Ev.callV (ν := m_R_goesIn) (av := []) (rest := []) (r1 := some (vi q6.1)) (h1 := q6.2) (ci := 12) (nn := 0) (o := 80) 22 0 tk_R_atom rfl bb_R_goesIn vv_R_goesIn lk_12_164 (by show _ ≤ 6 + (d + 1); simp only [mv, m_R_goesIn]; omega) rfl rfl (Or.inl rfl) (Nat.le_of_ble_eq_true rfl) (s_R_goesIn Γ q1.2 _ hq10) ?_
      show Ev Γ (m_R_atom (d + 1)) 41 [some (vr 12 0 80), some (vi q1.1), none, none] [vi q6.1] q6.2 r h'
      refine Ev.if_ne 23 46 tk_R_atom rfl (by decide) (fun hc11 => ?_) (fun hc11 => ?_)
      · replace hx := ia hc11 hx
        refine Ev.blk (pc' := 47) (lv' := [some (vr 12 0 80), some (vi q1.1), none, none]) (st' := [vr 12 0 80]) (h' := q6.2) 26 1 (Nat.le_of_ble_eq_true rfl) tk_R_atom rfl rfl ⟨trivial, trivial⟩ ?_
        obtain ⟨q7, hq12, hx⟩ := bd hx
        refine Ev.callV (ν := (m_R_sum d)) (av := []) (rest := []) (r1 := some (vi q7.1)) (h1 := q7.2) (ci := 12) (nn := 0) (o := 80) 27 0 tk_R_atom rfl (bb_R_sum _) (vv_R_sum _) lk_12_167 (Nat.le_refl _) rfl rfl (Or.inl rfl) (Nat.le_of_ble_eq_true rfl) (hrc0 q6.2 _ hq12) ?_
        show Ev Γ (m_R_atom (d + 1)) 50 [some (vr 12 0 80), some (vi q1.1), none, none] [vi q7.1] q7.2 r h'
        refine Ev.blk (pc' := 54) (lv' := [some (vr 12 0 80), some (vi q1.1), some (vi q7.1), none]) (st' := [vi (ii 93), vr 12 0 80]) (h' := q7.2) 28 3 (Nat.le_of_ble_eq_true rfl) tk_R_atom rfl rfl ⟨trivial, trivial, trivial, trivial⟩ ?_
        obtain ⟨q8, hq13, hx⟩ := bd hx
        refine Ev.callV (ν := m_R_takes) (av := [vi (ii 93)]) (rest := []) (r1 := some (vi q8.1)) (h1 := q8.2) (ci := 12) (nn := 0) (o := 80) 31 1 tk_R_atom rfl bb_R_takes vv_R_takes lk_12_170 (by show _ ≤ 6 + (d + 1); simp only [mv, m_R_takes]; omega) rfl rfl (Or.inl rfl) (Nat.le_of_ble_eq_true rfl) (s_R_takes Γ (ii 93) q7.2 _ hq13) ?_
        show Ev Γ (m_R_atom (d + 1)) 57 [some (vr 12 0 80), some (vi q1.1), some (vi q7.1), none] [vi q8.1] q8.2 r h'
        refine Ev.if_ne 32 62 tk_R_atom rfl (by decide) (fun hc14 => ?_) (fun hc14 => ?_)
        · replace hx := ia hc14 hx
          refine Ev.blk (pc' := 73) (lv' := [some (vr 12 0 80), some (vi q1.1), some (vi q7.1), none]) (st' := [vi q7.1]) (h' := (wI q8.2 80 12 ((q8.2.1 80 12) - (ii 1)))) 35 7 (Nat.le_of_ble_eq_true rfl) tk_R_atom rfl rfl ⟨trivial, trivial, trivial, trivial, trivial, trivial, trivial, trivial⟩ ?_
          obtain rfl := Option.some.inj hx
          obtain ⟨rfl, rfl⟩ := hP
          exact Ev.iret 42 tk_R_atom rfl rfl
        · replace hx := ip hc14 hx
          refine Ev.blk (pc' := 61) (lv' := [some (vr 12 0 80), some (vi q1.1), some (vi q7.1), none]) (st' := [vi (ii 0)]) (h' := q8.2) 33 1 (Nat.le_of_ble_eq_true rfl) tk_R_atom rfl rfl ⟨trivial, trivial⟩ ?_
          obtain rfl := Option.some.inj hx
          obtain ⟨rfl, rfl⟩ := hP
          exact Ev.iret 34 tk_R_atom rfl rfl
      · replace hx := ip hc11 hx
        refine Ev.blk (pc' := 45) (lv' := [some (vr 12 0 80), some (vi q1.1), none, none]) (st' := [vi (ii 0)]) (h' := q6.2) 24 1 (Nat.le_of_ble_eq_true rfl) tk_R_atom rfl rfl ⟨trivial, trivial⟩ ?_
        obtain rfl := Option.some.inj hx
        obtain ⟨rfl, rfl⟩ := hP
        exact Ev.iret 25 tk_R_atom rfl rfl
  · replace hx := ia hc3 hx
    obtain ⟨hg15, hx⟩ := gd hx
    refine Ev.blk (pc' := 30) (lv' := [some (vr 12 0 80), some (vi q1.1), none, none]) (st' := [vi ((wI q1.2 80 10 ((q1.2.1 80 10) + (ii 1))).1 84 (q1.1).toNatClampNeg)]) (h' := (wI q1.2 80 10 ((q1.2.1 80 10) + (ii 1)))) 7 10 (Nat.le_of_ble_eq_true rfl) tk_R_atom rfl rfl ⟨trivial, trivial, trivial, trivial, trivial, trivial, trivial, trivial, trivial, hg15, trivial⟩ ?_
    obtain rfl := Option.some.inj hx
    obtain ⟨rfl, rfl⟩ := hP
    exact Ev.iret 17 tk_R_atom rfl rfl
theorem s_R_within (Γ : AG) (a0 : Int64) (h : AH) : MetA Γ m_R_within [vl a0] h (some (vi (p_R_within a0))) h := by
  refine Ev.met rfl rfl (Nat.le_of_ble_eq_true rfl) ?_
  generalize hx : p_R_within a0 = x
  show Ev Γ m_R_within 0 [some (vl a0), none] [] h _ _
  obtain ⟨r, hr⟩ : ∃ r : Option AV, r = some (vi x) := ⟨_, rfl⟩
  obtain ⟨h', hh⟩ : ∃ h' : AH, h' = h := ⟨_, rfl⟩
  have hP : r = some (vi x) ∧ h' = h := ⟨hr, hh⟩
  suffices hS : Ev Γ m_R_within 0 [some (vl a0), none] [] h r h' by rw [hr, hh] at hS; exact hS
  clear hr hh
  unfold p_R_within at hx
  refine Ev.blk (pc' := 7) (lv' := [some (vl a0), none]) (st' := [vl a0, vl (Int64.ofInt 1000000), vl (Int64.ofInt (-1000000))]) (h' := h) 0 3 (Nat.le_of_ble_eq_true rfl) tk_R_within rfl rfl ⟨trivial, trivial, trivial, trivial⟩ ?_
  refine Ev.mminL (rest := [vl (Int64.ofInt (-1000000))]) 3 tk_R_within rfl lk_12_151 (by decide) (Nat.le_of_ble_eq_true rfl) ?_
  show Ev Γ m_R_within 10 [some (vl a0), none] [vl (p_Math_minL (Int64.ofInt 1000000) a0), vl (Int64.ofInt (-1000000))] h r h'
  refine Ev.mmaxL (rest := []) 4 tk_R_within rfl lk_12_157 (by decide) (Nat.le_of_ble_eq_true rfl) ?_
  show Ev Γ m_R_within 13 [some (vl a0), none] [vl (p_Math_maxL (Int64.ofInt (-1000000)) (p_Math_minL (Int64.ofInt 1000000) a0))] h r h'
  refine Ev.blk (pc' := 14) (lv' := [some (vl a0), none]) (st' := [vi ((p_Math_maxL (Int64.ofInt (-1000000)) (p_Math_minL (Int64.ofInt 1000000) a0)).toInt32)]) (h' := h) 5 1 (Nat.le_of_ble_eq_true rfl) tk_R_within rfl rfl ⟨trivial, trivial⟩ ?_
  subst hx
  obtain ⟨rfl, rfl⟩ := hP
  exact Ev.iret 6 tk_R_within rfl rfl
set_option maxRecDepth 4000 in
theorem l_R_term_L5 (Γ : AG) (d : Nat) (rc : Nat → AH → Option (Int32 × AH)) (hrc0 : ∀ (h : AH) (x : Int32 × AH), rc 0  h = some x → MetA Γ (m_R_sum d) [vr 12 0 80] h (some (vi x.1)) x.2) (hrc1 : ∀ (h : AH) (x : Int32 × AH), rc 1  h = some x → MetA Γ (m_R_term d) [vr 12 0 80] h (some (vi x.1)) x.2) (hrc2 : ∀ (h : AH) (x : Int32 × AH), rc 2  h = some x → MetA Γ (m_R_atom d) [vr 12 0 80] h (some (vi x.1)) x.2) : ∀ (n : Nat) (v1 : Int32) (h : AH) (x : Int32 × AH), R_term_L5 rc n v1 h = some x → ∀ (r : Option AV) (h' : AH), r = some (vi x.1) ∧ h' = x.2 → Ev Γ (m_R_term (d + 1)) 5 [some (vr 12 0 80), some (vi v1), none, none, none] [] h r h' := by
  intro n
  induction n with
  | zero => intro v1 h x hx; cases hx
  | succ n ih =>
    intro v1 h x hx r h' hP
    replace hx : R_term_L5_b rc (R_term_L5 rc n) v1 h = some x := hx
    unfold R_term_L5_b at hx
    refine Ev.blk (pc' := 10) (lv' := [some (vr 12 0 80), some (vi v1), none, none, none]) (st' := [vi (ii (-1)), vi (h.1 80 11)]) (h' := h) 3 3 (Nat.le_of_ble_eq_true rfl) tk_R_term rfl rfl ⟨trivial, trivial, trivial, trivial⟩ ?_
    refine Ev.icmp_ne 6 94 tk_R_term rfl (by decide) (fun hc1 => ?_) (fun hc1 => ?_)
    · replace hx := ia hc1 hx
      refine Ev.blk (pc' := 95) (lv' := [some (vr 12 0 80), some (vi v1), none, none, none]) (st' := [vi v1]) (h' := h) 53 1 (Nat.le_of_ble_eq_true rfl) tk_R_term rfl rfl ⟨trivial, trivial⟩ ?_
      obtain rfl := Option.some.inj hx
      obtain ⟨rfl, rfl⟩ := hP
      exact Ev.iret 54 tk_R_term rfl rfl
    · replace hx := ip hc1 hx
      refine Ev.blk (pc' := 14) (lv' := [some (vr 12 0 80), some (vi v1), none, none, none]) (st' := [vr 12 0 80]) (h' := h) 7 1 (Nat.le_of_ble_eq_true rfl) tk_R_term rfl rfl ⟨trivial, trivial⟩ ?_
      obtain ⟨q1, hq2, hx⟩ := bd hx
      refine Ev.callV (ν := m_R_look) (av := []) (rest := []) (r1 := some (vi q1.1)) (h1 := q1.2) (ci := 12) (nn := 0) (o := 80) 8 0 tk_R_term rfl bb_R_look vv_R_look lk_12_144 (by show _ ≤ 6 + (d + 1); simp only [mv, m_R_look]; omega) rfl rfl (Or.inl rfl) (Nat.le_of_ble_eq_true rfl) (s_R_look Γ h _ hq2) ?_
      show Ev Γ (m_R_term (d + 1)) 17 [some (vr 12 0 80), some (vi v1), none, none, none] [vi q1.1] q1.2 r h'
      refine Ev.blk (pc' := 19) (lv' := [some (vr 12 0 80), some (vi v1), none, none, none]) (st' := [vi (ii 42), vi q1.1]) (h' := q1.2) 9 1 (Nat.le_of_ble_eq_true rfl) tk_R_term rfl rfl ⟨trivial, trivial⟩ ?_
      refine Ev.icmp_eq 10 31 tk_R_term rfl (by decide) (fun hc3 => ?_) (fun hc3 => ?_)
      · replace hx := ip hc3 hx
        refine Ev.blk (pc' := 32) (lv' := [some (vr 12 0 80), some (vi v1), none, none, none]) (st' := [vr 12 0 80]) (h' := q1.2) 15 1 (Nat.le_of_ble_eq_true rfl) tk_R_term rfl rfl ⟨trivial, trivial⟩ ?_
        obtain ⟨q2, hq4, hx⟩ := bd hx
        refine Ev.callV (ν := m_R_look) (av := []) (rest := []) (r1 := some (vi q2.1)) (h1 := q2.2) (ci := 12) (nn := 0) (o := 80) 16 0 tk_R_term rfl bb_R_look vv_R_look lk_12_144 (by show _ ≤ 6 + (d + 1); simp only [mv, m_R_look]; omega) rfl rfl (Or.inl rfl) (Nat.le_of_ble_eq_true rfl) (s_R_look Γ q1.2 _ hq4) ?_
        show Ev Γ (m_R_term (d + 1)) 35 [some (vr 12 0 80), some (vi v1), none, none, none] [vi q2.1] q2.2 r h'
        refine Ev.blk (pc' := 37) (lv' := [some (vr 12 0 80), some (vi v1), none, none, none]) (st' := [vi (ii 42), vi q2.1]) (h' := q2.2) 17 1 (Nat.le_of_ble_eq_true rfl) tk_R_term rfl rfl ⟨trivial, trivial⟩ ?_
        have K5 : ∀ v5_0 : Int32, v5_0 = (if q2.1 = (ii 42) then (ii 1) else (ii 0)) → Ev Γ (m_R_term (d + 1)) 45 [some (vr 12 0 80), some (vi v1), none, none, none] [vi v5_0] q2.2 r h' := by
          intro v5_0 e6
          subst e6
          refine Ev.blk (pc' := 57) (lv' := [some (vr 12 0 80), some (vi v1), some (vi (if q2.1 = (ii 42) then (ii 1) else (ii 0))), none, none]) (st' := [vr 12 0 80]) (h' := (wI q2.2 80 10 ((q2.2.1 80 10) + (ii 1)))) 22 8 (Nat.le_of_ble_eq_true rfl) tk_R_term rfl rfl ⟨trivial, trivial, trivial, trivial, trivial, trivial, trivial, trivial, trivial⟩ ?_
          obtain ⟨q3, hq7, hx⟩ := bd hx
          refine Ev.callV (ν := (m_R_atom d)) (av := []) (rest := []) (r1 := some (vi q3.1)) (h1 := q3.2) (ci := 12) (nn := 0) (o := 80) 30 0 tk_R_term rfl (bb_R_atom _) (vv_R_atom _) lk_12_177 (Nat.le_refl _) rfl rfl (Or.inl rfl) (Nat.le_of_ble_eq_true rfl) (hrc2 (wI q2.2 80 10 ((q2.2.1 80 10) + (ii 1))) _ hq7) ?_
          show Ev Γ (m_R_term (d + 1)) 60 [some (vr 12 0 80), some (vi v1), some (vi (if q2.1 = (ii 42) then (ii 1) else (ii 0))), none, none] [vi q3.1] q3.2 r h'
          refine Ev.blk (pc' := 63) (lv' := [some (vr 12 0 80), some (vi v1), some (vi (if q2.1 = (ii 42) then (ii 1) else (ii 0))), some (vl q3.1.toInt64), none]) (st' := [vi (if q2.1 = (ii 42) then (ii 1) else (ii 0))]) (h' := q3.2) 31 3 (Nat.le_of_ble_eq_true rfl) tk_R_term rfl rfl ⟨trivial, trivial, trivial, trivial⟩ ?_
          obtain ⟨q4, hq8, hx⟩ := bd hx
          have K9 : Ev Γ (m_R_term (d + 1)) 87 [some (vr 12 0 80), none, none, none, none] [vl q4] q3.2 r h' := by
            refine Ev.callS (ν := m_R_within) (av := [vl q4]) (rest := []) (r1 := some (vi (p_R_within q4))) (h1 := q3.2) 50 1 tk_R_term rfl bb_R_within vv_R_within lk_12_180 (by show _ ≤ 6 + (d + 1); simp only [mv, m_R_within]; omega) rfl rfl (Nat.le_of_ble_eq_true rfl) (s_R_within Γ q4 q3.2) ?_
            show Ev Γ (m_R_term (d + 1)) 90 [some (vr 12 0 80), none, none, none, none] [vi (p_R_within q4)] q3.2 r h'
            refine Ev.blk (pc' := 5) (lv' := [some (vr 12 0 80), some (vi (p_R_within q4)), none, none, none]) (st' := []) (h' := q3.2) 51 2 (Nat.le_of_ble_eq_true rfl) tk_R_term rfl rfl ⟨trivial, trivial, trivial⟩ ?_
            exact Ev.msk [true, true, false, false, false] (ih (p_R_within q4) q3.2 _ hx r h' hP)
          clear hx
          refine Ev.if_eq 34 73 tk_R_term rfl (by decide) (fun hc10 => ?_) (fun hc10 => ?_)
          · replace hq8 := ip hc10 hq8
            refine Ev.blk (pc' := 76) (lv' := [some (vr 12 0 80), some (vi v1), some (vi (if q2.1 = (ii 42) then (ii 1) else (ii 0))), some (vl q3.1.toInt64), none]) (st' := [vi (lg_cmp q3.1.toInt64 (Int64.ofNat 0))]) (h' := q3.2) 40 3 (Nat.le_of_ble_eq_true rfl) tk_R_term rfl rfl ⟨trivial, trivial, trivial, trivial⟩ ?_
            refine Ev.if_ne 43 83 tk_R_term rfl (by decide) (fun hc11 => ?_) (fun hc11 => ?_)
            · replace hq8 := ia hc11 hq8
              obtain ⟨hg12, hq8⟩ := gd hq8
              refine Ev.blk (pc' := 87) (lv' := [some (vr 12 0 80), some (vi v1), some (vi (if q2.1 = (ii 42) then (ii 1) else (ii 0))), some (vl q3.1.toInt64), none]) (st' := [vl (v1.toInt64 / q3.1.toInt64)]) (h' := q3.2) 46 4 (Nat.le_of_ble_eq_true rfl) tk_R_term rfl rfl ⟨trivial, trivial, trivial, hg12, trivial⟩ ?_
              obtain rfl := Option.some.inj hq8
              exact Ev.msk [true, false, false, false, false] K9
            · replace hq8 := ip hc11 hq8
              refine Ev.blk (pc' := 87) (lv' := [some (vr 12 0 80), some (vi v1), some (vi (if q2.1 = (ii 42) then (ii 1) else (ii 0))), some (vl q3.1.toInt64), none]) (st' := [vl (Int64.ofNat 0)]) (h' := q3.2) 44 2 (Nat.le_of_ble_eq_true rfl) tk_R_term rfl rfl ⟨trivial, trivial, trivial⟩ ?_
              obtain rfl := Option.some.inj hq8
              exact Ev.msk [true, false, false, false, false] K9
          · replace hq8 := ia hc10 hq8
            refine Ev.blk (pc' := 87) (lv' := [some (vr 12 0 80), some (vi v1), some (vi (if q2.1 = (ii 42) then (ii 1) else (ii 0))), some (vl q3.1.toInt64), none]) (st' := [vl (v1.toInt64 * q3.1.toInt64)]) (h' := q3.2) 35 5 (Nat.le_of_ble_eq_true rfl) tk_R_term rfl rfl ⟨trivial, trivial, trivial, trivial, trivial, trivial⟩ ?_
            obtain rfl := Option.some.inj hq8
            exact Ev.msk [true, false, false, false, false] K9
        refine Ev.icmp_ne 18 44 tk_R_term rfl (by decide) (fun hc13 => ?_) (fun hc13 => ?_)
        · refine Ev.blk (pc' := 45) (lv' := [some (vr 12 0 80), some (vi v1), none, none, none]) (st' := [vi (ii 0)]) (h' := q2.2) 21 1 (Nat.le_of_ble_eq_true rfl) tk_R_term rfl rfl ⟨trivial, trivial⟩ ?_
          exact Ev.msk [true, true, false, false, false] (K5 _ (by first | rfl | simp only [if_neg hc13]))
        · refine Ev.blk (pc' := 45) (lv' := [some (vr 12 0 80), some (vi v1), none, none, none]) (st' := [vi (ii 1)]) (h' := q2.2) 19 2 (Nat.le_of_ble_eq_true rfl) tk_R_term rfl rfl ⟨trivial, trivial, trivial⟩ ?_
          exact Ev.msk [true, true, false, false, false] (K5 _ (by first | rfl | simp only [if_pos hc13]))
      · replace hx := ia hc3 hx
        refine Ev.blk (pc' := 23) (lv' := [some (vr 12 0 80), some (vi v1), none, none, none]) (st' := [vr 12 0 80]) (h' := q1.2) 11 1 (Nat.le_of_ble_eq_true rfl) tk_R_term rfl rfl ⟨trivial, trivial⟩ ?_
        obtain ⟨q5, hq14, hx⟩ := bd hx
        refine Ev.callV (ν := m_R_look) (av := []) (rest := []) (r1 := some (vi q5.1)) (h1 := q5.2) (ci := 12) (nn := 0) (o := 80) 12 0 tk_R_term rfl bb_R_look vv_R_look lk_12_144 (by show _ ≤ 6 + (d + 1); simp only [mv, m_R_look]; omega) rfl rfl (Or.inl rfl) (Nat.le_of_ble_eq_true rfl) (s_R_look Γ q1.2 _ hq14) ?_
        show Ev Γ (m_R_term (d + 1)) 26 [some (vr 12 0 80), some (vi v1), none, none, none] [vi q5.1] q5.2 r h'
        refine Ev.blk (pc' := 28) (lv' := [some (vr 12 0 80), some (vi v1), none, none, none]) (st' := [vi (ii 47), vi q5.1]) (h' := q5.2) 13 1 (Nat.le_of_ble_eq_true rfl) tk_R_term rfl rfl ⟨trivial, trivial⟩ ?_
        refine Ev.icmp_ne 14 94 tk_R_term rfl (by decide) (fun hc15 => ?_) (fun hc15 => ?_)
        · replace hx := ia hc15 hx
          refine Ev.blk (pc' := 95) (lv' := [some (vr 12 0 80), some (vi v1), none, none, none]) (st' := [vi v1]) (h' := q5.2) 53 1 (Nat.le_of_ble_eq_true rfl) tk_R_term rfl rfl ⟨trivial, trivial⟩ ?_
          obtain rfl := Option.some.inj hx
          obtain ⟨rfl, rfl⟩ := hP
          exact Ev.iret 54 tk_R_term rfl rfl
        · replace hx := ip hc15 hx
          refine Ev.blk (pc' := 32) (lv' := [some (vr 12 0 80), some (vi v1), none, none, none]) (st' := [vr 12 0 80]) (h' := q5.2) 15 1 (Nat.le_of_ble_eq_true rfl) tk_R_term rfl rfl ⟨trivial, trivial⟩ ?_
          obtain ⟨q6, hq16, hx⟩ := bd hx
          refine Ev.callV (ν := m_R_look) (av := []) (rest := []) (r1 := some (vi q6.1)) (h1 := q6.2) (ci := 12) (nn := 0) (o := 80) 16 0 tk_R_term rfl bb_R_look vv_R_look lk_12_144 (by show _ ≤ 6 + (d + 1); simp only [mv, m_R_look]; omega) rfl rfl (Or.inl rfl) (Nat.le_of_ble_eq_true rfl) (s_R_look Γ q5.2 _ hq16) ?_
          show Ev Γ (m_R_term (d + 1)) 35 [some (vr 12 0 80), some (vi v1), none, none, none] [vi q6.1] q6.2 r h'
          refine Ev.blk (pc' := 37) (lv' := [some (vr 12 0 80), some (vi v1), none, none, none]) (st' := [vi (ii 42), vi q6.1]) (h' := q6.2) 17 1 (Nat.le_of_ble_eq_true rfl) tk_R_term rfl rfl ⟨trivial, trivial⟩ ?_
          have K17 : ∀ v17_0 : Int32, v17_0 = (if q6.1 = (ii 42) then (ii 1) else (ii 0)) → Ev Γ (m_R_term (d + 1)) 45 [some (vr 12 0 80), some (vi v1), none, none, none] [vi v17_0] q6.2 r h' := by
            intro v17_0 e18
            subst e18
            refine Ev.blk (pc' := 57) (lv' := [some (vr 12 0 80), some (vi v1), some (vi (if q6.1 = (ii 42) then (ii 1) else (ii 0))), none, none]) (st' := [vr 12 0 80]) (h' := (wI q6.2 80 10 ((q6.2.1 80 10) + (ii 1)))) 22 8 (Nat.le_of_ble_eq_true rfl) tk_R_term rfl rfl ⟨trivial, trivial, trivial, trivial, trivial, trivial, trivial, trivial, trivial⟩ ?_
            obtain ⟨q7, hq19, hx⟩ := bd hx
            refine Ev.callV (ν := (m_R_atom d)) (av := []) (rest := []) (r1 := some (vi q7.1)) (h1 := q7.2) (ci := 12) (nn := 0) (o := 80) 30 0 tk_R_term rfl (bb_R_atom _) (vv_R_atom _) lk_12_177 (Nat.le_refl _) rfl rfl (Or.inl rfl) (Nat.le_of_ble_eq_true rfl) (hrc2 (wI q6.2 80 10 ((q6.2.1 80 10) + (ii 1))) _ hq19) ?_
            show Ev Γ (m_R_term (d + 1)) 60 [some (vr 12 0 80), some (vi v1), some (vi (if q6.1 = (ii 42) then (ii 1) else (ii 0))), none, none] [vi q7.1] q7.2 r h'
            refine Ev.blk (pc' := 63) (lv' := [some (vr 12 0 80), some (vi v1), some (vi (if q6.1 = (ii 42) then (ii 1) else (ii 0))), some (vl q7.1.toInt64), none]) (st' := [vi (if q6.1 = (ii 42) then (ii 1) else (ii 0))]) (h' := q7.2) 31 3 (Nat.le_of_ble_eq_true rfl) tk_R_term rfl rfl ⟨trivial, trivial, trivial, trivial⟩ ?_
            obtain ⟨q8, hq20, hx⟩ := bd hx
            have K21 : Ev Γ (m_R_term (d + 1)) 87 [some (vr 12 0 80), none, none, none, none] [vl q8] q7.2 r h' := by
              refine Ev.callS (ν := m_R_within) (av := [vl q8]) (rest := []) (r1 := some (vi (p_R_within q8))) (h1 := q7.2) 50 1 tk_R_term rfl bb_R_within vv_R_within lk_12_180 (by show _ ≤ 6 + (d + 1); simp only [mv, m_R_within]; omega) rfl rfl (Nat.le_of_ble_eq_true rfl) (s_R_within Γ q8 q7.2) ?_
              show Ev Γ (m_R_term (d + 1)) 90 [some (vr 12 0 80), none, none, none, none] [vi (p_R_within q8)] q7.2 r h'
              refine Ev.blk (pc' := 5) (lv' := [some (vr 12 0 80), some (vi (p_R_within q8)), none, none, none]) (st' := []) (h' := q7.2) 51 2 (Nat.le_of_ble_eq_true rfl) tk_R_term rfl rfl ⟨trivial, trivial, trivial⟩ ?_
              exact Ev.msk [true, true, false, false, false] (ih (p_R_within q8) q7.2 _ hx r h' hP)
            clear hx
            refine Ev.if_eq 34 73 tk_R_term rfl (by decide) (fun hc22 => ?_) (fun hc22 => ?_)
            · replace hq20 := ip hc22 hq20
              refine Ev.blk (pc' := 76) (lv' := [some (vr 12 0 80), some (vi v1), some (vi (if q6.1 = (ii 42) then (ii 1) else (ii 0))), some (vl q7.1.toInt64), none]) (st' := [vi (lg_cmp q7.1.toInt64 (Int64.ofNat 0))]) (h' := q7.2) 40 3 (Nat.le_of_ble_eq_true rfl) tk_R_term rfl rfl ⟨trivial, trivial, trivial, trivial⟩ ?_
              refine Ev.if_ne 43 83 tk_R_term rfl (by decide) (fun hc23 => ?_) (fun hc23 => ?_)
              · replace hq20 := ia hc23 hq20
                obtain ⟨hg24, hq20⟩ := gd hq20
                refine Ev.blk (pc' := 87) (lv' := [some (vr 12 0 80), some (vi v1), some (vi (if q6.1 = (ii 42) then (ii 1) else (ii 0))), some (vl q7.1.toInt64), none]) (st' := [vl (v1.toInt64 / q7.1.toInt64)]) (h' := q7.2) 46 4 (Nat.le_of_ble_eq_true rfl) tk_R_term rfl rfl ⟨trivial, trivial, trivial, hg24, trivial⟩ ?_
                obtain rfl := Option.some.inj hq20
                exact Ev.msk [true, false, false, false, false] K21
              · replace hq20 := ip hc23 hq20
                refine Ev.blk (pc' := 87) (lv' := [some (vr 12 0 80), some (vi v1), some (vi (if q6.1 = (ii 42) then (ii 1) else (ii 0))), some (vl q7.1.toInt64), none]) (st' := [vl (Int64.ofNat 0)]) (h' := q7.2) 44 2 (Nat.le_of_ble_eq_true rfl) tk_R_term rfl rfl ⟨trivial, trivial, trivial⟩ ?_
                obtain rfl := Option.some.inj hq20
                exact Ev.msk [true, false, false, false, false] K21
            · replace hq20 := ia hc22 hq20
              refine Ev.blk (pc' := 87) (lv' := [some (vr 12 0 80), some (vi v1), some (vi (if q6.1 = (ii 42) then (ii 1) else (ii 0))), some (vl q7.1.toInt64), none]) (st' := [vl (v1.toInt64 * q7.1.toInt64)]) (h' := q7.2) 35 5 (Nat.le_of_ble_eq_true rfl) tk_R_term rfl rfl ⟨trivial, trivial, trivial, trivial, trivial, trivial⟩ ?_
              obtain rfl := Option.some.inj hq20
              exact Ev.msk [true, false, false, false, false] K21
          refine Ev.icmp_ne 18 44 tk_R_term rfl (by decide) (fun hc25 => ?_) (fun hc25 => ?_)
          · refine Ev.blk (pc' := 45) (lv' := [some (vr 12 0 80), some (vi v1), none, none, none]) (st' := [vi (ii 0)]) (h' := q6.2) 21 1 (Nat.le_of_ble_eq_true rfl) tk_R_term rfl rfl ⟨trivial, trivial⟩ ?_
            exact Ev.msk [true, true, false, false, false] (K17 _ (by first | rfl | simp only [if_neg hc25]))
          · refine Ev.blk (pc' := 45) (lv' := [some (vr 12 0 80), some (vi v1), none, none, none]) (st' := [vi (ii 1)]) (h' := q6.2) 19 2 (Nat.le_of_ble_eq_true rfl) tk_R_term rfl rfl ⟨trivial, trivial, trivial⟩ ?_
            exact Ev.msk [true, true, false, false, false] (K17 _ (by first | rfl | simp only [if_pos hc25]))
set_option maxRecDepth 4000 in
theorem u_R_term_ok (Γ : AG) (d : Nat) (rc : Nat → AH → Option (Int32 × AH)) (hrc0 : ∀ (h : AH) (x : Int32 × AH), rc 0  h = some x → MetA Γ (m_R_sum d) [vr 12 0 80] h (some (vi x.1)) x.2) (hrc1 : ∀ (h : AH) (x : Int32 × AH), rc 1  h = some x → MetA Γ (m_R_term d) [vr 12 0 80] h (some (vi x.1)) x.2) (hrc2 : ∀ (h : AH) (x : Int32 × AH), rc 2  h = some x → MetA Γ (m_R_atom d) [vr 12 0 80] h (some (vi x.1)) x.2) (h : AH) (x : Int32 × AH) (hx : u_R_term rc  h = some x) : MetA Γ (m_R_term (d + 1)) [vr 12 0 80] h (some (vi x.1)) x.2 := by
  refine Ev.met rfl rfl (Nat.le_of_ble_eq_true rfl) ?_
  show Ev Γ (m_R_term (d + 1)) 0 [some (vr 12 0 80), none, none, none, none] [] h _ _
  obtain ⟨r, hr⟩ : ∃ r : Option AV, r = some (vi x.1) := ⟨_, rfl⟩
  obtain ⟨h', hh⟩ : ∃ h' : AH, h' = x.2 := ⟨_, rfl⟩
  have hP : r = some (vi x.1) ∧ h' = x.2 := ⟨hr, hh⟩
  suffices hS : Ev Γ (m_R_term (d + 1)) 0 [some (vr 12 0 80), none, none, none, none] [] h r h' by rw [hr, hh] at hS; exact hS
  clear hr hh
  unfold u_R_term at hx
  refine Ev.blk (pc' := 1) (lv' := [some (vr 12 0 80), none, none, none, none]) (st' := [vr 12 0 80]) (h' := h) 0 1 (Nat.le_of_ble_eq_true rfl) tk_R_term rfl rfl ⟨trivial, trivial⟩ ?_
  obtain ⟨q1, hq1, hx⟩ := bd hx
  refine Ev.callV (ν := (m_R_atom d)) (av := []) (rest := []) (r1 := some (vi q1.1)) (h1 := q1.2) (ci := 12) (nn := 0) (o := 80) 1 0 tk_R_term rfl (bb_R_atom _) (vv_R_atom _) lk_12_177 (Nat.le_refl _) rfl rfl (Or.inl rfl) (Nat.le_of_ble_eq_true rfl) (hrc2 h _ hq1) ?_
  show Ev Γ (m_R_term (d + 1)) 4 [some (vr 12 0 80), none, none, none, none] [vi q1.1] q1.2 r h'
  refine Ev.blk (pc' := 5) (lv' := [some (vr 12 0 80), some (vi q1.1), none, none, none]) (st' := []) (h' := q1.2) 2 1 (Nat.le_of_ble_eq_true rfl) tk_R_term rfl rfl ⟨trivial, trivial⟩ ?_
  refine Ev.msk [true, true, false, false, false] ?_
  show Ev Γ (m_R_term (d + 1)) 5 [some (vr 12 0 80), some (vi q1.1), none, none, none] [] q1.2 r h'
  exact l_R_term_L5 Γ d rc hrc0 hrc1 hrc2 FU q1.1 q1.2 _ hx r h' hP
set_option maxRecDepth 4000 in
theorem l_R_sum_L5 (Γ : AG) (d : Nat) (rc : Nat → AH → Option (Int32 × AH)) (hrc0 : ∀ (h : AH) (x : Int32 × AH), rc 0  h = some x → MetA Γ (m_R_sum d) [vr 12 0 80] h (some (vi x.1)) x.2) (hrc1 : ∀ (h : AH) (x : Int32 × AH), rc 1  h = some x → MetA Γ (m_R_term d) [vr 12 0 80] h (some (vi x.1)) x.2) (hrc2 : ∀ (h : AH) (x : Int32 × AH), rc 2  h = some x → MetA Γ (m_R_atom d) [vr 12 0 80] h (some (vi x.1)) x.2) : ∀ (n : Nat) (v1 : Int32) (h : AH) (x : Int32 × AH), R_sum_L5 rc n v1 h = some x → ∀ (r : Option AV) (h' : AH), r = some (vi x.1) ∧ h' = x.2 → Ev Γ (m_R_sum (d + 1)) 5 [some (vr 12 0 80), some (vi v1), none, none, none] [] h r h' := by
  intro n
  induction n with
  | zero => intro v1 h x hx; cases hx
  | succ n ih =>
    intro v1 h x hx r h' hP
    replace hx : R_sum_L5_b rc (R_sum_L5 rc n) v1 h = some x := hx
    unfold R_sum_L5_b at hx
    refine Ev.blk (pc' := 10) (lv' := [some (vr 12 0 80), some (vi v1), none, none, none]) (st' := [vi (ii (-1)), vi (h.1 80 11)]) (h' := h) 3 3 (Nat.le_of_ble_eq_true rfl) tk_R_sum rfl rfl ⟨trivial, trivial, trivial, trivial⟩ ?_
    refine Ev.icmp_ne 6 84 tk_R_sum rfl (by decide) (fun hc1 => ?_) (fun hc1 => ?_)
    · replace hx := ia hc1 hx
      refine Ev.blk (pc' := 85) (lv' := [some (vr 12 0 80), some (vi v1), none, none, none]) (st' := [vi v1]) (h' := h) 47 1 (Nat.le_of_ble_eq_true rfl) tk_R_sum rfl rfl ⟨trivial, trivial⟩ ?_
      obtain rfl := Option.some.inj hx
      obtain ⟨rfl, rfl⟩ := hP
      exact Ev.iret 48 tk_R_sum rfl rfl
    · replace hx := ip hc1 hx
      refine Ev.blk (pc' := 14) (lv' := [some (vr 12 0 80), some (vi v1), none, none, none]) (st' := [vr 12 0 80]) (h' := h) 7 1 (Nat.le_of_ble_eq_true rfl) tk_R_sum rfl rfl ⟨trivial, trivial⟩ ?_
      obtain ⟨q1, hq2, hx⟩ := bd hx
      refine Ev.callV (ν := m_R_look) (av := []) (rest := []) (r1 := some (vi q1.1)) (h1 := q1.2) (ci := 12) (nn := 0) (o := 80) 8 0 tk_R_sum rfl bb_R_look vv_R_look lk_12_144 (by show _ ≤ 6 + (d + 1); simp only [mv, m_R_look]; omega) rfl rfl (Or.inl rfl) (Nat.le_of_ble_eq_true rfl) (s_R_look Γ h _ hq2) ?_
      show Ev Γ (m_R_sum (d + 1)) 17 [some (vr 12 0 80), some (vi v1), none, none, none] [vi q1.1] q1.2 r h'
      refine Ev.blk (pc' := 19) (lv' := [some (vr 12 0 80), some (vi v1), none, none, none]) (st' := [vi (ii 43), vi q1.1]) (h' := q1.2) 9 1 (Nat.le_of_ble_eq_true rfl) tk_R_sum rfl rfl ⟨trivial, trivial⟩ ?_
      refine Ev.icmp_eq 10 31 tk_R_sum rfl (by decide) (fun hc3 => ?_) (fun hc3 => ?_)
      · replace hx := ip hc3 hx
        refine Ev.blk (pc' := 32) (lv' := [some (vr 12 0 80), some (vi v1), none, none, none]) (st' := [vr 12 0 80]) (h' := q1.2) 15 1 (Nat.le_of_ble_eq_true rfl) tk_R_sum rfl rfl ⟨trivial, trivial⟩ ?_
        obtain ⟨q2, hq4, hx⟩ := bd hx
        refine Ev.callV (ν := m_R_look) (av := []) (rest := []) (r1 := some (vi q2.1)) (h1 := q2.2) (ci := 12) (nn := 0) (o := 80) 16 0 tk_R_sum rfl bb_R_look vv_R_look lk_12_144 (by show _ ≤ 6 + (d + 1); simp only [mv, m_R_look]; omega) rfl rfl (Or.inl rfl) (Nat.le_of_ble_eq_true rfl) (s_R_look Γ q1.2 _ hq4) ?_
        show Ev Γ (m_R_sum (d + 1)) 35 [some (vr 12 0 80), some (vi v1), none, none, none] [vi q2.1] q2.2 r h'
        refine Ev.blk (pc' := 37) (lv' := [some (vr 12 0 80), some (vi v1), none, none, none]) (st' := [vi (ii 43), vi q2.1]) (h' := q2.2) 17 1 (Nat.le_of_ble_eq_true rfl) tk_R_sum rfl rfl ⟨trivial, trivial⟩ ?_
        have K5 : ∀ v5_0 : Int32, v5_0 = (if q2.1 = (ii 43) then (ii 1) else (ii 0)) → Ev Γ (m_R_sum (d + 1)) 45 [some (vr 12 0 80), some (vi v1), none, none, none] [vi v5_0] q2.2 r h' := by
          intro v5_0 e6
          subst e6
          refine Ev.blk (pc' := 57) (lv' := [some (vr 12 0 80), some (vi v1), some (vi (if q2.1 = (ii 43) then (ii 1) else (ii 0))), none, none]) (st' := [vr 12 0 80]) (h' := (wI q2.2 80 10 ((q2.2.1 80 10) + (ii 1)))) 22 8 (Nat.le_of_ble_eq_true rfl) tk_R_sum rfl rfl ⟨trivial, trivial, trivial, trivial, trivial, trivial, trivial, trivial, trivial⟩ ?_
          obtain ⟨q3, hq7, hx⟩ := bd hx
          refine Ev.callV (ν := (m_R_term d)) (av := []) (rest := []) (r1 := some (vi q3.1)) (h1 := q3.2) (ci := 12) (nn := 0) (o := 80) 30 0 tk_R_sum rfl (bb_R_term _) (vv_R_term _) lk_12_184 (Nat.le_refl _) rfl rfl (Or.inl rfl) (Nat.le_of_ble_eq_true rfl) (hrc1 (wI q2.2 80 10 ((q2.2.1 80 10) + (ii 1))) _ hq7) ?_
          show Ev Γ (m_R_sum (d + 1)) 60 [some (vr 12 0 80), some (vi v1), some (vi (if q2.1 = (ii 43) then (ii 1) else (ii 0))), none, none] [vi q3.1] q3.2 r h'
          refine Ev.blk (pc' := 63) (lv' := [some (vr 12 0 80), some (vi v1), some (vi (if q2.1 = (ii 43) then (ii 1) else (ii 0))), some (vl q3.1.toInt64), none]) (st' := [vi (if q2.1 = (ii 43) then (ii 1) else (ii 0))]) (h' := q3.2) 31 3 (Nat.le_of_ble_eq_true rfl) tk_R_sum rfl rfl ⟨trivial, trivial, trivial, trivial⟩ ?_
          have K8 : ∀ v8_0 : Int64, v8_0 = (if (if q2.1 = (ii 43) then (ii 1) else (ii 0)) = 0 then (v1.toInt64 - q3.1.toInt64) else (v1.toInt64 + q3.1.toInt64)) → Ev Γ (m_R_sum (d + 1)) 77 [some (vr 12 0 80), none, none, none, none] [vl v8_0] q3.2 r h' := by
            intro v8_0 e9
            subst e9
            refine Ev.callS (ν := m_R_within) (av := [vl (if (if q2.1 = (ii 43) then (ii 1) else (ii 0)) = 0 then (v1.toInt64 - q3.1.toInt64) else (v1.toInt64 + q3.1.toInt64))]) (rest := []) (r1 := some (vi (p_R_within (if (if q2.1 = (ii 43) then (ii 1) else (ii 0)) = 0 then (v1.toInt64 - q3.1.toInt64) else (v1.toInt64 + q3.1.toInt64))))) (h1 := q3.2) 44 1 tk_R_sum rfl bb_R_within vv_R_within lk_12_180 (by show _ ≤ 6 + (d + 1); simp only [mv, m_R_within]; omega) rfl rfl (Nat.le_of_ble_eq_true rfl) (s_R_within Γ (if (if q2.1 = (ii 43) then (ii 1) else (ii 0)) = 0 then (v1.toInt64 - q3.1.toInt64) else (v1.toInt64 + q3.1.toInt64)) q3.2) ?_
            show Ev Γ (m_R_sum (d + 1)) 80 [some (vr 12 0 80), none, none, none, none] [vi (p_R_within (if (if q2.1 = (ii 43) then (ii 1) else (ii 0)) = 0 then (v1.toInt64 - q3.1.toInt64) else (v1.toInt64 + q3.1.toInt64)))] q3.2 r h'
            refine Ev.blk (pc' := 5) (lv' := [some (vr 12 0 80), some (vi (p_R_within (if (if q2.1 = (ii 43) then (ii 1) else (ii 0)) = 0 then (v1.toInt64 - q3.1.toInt64) else (v1.toInt64 + q3.1.toInt64)))), none, none, none]) (st' := []) (h' := q3.2) 45 2 (Nat.le_of_ble_eq_true rfl) tk_R_sum rfl rfl ⟨trivial, trivial, trivial⟩ ?_
            exact Ev.msk [true, true, false, false, false] (ih (p_R_within (if (if q2.1 = (ii 43) then (ii 1) else (ii 0)) = 0 then (v1.toInt64 - q3.1.toInt64) else (v1.toInt64 + q3.1.toInt64))) q3.2 _ hx r h' hP)
          refine Ev.if_eq 34 73 tk_R_sum rfl (by decide) (fun hc10 => ?_) (fun hc10 => ?_)
          · refine Ev.blk (pc' := 77) (lv' := [some (vr 12 0 80), some (vi v1), some (vi (if q2.1 = (ii 43) then (ii 1) else (ii 0))), some (vl q3.1.toInt64), none]) (st' := [vl (v1.toInt64 - q3.1.toInt64)]) (h' := q3.2) 40 4 (Nat.le_of_ble_eq_true rfl) tk_R_sum rfl rfl ⟨trivial, trivial, trivial, trivial, trivial⟩ ?_
            exact Ev.msk [true, false, false, false, false] (K8 _ (by first | rfl | simp only [if_pos hc10]))
          · refine Ev.blk (pc' := 77) (lv' := [some (vr 12 0 80), some (vi v1), some (vi (if q2.1 = (ii 43) then (ii 1) else (ii 0))), some (vl q3.1.toInt64), none]) (st' := [vl (v1.toInt64 + q3.1.toInt64)]) (h' := q3.2) 35 5 (Nat.le_of_ble_eq_true rfl) tk_R_sum rfl rfl ⟨trivial, trivial, trivial, trivial, trivial, trivial⟩ ?_
            exact Ev.msk [true, false, false, false, false] (K8 _ (by first | rfl | simp only [if_neg hc10]))
        refine Ev.icmp_ne 18 44 tk_R_sum rfl (by decide) (fun hc11 => ?_) (fun hc11 => ?_)
        · refine Ev.blk (pc' := 45) (lv' := [some (vr 12 0 80), some (vi v1), none, none, none]) (st' := [vi (ii 0)]) (h' := q2.2) 21 1 (Nat.le_of_ble_eq_true rfl) tk_R_sum rfl rfl ⟨trivial, trivial⟩ ?_
          exact Ev.msk [true, true, false, false, false] (K5 _ (by first | rfl | simp only [if_neg hc11]))
        · refine Ev.blk (pc' := 45) (lv' := [some (vr 12 0 80), some (vi v1), none, none, none]) (st' := [vi (ii 1)]) (h' := q2.2) 19 2 (Nat.le_of_ble_eq_true rfl) tk_R_sum rfl rfl ⟨trivial, trivial, trivial⟩ ?_
          exact Ev.msk [true, true, false, false, false] (K5 _ (by first | rfl | simp only [if_pos hc11]))
      · replace hx := ia hc3 hx
        refine Ev.blk (pc' := 23) (lv' := [some (vr 12 0 80), some (vi v1), none, none, none]) (st' := [vr 12 0 80]) (h' := q1.2) 11 1 (Nat.le_of_ble_eq_true rfl) tk_R_sum rfl rfl ⟨trivial, trivial⟩ ?_
        obtain ⟨q4, hq12, hx⟩ := bd hx
        refine Ev.callV (ν := m_R_look) (av := []) (rest := []) (r1 := some (vi q4.1)) (h1 := q4.2) (ci := 12) (nn := 0) (o := 80) 12 0 tk_R_sum rfl bb_R_look vv_R_look lk_12_144 (by show _ ≤ 6 + (d + 1); simp only [mv, m_R_look]; omega) rfl rfl (Or.inl rfl) (Nat.le_of_ble_eq_true rfl) (s_R_look Γ q1.2 _ hq12) ?_
        show Ev Γ (m_R_sum (d + 1)) 26 [some (vr 12 0 80), some (vi v1), none, none, none] [vi q4.1] q4.2 r h'
        refine Ev.blk (pc' := 28) (lv' := [some (vr 12 0 80), some (vi v1), none, none, none]) (st' := [vi (ii 45), vi q4.1]) (h' := q4.2) 13 1 (Nat.le_of_ble_eq_true rfl) tk_R_sum rfl rfl ⟨trivial, trivial⟩ ?_
        refine Ev.icmp_ne 14 84 tk_R_sum rfl (by decide) (fun hc13 => ?_) (fun hc13 => ?_)
        · replace hx := ia hc13 hx
          refine Ev.blk (pc' := 85) (lv' := [some (vr 12 0 80), some (vi v1), none, none, none]) (st' := [vi v1]) (h' := q4.2) 47 1 (Nat.le_of_ble_eq_true rfl) tk_R_sum rfl rfl ⟨trivial, trivial⟩ ?_
          obtain rfl := Option.some.inj hx
          obtain ⟨rfl, rfl⟩ := hP
          exact Ev.iret 48 tk_R_sum rfl rfl
        · replace hx := ip hc13 hx
          refine Ev.blk (pc' := 32) (lv' := [some (vr 12 0 80), some (vi v1), none, none, none]) (st' := [vr 12 0 80]) (h' := q4.2) 15 1 (Nat.le_of_ble_eq_true rfl) tk_R_sum rfl rfl ⟨trivial, trivial⟩ ?_
          obtain ⟨q5, hq14, hx⟩ := bd hx
          refine Ev.callV (ν := m_R_look) (av := []) (rest := []) (r1 := some (vi q5.1)) (h1 := q5.2) (ci := 12) (nn := 0) (o := 80) 16 0 tk_R_sum rfl bb_R_look vv_R_look lk_12_144 (by show _ ≤ 6 + (d + 1); simp only [mv, m_R_look]; omega) rfl rfl (Or.inl rfl) (Nat.le_of_ble_eq_true rfl) (s_R_look Γ q4.2 _ hq14) ?_
          show Ev Γ (m_R_sum (d + 1)) 35 [some (vr 12 0 80), some (vi v1), none, none, none] [vi q5.1] q5.2 r h'
          refine Ev.blk (pc' := 37) (lv' := [some (vr 12 0 80), some (vi v1), none, none, none]) (st' := [vi (ii 43), vi q5.1]) (h' := q5.2) 17 1 (Nat.le_of_ble_eq_true rfl) tk_R_sum rfl rfl ⟨trivial, trivial⟩ ?_
          have K15 : ∀ v15_0 : Int32, v15_0 = (if q5.1 = (ii 43) then (ii 1) else (ii 0)) → Ev Γ (m_R_sum (d + 1)) 45 [some (vr 12 0 80), some (vi v1), none, none, none] [vi v15_0] q5.2 r h' := by
            intro v15_0 e16
            subst e16
            refine Ev.blk (pc' := 57) (lv' := [some (vr 12 0 80), some (vi v1), some (vi (if q5.1 = (ii 43) then (ii 1) else (ii 0))), none, none]) (st' := [vr 12 0 80]) (h' := (wI q5.2 80 10 ((q5.2.1 80 10) + (ii 1)))) 22 8 (Nat.le_of_ble_eq_true rfl) tk_R_sum rfl rfl ⟨trivial, trivial, trivial, trivial, trivial, trivial, trivial, trivial, trivial⟩ ?_
            obtain ⟨q6, hq17, hx⟩ := bd hx
            refine Ev.callV (ν := (m_R_term d)) (av := []) (rest := []) (r1 := some (vi q6.1)) (h1 := q6.2) (ci := 12) (nn := 0) (o := 80) 30 0 tk_R_sum rfl (bb_R_term _) (vv_R_term _) lk_12_184 (Nat.le_refl _) rfl rfl (Or.inl rfl) (Nat.le_of_ble_eq_true rfl) (hrc1 (wI q5.2 80 10 ((q5.2.1 80 10) + (ii 1))) _ hq17) ?_
            show Ev Γ (m_R_sum (d + 1)) 60 [some (vr 12 0 80), some (vi v1), some (vi (if q5.1 = (ii 43) then (ii 1) else (ii 0))), none, none] [vi q6.1] q6.2 r h'
            refine Ev.blk (pc' := 63) (lv' := [some (vr 12 0 80), some (vi v1), some (vi (if q5.1 = (ii 43) then (ii 1) else (ii 0))), some (vl q6.1.toInt64), none]) (st' := [vi (if q5.1 = (ii 43) then (ii 1) else (ii 0))]) (h' := q6.2) 31 3 (Nat.le_of_ble_eq_true rfl) tk_R_sum rfl rfl ⟨trivial, trivial, trivial, trivial⟩ ?_
            have K18 : ∀ v18_0 : Int64, v18_0 = (if (if q5.1 = (ii 43) then (ii 1) else (ii 0)) = 0 then (v1.toInt64 - q6.1.toInt64) else (v1.toInt64 + q6.1.toInt64)) → Ev Γ (m_R_sum (d + 1)) 77 [some (vr 12 0 80), none, none, none, none] [vl v18_0] q6.2 r h' := by
              intro v18_0 e19
              subst e19
              refine Ev.callS (ν := m_R_within) (av := [vl (if (if q5.1 = (ii 43) then (ii 1) else (ii 0)) = 0 then (v1.toInt64 - q6.1.toInt64) else (v1.toInt64 + q6.1.toInt64))]) (rest := []) (r1 := some (vi (p_R_within (if (if q5.1 = (ii 43) then (ii 1) else (ii 0)) = 0 then (v1.toInt64 - q6.1.toInt64) else (v1.toInt64 + q6.1.toInt64))))) (h1 := q6.2) 44 1 tk_R_sum rfl bb_R_within vv_R_within lk_12_180 (by show _ ≤ 6 + (d + 1); simp only [mv, m_R_within]; omega) rfl rfl (Nat.le_of_ble_eq_true rfl) (s_R_within Γ (if (if q5.1 = (ii 43) then (ii 1) else (ii 0)) = 0 then (v1.toInt64 - q6.1.toInt64) else (v1.toInt64 + q6.1.toInt64)) q6.2) ?_
              show Ev Γ (m_R_sum (d + 1)) 80 [some (vr 12 0 80), none, none, none, none] [vi (p_R_within (if (if q5.1 = (ii 43) then (ii 1) else (ii 0)) = 0 then (v1.toInt64 - q6.1.toInt64) else (v1.toInt64 + q6.1.toInt64)))] q6.2 r h'
              refine Ev.blk (pc' := 5) (lv' := [some (vr 12 0 80), some (vi (p_R_within (if (if q5.1 = (ii 43) then (ii 1) else (ii 0)) = 0 then (v1.toInt64 - q6.1.toInt64) else (v1.toInt64 + q6.1.toInt64)))), none, none, none]) (st' := []) (h' := q6.2) 45 2 (Nat.le_of_ble_eq_true rfl) tk_R_sum rfl rfl ⟨trivial, trivial, trivial⟩ ?_
              exact Ev.msk [true, true, false, false, false] (ih (p_R_within (if (if q5.1 = (ii 43) then (ii 1) else (ii 0)) = 0 then (v1.toInt64 - q6.1.toInt64) else (v1.toInt64 + q6.1.toInt64))) q6.2 _ hx r h' hP)
            refine Ev.if_eq 34 73 tk_R_sum rfl (by decide) (fun hc20 => ?_) (fun hc20 => ?_)
            · refine Ev.blk (pc' := 77) (lv' := [some (vr 12 0 80), some (vi v1), some (vi (if q5.1 = (ii 43) then (ii 1) else (ii 0))), some (vl q6.1.toInt64), none]) (st' := [vl (v1.toInt64 - q6.1.toInt64)]) (h' := q6.2) 40 4 (Nat.le_of_ble_eq_true rfl) tk_R_sum rfl rfl ⟨trivial, trivial, trivial, trivial, trivial⟩ ?_
              exact Ev.msk [true, false, false, false, false] (K18 _ (by first | rfl | simp only [if_pos hc20]))
            · refine Ev.blk (pc' := 77) (lv' := [some (vr 12 0 80), some (vi v1), some (vi (if q5.1 = (ii 43) then (ii 1) else (ii 0))), some (vl q6.1.toInt64), none]) (st' := [vl (v1.toInt64 + q6.1.toInt64)]) (h' := q6.2) 35 5 (Nat.le_of_ble_eq_true rfl) tk_R_sum rfl rfl ⟨trivial, trivial, trivial, trivial, trivial, trivial⟩ ?_
              exact Ev.msk [true, false, false, false, false] (K18 _ (by first | rfl | simp only [if_neg hc20]))
          refine Ev.icmp_ne 18 44 tk_R_sum rfl (by decide) (fun hc21 => ?_) (fun hc21 => ?_)
          · refine Ev.blk (pc' := 45) (lv' := [some (vr 12 0 80), some (vi v1), none, none, none]) (st' := [vi (ii 0)]) (h' := q5.2) 21 1 (Nat.le_of_ble_eq_true rfl) tk_R_sum rfl rfl ⟨trivial, trivial⟩ ?_
            exact Ev.msk [true, true, false, false, false] (K15 _ (by first | rfl | simp only [if_neg hc21]))
          · refine Ev.blk (pc' := 45) (lv' := [some (vr 12 0 80), some (vi v1), none, none, none]) (st' := [vi (ii 1)]) (h' := q5.2) 19 2 (Nat.le_of_ble_eq_true rfl) tk_R_sum rfl rfl ⟨trivial, trivial, trivial⟩ ?_
            exact Ev.msk [true, true, false, false, false] (K15 _ (by first | rfl | simp only [if_pos hc21]))
set_option maxRecDepth 4000 in
theorem u_R_sum_ok (Γ : AG) (d : Nat) (rc : Nat → AH → Option (Int32 × AH)) (hrc0 : ∀ (h : AH) (x : Int32 × AH), rc 0  h = some x → MetA Γ (m_R_sum d) [vr 12 0 80] h (some (vi x.1)) x.2) (hrc1 : ∀ (h : AH) (x : Int32 × AH), rc 1  h = some x → MetA Γ (m_R_term d) [vr 12 0 80] h (some (vi x.1)) x.2) (hrc2 : ∀ (h : AH) (x : Int32 × AH), rc 2  h = some x → MetA Γ (m_R_atom d) [vr 12 0 80] h (some (vi x.1)) x.2) (h : AH) (x : Int32 × AH) (hx : u_R_sum rc  h = some x) : MetA Γ (m_R_sum (d + 1)) [vr 12 0 80] h (some (vi x.1)) x.2 := by
  refine Ev.met rfl rfl (Nat.le_of_ble_eq_true rfl) ?_
  show Ev Γ (m_R_sum (d + 1)) 0 [some (vr 12 0 80), none, none, none, none] [] h _ _
  obtain ⟨r, hr⟩ : ∃ r : Option AV, r = some (vi x.1) := ⟨_, rfl⟩
  obtain ⟨h', hh⟩ : ∃ h' : AH, h' = x.2 := ⟨_, rfl⟩
  have hP : r = some (vi x.1) ∧ h' = x.2 := ⟨hr, hh⟩
  suffices hS : Ev Γ (m_R_sum (d + 1)) 0 [some (vr 12 0 80), none, none, none, none] [] h r h' by rw [hr, hh] at hS; exact hS
  clear hr hh
  unfold u_R_sum at hx
  refine Ev.blk (pc' := 1) (lv' := [some (vr 12 0 80), none, none, none, none]) (st' := [vr 12 0 80]) (h' := h) 0 1 (Nat.le_of_ble_eq_true rfl) tk_R_sum rfl rfl ⟨trivial, trivial⟩ ?_
  obtain ⟨q1, hq1, hx⟩ := bd hx
  refine Ev.callV (ν := (m_R_term d)) (av := []) (rest := []) (r1 := some (vi q1.1)) (h1 := q1.2) (ci := 12) (nn := 0) (o := 80) 1 0 tk_R_sum rfl (bb_R_term _) (vv_R_term _) lk_12_184 (Nat.le_refl _) rfl rfl (Or.inl rfl) (Nat.le_of_ble_eq_true rfl) (hrc1 h _ hq1) ?_
  show Ev Γ (m_R_sum (d + 1)) 4 [some (vr 12 0 80), none, none, none, none] [vi q1.1] q1.2 r h'
  refine Ev.blk (pc' := 5) (lv' := [some (vr 12 0 80), some (vi q1.1), none, none, none]) (st' := []) (h' := q1.2) 2 1 (Nat.le_of_ble_eq_true rfl) tk_R_sum rfl rfl ⟨trivial, trivial⟩ ?_
  refine Ev.msk [true, true, false, false, false] ?_
  show Ev Γ (m_R_sum (d + 1)) 5 [some (vr 12 0 80), some (vi q1.1), none, none, none] [] q1.2 r h'
  exact l_R_sum_L5 Γ d rc hrc0 hrc1 hrc2 FU q1.1 q1.2 _ hx r h' hP
theorem gg2 (Γ : AG) : ∀ d : Nat, (∀ (h : AH) (x : Int32 × AH), g2 d 0  h = some x → MetA Γ (m_R_sum d) [vr 12 0 80] h (some (vi x.1)) x.2) ∧ (∀ (h : AH) (x : Int32 × AH), g2 d 1  h = some x → MetA Γ (m_R_term d) [vr 12 0 80] h (some (vi x.1)) x.2) ∧ (∀ (h : AH) (x : Int32 × AH), g2 d 2  h = some x → MetA Γ (m_R_atom d) [vr 12 0 80] h (some (vi x.1)) x.2) := by
  intro d
  induction d with
  | zero => exact ⟨fun  h x hx => (by cases hx), fun  h x hx => (by cases hx), fun  h x hx => (by cases hx)⟩
  | succ d ih =>
    obtain ⟨i0, i1, i2⟩ := ih
    exact ⟨fun  h x hx => u_R_sum_ok Γ d (g2 d) i0 i1 i2  h x hx, fun  h x hx => u_R_term_ok Γ d (g2 d) i0 i1 i2  h x hx, fun  h x hx => u_R_atom_ok Γ d (g2 d) i0 i1 i2  h x hx⟩
theorem t_R_sum (Γ : AG) (d : Nat) (h : AH) (x : Int32 × AH) (hx : g2 d 0  h = some x) : MetA Γ (m_R_sum d) [vr 12 0 80] h (some (vi x.1)) x.2 := (gg2 Γ d).1  h x hx
theorem t_R_term (Γ : AG) (d : Nat) (h : AH) (x : Int32 × AH) (hx : g2 d 1  h = some x) : MetA Γ (m_R_term d) [vr 12 0 80] h (some (vi x.1)) x.2 := (gg2 Γ d).2.1  h x hx
theorem t_R_atom (Γ : AG) (d : Nat) (h : AH) (x : Int32 × AH) (hx : g2 d 2  h = some x) : MetA Γ (m_R_atom d) [vr 12 0 80] h (some (vi x.1)) x.2 := (gg2 Γ d).2.2  h x hx
theorem s_R_isSign (Γ : AG) (a0 : Int32) (h : AH) : MetA Γ m_R_isSign [vi a0] h (some (vi (p_R_isSign a0))) h := by
  refine Ev.met rfl rfl (Nat.le_of_ble_eq_true rfl) ?_
  generalize hx : p_R_isSign a0 = x
  show Ev Γ m_R_isSign 0 [some (vi a0)] [] h _ _
  obtain ⟨r, hr⟩ : ∃ r : Option AV, r = some (vi x) := ⟨_, rfl⟩
  obtain ⟨h', hh⟩ : ∃ h' : AH, h' = h := ⟨_, rfl⟩
  have hP : r = some (vi x) ∧ h' = h := ⟨hr, hh⟩
  suffices hS : Ev Γ m_R_isSign 0 [some (vi a0)] [] h r h' by rw [hr, hh] at hS; exact hS
  clear hr hh
  unfold p_R_isSign at hx
  refine Ev.blk (pc' := 3) (lv' := [some (vi a0)]) (st' := [vi (ii 61), vi a0]) (h' := h) 0 2 (Nat.le_of_ble_eq_true rfl) tk_R_isSign rfl rfl ⟨trivial, trivial, trivial⟩ ?_
  refine Ev.icmp_eq 2 18 tk_R_isSign rfl (by decide) (fun hc1 => ?_) (fun hc1 => ?_)
  · replace hx := ip hc1 hx
    refine Ev.blk (pc' := 23) (lv' := [some (vi a0)]) (st' := [vi (ii 1)]) (h' := h) 9 2 (Nat.le_of_ble_eq_true rfl) tk_R_isSign rfl rfl ⟨trivial, trivial, trivial⟩ ?_
    subst hx
    obtain ⟨rfl, rfl⟩ := hP
    exact Ev.zret 12 tk_R_isSign rfl rfl rfl
  · replace hx := ia hc1 hx
    refine Ev.blk (pc' := 9) (lv' := [some (vi a0)]) (st' := [vi (ii 60), vi a0]) (h' := h) 3 2 (Nat.le_of_ble_eq_true rfl) tk_R_isSign rfl rfl ⟨trivial, trivial, trivial⟩ ?_
    refine Ev.icmp_eq 5 18 tk_R_isSign rfl (by decide) (fun hc2 => ?_) (fun hc2 => ?_)
    · replace hx := ip hc2 hx
      refine Ev.blk (pc' := 23) (lv' := [some (vi a0)]) (st' := [vi (ii 1)]) (h' := h) 9 2 (Nat.le_of_ble_eq_true rfl) tk_R_isSign rfl rfl ⟨trivial, trivial, trivial⟩ ?_
      subst hx
      obtain ⟨rfl, rfl⟩ := hP
      exact Ev.zret 12 tk_R_isSign rfl rfl rfl
    · replace hx := ia hc2 hx
      refine Ev.blk (pc' := 15) (lv' := [some (vi a0)]) (st' := [vi (ii 62), vi a0]) (h' := h) 6 2 (Nat.le_of_ble_eq_true rfl) tk_R_isSign rfl rfl ⟨trivial, trivial, trivial⟩ ?_
      refine Ev.icmp_ne 8 22 tk_R_isSign rfl (by decide) (fun hc3 => ?_) (fun hc3 => ?_)
      · replace hx := ia hc3 hx
        refine Ev.blk (pc' := 23) (lv' := [some (vi a0)]) (st' := [vi (ii 0)]) (h' := h) 11 1 (Nat.le_of_ble_eq_true rfl) tk_R_isSign rfl rfl ⟨trivial, trivial⟩ ?_
        subst hx
        obtain ⟨rfl, rfl⟩ := hP
        exact Ev.zret 12 tk_R_isSign rfl rfl rfl
      · replace hx := ip hc3 hx
        refine Ev.blk (pc' := 23) (lv' := [some (vi a0)]) (st' := [vi (ii 1)]) (h' := h) 9 2 (Nat.le_of_ble_eq_true rfl) tk_R_isSign rfl rfl ⟨trivial, trivial, trivial⟩ ?_
        subst hx
        obtain ⟨rfl, rfl⟩ := hP
        exact Ev.zret 12 tk_R_isSign rfl rfl rfl
set_option maxRecDepth 4000 in
theorem s_R_compares (Γ : AG) (a1 : Int32) (a2 : Int32) (h : AH) (x : Int32 × AH) (hx : f_R_compares a1 a2 h = some x) : MetA Γ m_R_compares [vr 12 0 80, vi a1, vi a2] h (some (vi x.1)) x.2 := by
  refine Ev.met rfl rfl (Nat.le_of_ble_eq_true rfl) ?_
  show Ev Γ m_R_compares 0 [some (vr 12 0 80), some (vi a1), some (vi a2), none, none, none] [] h _ _
  obtain ⟨r, hr⟩ : ∃ r : Option AV, r = some (vi x.1) := ⟨_, rfl⟩
  obtain ⟨h', hh⟩ : ∃ h' : AH, h' = x.2 := ⟨_, rfl⟩
  have hP : r = some (vi x.1) ∧ h' = x.2 := ⟨hr, hh⟩
  suffices hS : Ev Γ m_R_compares 0 [some (vr 12 0 80), some (vi a1), some (vi a2), none, none, none] [] h r h' by rw [hr, hh] at hS; exact hS
  clear hr hh
  unfold f_R_compares at hx
  refine Ev.blk (pc' := 1) (lv' := [some (vr 12 0 80), some (vi a1), some (vi a2), none, none, none]) (st' := [vi a1]) (h' := h) 0 1 (Nat.le_of_ble_eq_true rfl) tk_R_compares rfl rfl ⟨trivial, trivial⟩ ?_
  obtain ⟨q2, hq1, hx⟩ := bd hx
  have K2 : Ev Γ m_R_compares 12 [some (vr 12 0 80), none, none, none, none, none] [vi q2.1] q2.2 r h' := by
    refine Ev.blk (pc' := 18) (lv' := [some (vr 12 0 80), none, none, some (vi q2.1), none, none]) (st' := [vi (ii (-1)), vi (q2.2.1 80 11)]) (h' := q2.2) 6 4 (Nat.le_of_ble_eq_true rfl) tk_R_compares rfl rfl ⟨trivial, trivial, trivial, trivial, trivial⟩ ?_
    refine Ev.icmp_eq 10 23 tk_R_compares rfl (by decide) (fun hc3 => ?_) (fun hc3 => ?_)
    · replace hx := ip hc3 hx
      refine Ev.blk (pc' := 24) (lv' := [some (vr 12 0 80), none, none, some (vi q2.1), none, none]) (st' := [vr 12 0 80]) (h' := q2.2) 13 1 (Nat.le_of_ble_eq_true rfl) tk_R_compares rfl rfl ⟨trivial, trivial⟩ ?_
      obtain ⟨q3, hq4, hx⟩ := bd hx
      refine Ev.callV (ν := m_R_look) (av := []) (rest := []) (r1 := some (vi q3.1)) (h1 := q3.2) (ci := 12) (nn := 0) (o := 80) 14 0 tk_R_compares rfl bb_R_look vv_R_look lk_12_144 (by decide) rfl rfl (Or.inl rfl) (Nat.le_of_ble_eq_true rfl) (s_R_look Γ q2.2 _ hq4) ?_
      show Ev Γ m_R_compares 27 [some (vr 12 0 80), none, none, some (vi q2.1), none, none] [vi q3.1] q3.2 r h'
      refine Ev.blk (pc' := 31) (lv' := [some (vr 12 0 80), none, none, some (vi q2.1), some (vi q3.1), none]) (st' := [vi q3.1]) (h' := q3.2) 15 2 (Nat.le_of_ble_eq_true rfl) tk_R_compares rfl rfl ⟨trivial, trivial, trivial⟩ ?_
      refine Ev.callS (ν := m_R_isSign) (av := [vi q3.1]) (rest := []) (r1 := some (vi (p_R_isSign q3.1))) (h1 := q3.2) 17 1 tk_R_compares rfl bb_R_isSign vv_R_isSign lk_12_187 (by decide) rfl rfl (Nat.le_of_ble_eq_true rfl) (s_R_isSign Γ q3.1 q3.2) ?_
      show Ev Γ m_R_compares 34 [some (vr 12 0 80), none, none, some (vi q2.1), some (vi q3.1), none] [vi (p_R_isSign q3.1)] q3.2 r h'
      refine Ev.if_ne 18 42 tk_R_compares rfl (by decide) (fun hc5 => ?_) (fun hc5 => ?_)
      · replace hx := ia hc5 hx
        refine Ev.blk (pc' := 53) (lv' := [some (vr 12 0 80), none, none, some (vi q2.1), some (vi q3.1), none]) (st' := [vr 12 0 80]) (h' := (wI q3.2 80 10 ((q3.2.1 80 10) + (ii 1)))) 22 7 (Nat.le_of_ble_eq_true rfl) tk_R_compares rfl rfl ⟨trivial, trivial, trivial, trivial, trivial, trivial, trivial, trivial⟩ ?_
        obtain ⟨q4, hq6, hx⟩ := bd hx
        refine Ev.callV (ν := (m_R_sum 40)) (av := []) (rest := []) (r1 := some (vi q4.1)) (h1 := q4.2) (ci := 12) (nn := 0) (o := 80) 29 0 tk_R_compares rfl (bb_R_sum _) (vv_R_sum _) lk_12_167 (by decide) rfl rfl (Or.inl rfl) (Nat.le_of_ble_eq_true rfl) (t_R_sum Γ 40 (wI q3.2 80 10 ((q3.2.1 80 10) + (ii 1))) _ hq6) ?_
        show Ev Γ m_R_compares 56 [some (vr 12 0 80), none, none, some (vi q2.1), some (vi q3.1), none] [vi q4.1] q4.2 r h'
        refine Ev.blk (pc' := 62) (lv' := [some (vr 12 0 80), none, none, some (vi q2.1), some (vi q3.1), some (vi q4.1)]) (st' := [vi (ii 61), vi q3.1]) (h' := q4.2) 30 3 (Nat.le_of_ble_eq_true rfl) tk_R_compares rfl rfl ⟨trivial, trivial, trivial, trivial⟩ ?_
        refine Ev.icmp_ne 33 79 tk_R_compares rfl (by decide) (fun hc7 => ?_) (fun hc7 => ?_)
        · replace hx := ia hc7 hx
          refine Ev.blk (pc' := 83) (lv' := [some (vr 12 0 80), none, none, some (vi q2.1), some (vi q3.1), some (vi q4.1)]) (st' := [vi (ii 60), vi q3.1]) (h' := q4.2) 41 2 (Nat.le_of_ble_eq_true rfl) tk_R_compares rfl rfl ⟨trivial, trivial, trivial⟩ ?_
          refine Ev.icmp_ne 43 100 tk_R_compares rfl (by decide) (fun hc8 => ?_) (fun hc8 => ?_)
          · replace hx := ia hc8 hx
            refine Ev.blk (pc' := 103) (lv' := [some (vr 12 0 80), none, none, some (vi q2.1), some (vi q3.1), some (vi q4.1)]) (st' := [vi q4.1, vi q2.1]) (h' := q4.2) 51 2 (Nat.le_of_ble_eq_true rfl) tk_R_compares rfl rfl ⟨trivial, trivial, trivial⟩ ?_
            refine Ev.icmp_le 53 110 tk_R_compares rfl (by decide) (fun hc9 => ?_) (fun hc9 => ?_)
            · replace hx := ip hc9 hx
              refine Ev.blk (pc' := 111) (lv' := [some (vr 12 0 80), none, none, some (vi q2.1), some (vi q3.1), some (vi q4.1)]) (st' := [vi (ii 0)]) (h' := q4.2) 56 1 (Nat.le_of_ble_eq_true rfl) tk_R_compares rfl rfl ⟨trivial, trivial⟩ ?_
              obtain rfl := Option.some.inj hx
              obtain ⟨rfl, rfl⟩ := hP
              exact Ev.zret 57 tk_R_compares rfl rfl rfl
            · replace hx := ia hc9 hx
              refine Ev.blk (pc' := 111) (lv' := [some (vr 12 0 80), none, none, some (vi q2.1), some (vi q3.1), some (vi q4.1)]) (st' := [vi (ii 1)]) (h' := q4.2) 54 2 (Nat.le_of_ble_eq_true rfl) tk_R_compares rfl rfl ⟨trivial, trivial, trivial⟩ ?_
              obtain rfl := Option.some.inj hx
              obtain ⟨rfl, rfl⟩ := hP
              exact Ev.zret 57 tk_R_compares rfl rfl rfl
          · replace hx := ip hc8 hx
            refine Ev.blk (pc' := 89) (lv' := [some (vr 12 0 80), none, none, some (vi q2.1), some (vi q3.1), some (vi q4.1)]) (st' := [vi q4.1, vi q2.1]) (h' := q4.2) 44 2 (Nat.le_of_ble_eq_true rfl) tk_R_compares rfl rfl ⟨trivial, trivial, trivial⟩ ?_
            refine Ev.icmp_ge 46 96 tk_R_compares rfl (by decide) (fun hc10 => ?_) (fun hc10 => ?_)
            · replace hx := ip hc10 hx
              refine Ev.blk (pc' := 111) (lv' := [some (vr 12 0 80), none, none, some (vi q2.1), some (vi q3.1), some (vi q4.1)]) (st' := [vi (ii 0)]) (h' := q4.2) 49 2 (Nat.le_of_ble_eq_true rfl) tk_R_compares rfl rfl ⟨trivial, trivial, trivial⟩ ?_
              obtain rfl := Option.some.inj hx
              obtain ⟨rfl, rfl⟩ := hP
              exact Ev.zret 57 tk_R_compares rfl rfl rfl
            · replace hx := ia hc10 hx
              refine Ev.blk (pc' := 111) (lv' := [some (vr 12 0 80), none, none, some (vi q2.1), some (vi q3.1), some (vi q4.1)]) (st' := [vi (ii 1)]) (h' := q4.2) 47 2 (Nat.le_of_ble_eq_true rfl) tk_R_compares rfl rfl ⟨trivial, trivial, trivial⟩ ?_
              obtain rfl := Option.some.inj hx
              obtain ⟨rfl, rfl⟩ := hP
              exact Ev.zret 57 tk_R_compares rfl rfl rfl
        · replace hx := ip hc7 hx
          refine Ev.blk (pc' := 68) (lv' := [some (vr 12 0 80), none, none, some (vi q2.1), some (vi q3.1), some (vi q4.1)]) (st' := [vi q4.1, vi q2.1]) (h' := q4.2) 34 2 (Nat.le_of_ble_eq_true rfl) tk_R_compares rfl rfl ⟨trivial, trivial, trivial⟩ ?_
          refine Ev.icmp_ne 36 75 tk_R_compares rfl (by decide) (fun hc11 => ?_) (fun hc11 => ?_)
          · replace hx := ia hc11 hx
            refine Ev.blk (pc' := 111) (lv' := [some (vr 12 0 80), none, none, some (vi q2.1), some (vi q3.1), some (vi q4.1)]) (st' := [vi (ii 0)]) (h' := q4.2) 39 2 (Nat.le_of_ble_eq_true rfl) tk_R_compares rfl rfl ⟨trivial, trivial, trivial⟩ ?_
            obtain rfl := Option.some.inj hx
            obtain ⟨rfl, rfl⟩ := hP
            exact Ev.zret 57 tk_R_compares rfl rfl rfl
          · replace hx := ip hc11 hx
            refine Ev.blk (pc' := 111) (lv' := [some (vr 12 0 80), none, none, some (vi q2.1), some (vi q3.1), some (vi q4.1)]) (st' := [vi (ii 1)]) (h' := q4.2) 37 2 (Nat.le_of_ble_eq_true rfl) tk_R_compares rfl rfl ⟨trivial, trivial, trivial⟩ ?_
            obtain rfl := Option.some.inj hx
            obtain ⟨rfl, rfl⟩ := hP
            exact Ev.zret 57 tk_R_compares rfl rfl rfl
      · replace hx := ip hc5 hx
        refine Ev.blk (pc' := 38) (lv' := [some (vr 12 0 80), none, none, some (vi q2.1), some (vi q3.1), none]) (st' := [vr 12 0 80]) (h' := q3.2) 19 1 (Nat.le_of_ble_eq_true rfl) tk_R_compares rfl rfl ⟨trivial, trivial⟩ ?_
        obtain ⟨q5, hq12, hx⟩ := bd hx
        refine Ev.callV (ν := m_R_fails) (av := []) (rest := []) (r1 := some (vi q5.1)) (h1 := q5.2) (ci := 12) (nn := 0) (o := 80) 20 0 tk_R_compares rfl bb_R_fails vv_R_fails lk_12_140 (by decide) rfl rfl (Or.inl rfl) (Nat.le_of_ble_eq_true rfl) (s_R_fails Γ q3.2 _ hq12) ?_
        show Ev Γ m_R_compares 41 [some (vr 12 0 80), none, none, some (vi q2.1), some (vi q3.1), none] [vi q5.1] q5.2 r h'
        obtain ⟨hg13, hx⟩ := gd hx
        obtain rfl := Option.some.inj hx
        obtain ⟨rfl, rfl⟩ := hP
        exact Ev.zret 21 tk_R_compares rfl rfl (nbool hg13)
    · replace hx := ia hc3 hx
      refine Ev.blk (pc' := 22) (lv' := [some (vr 12 0 80), none, none, some (vi q2.1), none, none]) (st' := [vi (ii 0)]) (h' := q2.2) 11 1 (Nat.le_of_ble_eq_true rfl) tk_R_compares rfl rfl ⟨trivial, trivial⟩ ?_
      obtain rfl := Option.some.inj hx
      obtain ⟨rfl, rfl⟩ := hP
      exact Ev.zret 12 tk_R_compares rfl rfl rfl
  clear hx
  refine Ev.if_eq 1 8 tk_R_compares rfl (by decide) (fun hc14 => ?_) (fun hc14 => ?_)
  · replace hq1 := ip hc14 hq1
    refine Ev.blk (pc' := 9) (lv' := [some (vr 12 0 80), some (vi a1), some (vi a2), none, none, none]) (st' := [vr 12 0 80]) (h' := h) 4 1 (Nat.le_of_ble_eq_true rfl) tk_R_compares rfl rfl ⟨trivial, trivial⟩ ?_
    obtain ⟨q1, hq15, hq1⟩ := bd hq1
    refine Ev.callV (ν := (m_R_sum 40)) (av := []) (rest := []) (r1 := some (vi q1.1)) (h1 := q1.2) (ci := 12) (nn := 0) (o := 80) 5 0 tk_R_compares rfl (bb_R_sum _) (vv_R_sum _) lk_12_167 (by decide) rfl rfl (Or.inl rfl) (Nat.le_of_ble_eq_true rfl) (t_R_sum Γ 40 h _ hq15) ?_
    show Ev Γ m_R_compares 12 [some (vr 12 0 80), some (vi a1), some (vi a2), none, none, none] [vi q1.1] q1.2 r h'
    obtain rfl := Option.some.inj hq1
    exact Ev.msk [true, false, false, false, false, false] K2
  · replace hq1 := ia hc14 hq1
    refine Ev.blk (pc' := 12) (lv' := [some (vr 12 0 80), some (vi a1), some (vi a2), none, none, none]) (st' := [vi a2]) (h' := h) 2 2 (Nat.le_of_ble_eq_true rfl) tk_R_compares rfl rfl ⟨trivial, trivial, trivial⟩ ?_
    obtain rfl := Option.some.inj hq1
    exact Ev.msk [true, false, false, false, false, false] K2
set_option maxRecDepth 4000 in
theorem u_R_unit_ok (Γ : AG) (d : Nat) (rc : Nat → Int32 → Int32 → AH → Option (Int32 × AH)) (hrc0 : ∀ (b0 : Int32) (b1 : Int32) (h : AH) (x : Int32 × AH), rc 0 b0 b1 h = some x → MetA Γ (m_R_condition d) [vr 12 0 80, vi b0, vi b1] h (some (vi x.1)) x.2) (hrc1 : ∀ (b0 : Int32) (b1 : Int32) (h : AH) (x : Int32 × AH), rc 1 b0 b1 h = some x → MetA Γ (m_R_part d) [vr 12 0 80, vi b0, vi b1] h (some (vi x.1)) x.2) (hrc2 : ∀ (b0 : Int32) (b1 : Int32) (h : AH) (x : Int32 × AH), rc 2 b0 b1 h = some x → MetA Γ (m_R_unit d) [vr 12 0 80] h (some (vi x.1)) x.2) (a1 : Int32) (a2 : Int32) (h : AH) (x : Int32 × AH) (hx : u_R_unit rc a1 a2 h = some x) : MetA Γ (m_R_unit (d + 1)) [vr 12 0 80] h (some (vi x.1)) x.2 := by
  refine Ev.met rfl rfl (Nat.le_of_ble_eq_true rfl) ?_
  show Ev Γ (m_R_unit (d + 1)) 0 [some (vr 12 0 80), none, none] [] h _ _
  obtain ⟨r, hr⟩ : ∃ r : Option AV, r = some (vi x.1) := ⟨_, rfl⟩
  obtain ⟨h', hh⟩ : ∃ h' : AH, h' = x.2 := ⟨_, rfl⟩
  have hP : r = some (vi x.1) ∧ h' = x.2 := ⟨hr, hh⟩
  suffices hS : Ev Γ (m_R_unit (d + 1)) 0 [some (vr 12 0 80), none, none] [] h r h' by rw [hr, hh] at hS; exact hS
  clear hr hh
  unfold u_R_unit at hx
  refine Ev.blk (pc' := 1) (lv' := [some (vr 12 0 80), none, none]) (st' := [vr 12 0 80]) (h' := h) 0 1 (Nat.le_of_ble_eq_true rfl) tk_R_unit rfl rfl ⟨trivial, trivial⟩ ?_
  obtain ⟨q1, hq1, hx⟩ := bd hx
  refine Ev.callV (ν := m_R_look) (av := []) (rest := []) (r1 := some (vi q1.1)) (h1 := q1.2) (ci := 12) (nn := 0) (o := 80) 1 0 tk_R_unit rfl bb_R_look vv_R_look lk_12_144 (by show _ ≤ 48 + (d + 1); simp only [mv, m_R_look]; omega) rfl rfl (Or.inl rfl) (Nat.le_of_ble_eq_true rfl) (s_R_look Γ h _ hq1) ?_
  show Ev Γ (m_R_unit (d + 1)) 4 [some (vr 12 0 80), none, none] [vi q1.1] q1.2 r h'
  refine Ev.blk (pc' := 8) (lv' := [some (vr 12 0 80), some (vi q1.1), none]) (st' := [vi (ii 33), vi q1.1]) (h' := q1.2) 2 3 (Nat.le_of_ble_eq_true rfl) tk_R_unit rfl rfl ⟨trivial, trivial, trivial, trivial⟩ ?_
  refine Ev.icmp_ne 5 45 tk_R_unit rfl (by decide) (fun hc2 => ?_) (fun hc2 => ?_)
  · replace hx := ia hc2 hx
    refine Ev.blk (pc' := 48) (lv' := [some (vr 12 0 80), some (vi q1.1), none]) (st' := [vi (ii 40), vi q1.1]) (h' := q1.2) 26 2 (Nat.le_of_ble_eq_true rfl) tk_R_unit rfl rfl ⟨trivial, trivial, trivial⟩ ?_
    refine Ev.icmp_ne 28 90 tk_R_unit rfl (by decide) (fun hc3 => ?_) (fun hc3 => ?_)
    · replace hx := ia hc3 hx
      refine Ev.blk (pc' := 93) (lv' := [some (vr 12 0 80), some (vi q1.1), none]) (st' := [vi (ii 0), vi (ii 0), vr 12 0 80]) (h' := q1.2) 53 3 (Nat.le_of_ble_eq_true rfl) tk_R_unit rfl rfl ⟨trivial, trivial, trivial, trivial⟩ ?_
      obtain ⟨q2, hq4, hx⟩ := bd hx
      refine Ev.callV (ν := m_R_compares) (av := [vi (ii 0), vi (ii 0)]) (rest := []) (r1 := some (vi q2.1)) (h1 := q2.2) (ci := 12) (nn := 0) (o := 80) 56 2 tk_R_unit rfl bb_R_compares vv_R_compares lk_12_197 (by show _ ≤ 48 + (d + 1); simp only [mv, m_R_compares]; omega) rfl rfl (Or.inl rfl) (Nat.le_of_ble_eq_true rfl) (s_R_compares Γ (ii 0) (ii 0) q1.2 _ hq4) ?_
      show Ev Γ (m_R_unit (d + 1)) 96 [some (vr 12 0 80), some (vi q1.1), none] [vi q2.1] q2.2 r h'
      obtain ⟨hg5, hx⟩ := gd hx
      obtain rfl := Option.some.inj hx
      obtain ⟨rfl, rfl⟩ := hP
      exact Ev.zret 57 tk_R_unit rfl rfl (nbool hg5)
    · replace hx := ip hc3 hx
      refine Ev.blk (pc' := 52) (lv' := [some (vr 12 0 80), some (vi q1.1), none]) (st' := [vr 12 0 80]) (h' := q1.2) 29 1 (Nat.le_of_ble_eq_true rfl) tk_R_unit rfl rfl ⟨trivial, trivial⟩ ?_
      obtain ⟨q3, hq6, hx⟩ := bd hx
      refine Ev.callV (ν := m_R_goesIn) (av := []) (rest := []) (r1 := some (vi q3.1)) (h1 := q3.2) (ci := 12) (nn := 0) (o := 80) 30 0 tk_R_unit rfl bb_R_goesIn vv_R_goesIn lk_12_164 (by show _ ≤ 48 + (d + 1); simp only [mv, m_R_goesIn]; omega) rfl rfl (Or.inl rfl) (Nat.le_of_ble_eq_true rfl) (s_R_goesIn Γ q1.2 _ hq6) ?_
      show Ev Γ (m_R_unit (d + 1)) 55 [some (vr 12 0 80), some (vi q1.1), none] [vi q3.1] q3.2 r h'
      refine Ev.if_ne 31 60 tk_R_unit rfl (by decide) (fun hc7 => ?_) (fun hc7 => ?_)
      · replace hx := ia hc7 hx
        refine Ev.blk (pc' := 63) (lv' := [some (vr 12 0 80), some (vi q1.1), none]) (st' := [vi (ii 0), vi (ii 0), vr 12 0 80]) (h' := q3.2) 34 3 (Nat.le_of_ble_eq_true rfl) tk_R_unit rfl rfl ⟨trivial, trivial, trivial, trivial⟩ ?_
        obtain ⟨q4, hq8, hx⟩ := bd hx
        refine Ev.callV (ν := (m_R_condition d)) (av := [vi (ii 0), vi (ii 0)]) (rest := []) (r1 := some (vi q4.1)) (h1 := q4.2) (ci := 12) (nn := 0) (o := 80) 37 2 tk_R_unit rfl (bb_R_condition _) (vv_R_condition _) lk_12_193 (Nat.le_refl _) rfl rfl (Or.inl rfl) (Nat.le_of_ble_eq_true rfl) (hrc0 (ii 0) (ii 0) q3.2 _ hq8) ?_
        show Ev Γ (m_R_unit (d + 1)) 66 [some (vr 12 0 80), some (vi q1.1), none] [vi q4.1] q4.2 r h'
        refine Ev.blk (pc' := 70) (lv' := [some (vr 12 0 80), some (vi q1.1), some (vi q4.1)]) (st' := [vi (ii 41), vr 12 0 80]) (h' := q4.2) 38 3 (Nat.le_of_ble_eq_true rfl) tk_R_unit rfl rfl ⟨trivial, trivial, trivial, trivial⟩ ?_
        obtain ⟨q5, hq9, hx⟩ := bd hx
        refine Ev.callV (ν := m_R_takes) (av := [vi (ii 41)]) (rest := []) (r1 := some (vi q5.1)) (h1 := q5.2) (ci := 12) (nn := 0) (o := 80) 41 1 tk_R_unit rfl bb_R_takes vv_R_takes lk_12_170 (by show _ ≤ 48 + (d + 1); simp only [mv, m_R_takes]; omega) rfl rfl (Or.inl rfl) (Nat.le_of_ble_eq_true rfl) (s_R_takes Γ (ii 41) q4.2 _ hq9) ?_
        show Ev Γ (m_R_unit (d + 1)) 73 [some (vr 12 0 80), some (vi q1.1), some (vi q4.1)] [vi q5.1] q5.2 r h'
        refine Ev.if_ne 42 78 tk_R_unit rfl (by decide) (fun hc10 => ?_) (fun hc10 => ?_)
        · replace hx := ia hc10 hx
          refine Ev.blk (pc' := 89) (lv' := [some (vr 12 0 80), some (vi q1.1), some (vi q4.1)]) (st' := [vi q4.1]) (h' := (wI q5.2 80 12 ((q5.2.1 80 12) - (ii 1)))) 45 7 (Nat.le_of_ble_eq_true rfl) tk_R_unit rfl rfl ⟨trivial, trivial, trivial, trivial, trivial, trivial, trivial, trivial⟩ ?_
          obtain ⟨hg11, hx⟩ := gd hx
          obtain rfl := Option.some.inj hx
          obtain ⟨rfl, rfl⟩ := hP
          exact Ev.zret 52 tk_R_unit rfl rfl (nbool hg11)
        · replace hx := ip hc10 hx
          refine Ev.blk (pc' := 77) (lv' := [some (vr 12 0 80), some (vi q1.1), some (vi q4.1)]) (st' := [vi (ii 0)]) (h' := q5.2) 43 1 (Nat.le_of_ble_eq_true rfl) tk_R_unit rfl rfl ⟨trivial, trivial⟩ ?_
          obtain rfl := Option.some.inj hx
          obtain ⟨rfl, rfl⟩ := hP
          exact Ev.zret 44 tk_R_unit rfl rfl rfl
      · replace hx := ip hc7 hx
        refine Ev.blk (pc' := 59) (lv' := [some (vr 12 0 80), some (vi q1.1), none]) (st' := [vi (ii 0)]) (h' := q3.2) 32 1 (Nat.le_of_ble_eq_true rfl) tk_R_unit rfl rfl ⟨trivial, trivial⟩ ?_
        obtain rfl := Option.some.inj hx
        obtain ⟨rfl, rfl⟩ := hP
        exact Ev.zret 33 tk_R_unit rfl rfl rfl
  · replace hx := ip hc2 hx
    refine Ev.blk (pc' := 12) (lv' := [some (vr 12 0 80), some (vi q1.1), none]) (st' := [vr 12 0 80]) (h' := q1.2) 6 1 (Nat.le_of_ble_eq_true rfl) tk_R_unit rfl rfl ⟨trivial, trivial⟩ ?_
    obtain ⟨q6, hq12, hx⟩ := bd hx
    refine Ev.callV (ν := m_R_goesIn) (av := []) (rest := []) (r1 := some (vi q6.1)) (h1 := q6.2) (ci := 12) (nn := 0) (o := 80) 7 0 tk_R_unit rfl bb_R_goesIn vv_R_goesIn lk_12_164 (by show _ ≤ 48 + (d + 1); simp only [mv, m_R_goesIn]; omega) rfl rfl (Or.inl rfl) (Nat.le_of_ble_eq_true rfl) (s_R_goesIn Γ q1.2 _ hq12) ?_
    show Ev Γ (m_R_unit (d + 1)) 15 [some (vr 12 0 80), some (vi q1.1), none] [vi q6.1] q6.2 r h'
    refine Ev.if_ne 8 20 tk_R_unit rfl (by decide) (fun hc13 => ?_) (fun hc13 => ?_)
    · replace hx := ia hc13 hx
      refine Ev.blk (pc' := 21) (lv' := [some (vr 12 0 80), some (vi q1.1), none]) (st' := [vr 12 0 80]) (h' := q6.2) 11 1 (Nat.le_of_ble_eq_true rfl) tk_R_unit rfl rfl ⟨trivial, trivial⟩ ?_
      obtain ⟨q7, hq14, hx⟩ := bd hx
      refine Ev.callV (ν := (m_R_unit d)) (av := []) (rest := []) (r1 := some (vi q7.1)) (h1 := q7.2) (ci := 12) (nn := 0) (o := 80) 12 0 tk_R_unit rfl (bb_R_unit _) (vv_R_unit _) lk_12_190 (Nat.le_refl _) rfl rfl (Or.inl rfl) (Nat.le_of_ble_eq_true rfl) (hrc2 0 0 q6.2 _ hq14) ?_
      show Ev Γ (m_R_unit (d + 1)) 24 [some (vr 12 0 80), some (vi q1.1), none] [vi q7.1] q7.2 r h'
      refine Ev.blk (pc' := 36) (lv' := [some (vr 12 0 80), some (vi q1.1), some (vi q7.1)]) (st' := [vi q7.1]) (h' := (wI q7.2 80 12 ((q7.2.1 80 12) - (ii 1)))) 13 8 (Nat.le_of_ble_eq_true rfl) tk_R_unit rfl rfl ⟨trivial, trivial, trivial, trivial, trivial, trivial, trivial, trivial, trivial⟩ ?_
      refine Ev.if_ne 21 43 tk_R_unit rfl (by decide) (fun hc15 => ?_) (fun hc15 => ?_)
      · replace hx := ia hc15 hx
        refine Ev.blk (pc' := 44) (lv' := [some (vr 12 0 80), some (vi q1.1), some (vi q7.1)]) (st' := [vi (ii 0)]) (h' := (wI q7.2 80 12 ((q7.2.1 80 12) - (ii 1)))) 24 1 (Nat.le_of_ble_eq_true rfl) tk_R_unit rfl rfl ⟨trivial, trivial⟩ ?_
        obtain rfl := Option.some.inj hx
        obtain ⟨rfl, rfl⟩ := hP
        exact Ev.zret 25 tk_R_unit rfl rfl rfl
      · replace hx := ip hc15 hx
        refine Ev.blk (pc' := 44) (lv' := [some (vr 12 0 80), some (vi q1.1), some (vi q7.1)]) (st' := [vi (ii 1)]) (h' := (wI q7.2 80 12 ((q7.2.1 80 12) - (ii 1)))) 22 2 (Nat.le_of_ble_eq_true rfl) tk_R_unit rfl rfl ⟨trivial, trivial, trivial⟩ ?_
        obtain rfl := Option.some.inj hx
        obtain ⟨rfl, rfl⟩ := hP
        exact Ev.zret 25 tk_R_unit rfl rfl rfl
    · replace hx := ip hc13 hx
      refine Ev.blk (pc' := 19) (lv' := [some (vr 12 0 80), some (vi q1.1), none]) (st' := [vi (ii 0)]) (h' := q6.2) 9 1 (Nat.le_of_ble_eq_true rfl) tk_R_unit rfl rfl ⟨trivial, trivial⟩ ?_
      obtain rfl := Option.some.inj hx
      obtain ⟨rfl, rfl⟩ := hP
      exact Ev.zret 10 tk_R_unit rfl rfl rfl
set_option maxRecDepth 4000 in
theorem l_R_part_L18 (Γ : AG) (d : Nat) (rc : Nat → Int32 → Int32 → AH → Option (Int32 × AH)) (hrc0 : ∀ (b0 : Int32) (b1 : Int32) (h : AH) (x : Int32 × AH), rc 0 b0 b1 h = some x → MetA Γ (m_R_condition d) [vr 12 0 80, vi b0, vi b1] h (some (vi x.1)) x.2) (hrc1 : ∀ (b0 : Int32) (b1 : Int32) (h : AH) (x : Int32 × AH), rc 1 b0 b1 h = some x → MetA Γ (m_R_part d) [vr 12 0 80, vi b0, vi b1] h (some (vi x.1)) x.2) (hrc2 : ∀ (b0 : Int32) (b1 : Int32) (h : AH) (x : Int32 × AH), rc 2 b0 b1 h = some x → MetA Γ (m_R_unit d) [vr 12 0 80] h (some (vi x.1)) x.2) : ∀ (n : Nat) (v3 : Int32) (h : AH) (x : Int32 × AH), R_part_L18 rc n v3 h = some x → ∀ (r : Option AV) (h' : AH), r = some (vi x.1) ∧ h' = x.2 → Ev Γ (m_R_part (d + 1)) 18 [some (vr 12 0 80), none, none, some (vi v3), none] [] h r h' := by
  intro n
  induction n with
  | zero => intro v3 h x hx; cases hx
  | succ n ih =>
    intro v3 h x hx r h' hP
    replace hx : R_part_L18_b rc (R_part_L18 rc n) v3 h = some x := hx
    unfold R_part_L18_b at hx
    refine Ev.blk (pc' := 23) (lv' := [some (vr 12 0 80), none, none, some (vi v3), none]) (st' := [vi (ii (-1)), vi (h.1 80 11)]) (h' := h) 10 3 (Nat.le_of_ble_eq_true rfl) tk_R_part rfl rfl ⟨trivial, trivial, trivial, trivial⟩ ?_
    refine Ev.icmp_ne 13 69 tk_R_part rfl (by decide) (fun hc1 => ?_) (fun hc1 => ?_)
    · replace hx := ia hc1 hx
      refine Ev.blk (pc' := 70) (lv' := [some (vr 12 0 80), none, none, some (vi v3), none]) (st' := [vi v3]) (h' := h) 36 1 (Nat.le_of_ble_eq_true rfl) tk_R_part rfl rfl ⟨trivial, trivial⟩ ?_
      obtain ⟨hg2, hx⟩ := gd hx
      obtain rfl := Option.some.inj hx
      obtain ⟨rfl, rfl⟩ := hP
      exact Ev.zret 37 tk_R_part rfl rfl (nbool hg2)
    · replace hx := ip hc1 hx
      refine Ev.blk (pc' := 27) (lv' := [some (vr 12 0 80), none, none, some (vi v3), none]) (st' := [vr 12 0 80]) (h' := h) 14 1 (Nat.le_of_ble_eq_true rfl) tk_R_part rfl rfl ⟨trivial, trivial⟩ ?_
      obtain ⟨q1, hq3, hx⟩ := bd hx
      refine Ev.callV (ν := m_R_look) (av := []) (rest := []) (r1 := some (vi q1.1)) (h1 := q1.2) (ci := 12) (nn := 0) (o := 80) 15 0 tk_R_part rfl bb_R_look vv_R_look lk_12_144 (by show _ ≤ 48 + (d + 1); simp only [mv, m_R_look]; omega) rfl rfl (Or.inl rfl) (Nat.le_of_ble_eq_true rfl) (s_R_look Γ h _ hq3) ?_
      show Ev Γ (m_R_part (d + 1)) 30 [some (vr 12 0 80), none, none, some (vi v3), none] [vi q1.1] q1.2 r h'
      refine Ev.blk (pc' := 32) (lv' := [some (vr 12 0 80), none, none, some (vi v3), none]) (st' := [vi (ii 38), vi q1.1]) (h' := q1.2) 16 1 (Nat.le_of_ble_eq_true rfl) tk_R_part rfl rfl ⟨trivial, trivial⟩ ?_
      refine Ev.icmp_ne 17 69 tk_R_part rfl (by decide) (fun hc4 => ?_) (fun hc4 => ?_)
      · replace hx := ia hc4 hx
        refine Ev.blk (pc' := 70) (lv' := [some (vr 12 0 80), none, none, some (vi v3), none]) (st' := [vi v3]) (h' := q1.2) 36 1 (Nat.le_of_ble_eq_true rfl) tk_R_part rfl rfl ⟨trivial, trivial⟩ ?_
        obtain ⟨hg5, hx⟩ := gd hx
        obtain rfl := Option.some.inj hx
        obtain ⟨rfl, rfl⟩ := hP
        exact Ev.zret 37 tk_R_part rfl rfl (nbool hg5)
      · replace hx := ip hc4 hx
        refine Ev.blk (pc' := 46) (lv' := [some (vr 12 0 80), none, none, some (vi v3), none]) (st' := [vr 12 0 80]) (h' := (wI q1.2 80 10 ((q1.2.1 80 10) + (ii 1)))) 18 7 (Nat.le_of_ble_eq_true rfl) tk_R_part rfl rfl ⟨trivial, trivial, trivial, trivial, trivial, trivial, trivial, trivial⟩ ?_
        obtain ⟨q2, hq6, hx⟩ := bd hx
        refine Ev.callV (ν := (m_R_unit d)) (av := []) (rest := []) (r1 := some (vi q2.1)) (h1 := q2.2) (ci := 12) (nn := 0) (o := 80) 25 0 tk_R_part rfl (bb_R_unit _) (vv_R_unit _) lk_12_190 (Nat.le_refl _) rfl rfl (Or.inl rfl) (Nat.le_of_ble_eq_true rfl) (hrc2 0 0 (wI q1.2 80 10 ((q1.2.1 80 10) + (ii 1))) _ hq6) ?_
        show Ev Γ (m_R_part (d + 1)) 49 [some (vr 12 0 80), none, none, some (vi v3), none] [vi q2.1] q2.2 r h'
        refine Ev.blk (pc' := 52) (lv' := [some (vr 12 0 80), none, none, some (vi v3), some (vi q2.1)]) (st' := [vi v3]) (h' := q2.2) 26 2 (Nat.le_of_ble_eq_true rfl) tk_R_part rfl rfl ⟨trivial, trivial, trivial⟩ ?_
        have K7 : ∀ v7_0 : Int32, v7_0 = (if v3 = 0 then (ii 0) else (if q2.1 = 0 then (ii 0) else (ii 1))) → Ev Γ (m_R_part (d + 1)) 65 [some (vr 12 0 80), none, none, none, none] [vi v7_0] q2.2 r h' := by
          intro v7_0 e8
          subst e8
          refine Ev.blk (pc' := 18) (lv' := [some (vr 12 0 80), none, none, some (vi (if v3 = 0 then (ii 0) else (if q2.1 = 0 then (ii 0) else (ii 1)))), none]) (st' := []) (h' := q2.2) 34 2 (Nat.le_of_ble_eq_true rfl) tk_R_part rfl rfl ⟨trivial, trivial, trivial⟩ ?_
          exact Ev.msk [true, false, false, true, false] (ih (if v3 = 0 then (ii 0) else (if q2.1 = 0 then (ii 0) else (ii 1))) q2.2 _ hx r h' hP)
        refine Ev.if_eq 28 64 tk_R_part rfl (by decide) (fun hc9 => ?_) (fun hc9 => ?_)
        · refine Ev.blk (pc' := 65) (lv' := [some (vr 12 0 80), none, none, some (vi v3), some (vi q2.1)]) (st' := [vi (ii 0)]) (h' := q2.2) 33 1 (Nat.le_of_ble_eq_true rfl) tk_R_part rfl rfl ⟨trivial, trivial⟩ ?_
          exact Ev.msk [true, false, false, false, false] (K7 _ (by first | rfl | simp only [if_pos hc9]))
        · refine Ev.blk (pc' := 57) (lv' := [some (vr 12 0 80), none, none, some (vi v3), some (vi q2.1)]) (st' := [vi q2.1]) (h' := q2.2) 29 1 (Nat.le_of_ble_eq_true rfl) tk_R_part rfl rfl ⟨trivial, trivial⟩ ?_
          refine Ev.if_eq 30 64 tk_R_part rfl (by decide) (fun hc10 => ?_) (fun hc10 => ?_)
          · refine Ev.blk (pc' := 65) (lv' := [some (vr 12 0 80), none, none, some (vi v3), some (vi q2.1)]) (st' := [vi (ii 0)]) (h' := q2.2) 33 1 (Nat.le_of_ble_eq_true rfl) tk_R_part rfl rfl ⟨trivial, trivial⟩ ?_
            exact Ev.msk [true, false, false, false, false] (K7 _ (by first | rfl | simp only [if_neg hc9, if_pos hc10]))
          · refine Ev.blk (pc' := 65) (lv' := [some (vr 12 0 80), none, none, some (vi v3), some (vi q2.1)]) (st' := [vi (ii 1)]) (h' := q2.2) 31 2 (Nat.le_of_ble_eq_true rfl) tk_R_part rfl rfl ⟨trivial, trivial, trivial⟩ ?_
            exact Ev.msk [true, false, false, false, false] (K7 _ (by first | rfl | simp only [if_neg hc9, if_neg hc10]))
set_option maxRecDepth 4000 in
theorem u_R_part_ok (Γ : AG) (d : Nat) (rc : Nat → Int32 → Int32 → AH → Option (Int32 × AH)) (hrc0 : ∀ (b0 : Int32) (b1 : Int32) (h : AH) (x : Int32 × AH), rc 0 b0 b1 h = some x → MetA Γ (m_R_condition d) [vr 12 0 80, vi b0, vi b1] h (some (vi x.1)) x.2) (hrc1 : ∀ (b0 : Int32) (b1 : Int32) (h : AH) (x : Int32 × AH), rc 1 b0 b1 h = some x → MetA Γ (m_R_part d) [vr 12 0 80, vi b0, vi b1] h (some (vi x.1)) x.2) (hrc2 : ∀ (b0 : Int32) (b1 : Int32) (h : AH) (x : Int32 × AH), rc 2 b0 b1 h = some x → MetA Γ (m_R_unit d) [vr 12 0 80] h (some (vi x.1)) x.2) (a1 : Int32) (a2 : Int32) (h : AH) (x : Int32 × AH) (hx : u_R_part rc a1 a2 h = some x) : MetA Γ (m_R_part (d + 1)) [vr 12 0 80, vi a1, vi a2] h (some (vi x.1)) x.2 := by
  refine Ev.met rfl rfl (Nat.le_of_ble_eq_true rfl) ?_
  show Ev Γ (m_R_part (d + 1)) 0 [some (vr 12 0 80), some (vi a1), some (vi a2), none, none] [] h _ _
  obtain ⟨r, hr⟩ : ∃ r : Option AV, r = some (vi x.1) := ⟨_, rfl⟩
  obtain ⟨h', hh⟩ : ∃ h' : AH, h' = x.2 := ⟨_, rfl⟩
  have hP : r = some (vi x.1) ∧ h' = x.2 := ⟨hr, hh⟩
  suffices hS : Ev Γ (m_R_part (d + 1)) 0 [some (vr 12 0 80), some (vi a1), some (vi a2), none, none] [] h r h' by rw [hr, hh] at hS; exact hS
  clear hr hh
  unfold u_R_part at hx
  refine Ev.blk (pc' := 1) (lv' := [some (vr 12 0 80), some (vi a1), some (vi a2), none, none]) (st' := [vi a1]) (h' := h) 0 1 (Nat.le_of_ble_eq_true rfl) tk_R_part rfl rfl ⟨trivial, trivial⟩ ?_
  obtain ⟨q3, hq1, hx⟩ := bd hx
  have K2 : Ev Γ (m_R_part (d + 1)) 17 [some (vr 12 0 80), none, none, none, none] [vi q3.1] q3.2 r h' := by
    refine Ev.blk (pc' := 18) (lv' := [some (vr 12 0 80), none, none, some (vi q3.1), none]) (st' := []) (h' := q3.2) 9 1 (Nat.le_of_ble_eq_true rfl) tk_R_part rfl rfl ⟨trivial, trivial⟩ ?_
    refine Ev.msk [true, false, false, true, false] ?_
    show Ev Γ (m_R_part (d + 1)) 18 [some (vr 12 0 80), none, none, some (vi q3.1), none] [] q3.2 r h'
    exact l_R_part_L18 Γ d rc hrc0 hrc1 hrc2 FU q3.1 q3.2 _ hx r h' hP
  clear hx
  refine Ev.if_eq 1 13 tk_R_part rfl (by decide) (fun hc3 => ?_) (fun hc3 => ?_)
  · replace hq1 := ip hc3 hq1
    refine Ev.blk (pc' := 14) (lv' := [some (vr 12 0 80), some (vi a1), some (vi a2), none, none]) (st' := [vr 12 0 80]) (h' := h) 7 1 (Nat.le_of_ble_eq_true rfl) tk_R_part rfl rfl ⟨trivial, trivial⟩ ?_
    obtain ⟨q1, hq4, hq1⟩ := bd hq1
    refine Ev.callV (ν := (m_R_unit d)) (av := []) (rest := []) (r1 := some (vi q1.1)) (h1 := q1.2) (ci := 12) (nn := 0) (o := 80) 8 0 tk_R_part rfl (bb_R_unit _) (vv_R_unit _) lk_12_190 (Nat.le_refl _) rfl rfl (Or.inl rfl) (Nat.le_of_ble_eq_true rfl) (hrc2 0 0 h _ hq4) ?_
    show Ev Γ (m_R_part (d + 1)) 17 [some (vr 12 0 80), some (vi a1), some (vi a2), none, none] [vi q1.1] q1.2 r h'
    obtain rfl := Option.some.inj hq1
    exact Ev.msk [true, false, false, false, false] K2
  · replace hq1 := ia hc3 hq1
    refine Ev.blk (pc' := 7) (lv' := [some (vr 12 0 80), some (vi a1), some (vi a2), none, none]) (st' := [vi a2, vi (ii 1), vr 12 0 80]) (h' := h) 2 3 (Nat.le_of_ble_eq_true rfl) tk_R_part rfl rfl ⟨trivial, trivial, trivial, trivial⟩ ?_
    obtain ⟨q2, hq5, hq1⟩ := bd hq1
    refine Ev.callV (ν := m_R_compares) (av := [vi (ii 1), vi a2]) (rest := []) (r1 := some (vi q2.1)) (h1 := q2.2) (ci := 12) (nn := 0) (o := 80) 5 2 tk_R_part rfl bb_R_compares vv_R_compares lk_12_197 (by show _ ≤ 48 + (d + 1); simp only [mv, m_R_compares]; omega) rfl rfl (Or.inl rfl) (Nat.le_of_ble_eq_true rfl) (s_R_compares Γ (ii 1) a2 h _ hq5) ?_
    show Ev Γ (m_R_part (d + 1)) 10 [some (vr 12 0 80), some (vi a1), some (vi a2), none, none] [vi q2.1] q2.2 r h'
    refine Ev.blk (pc' := 17) (lv' := [some (vr 12 0 80), some (vi a1), some (vi a2), none, none]) (st' := [vi q2.1]) (h' := q2.2) 6 1 (Nat.le_of_ble_eq_true rfl) tk_R_part rfl rfl ⟨trivial, trivial⟩ ?_
    obtain rfl := Option.some.inj hq1
    exact Ev.msk [true, false, false, false, false] K2
set_option maxRecDepth 4000 in
theorem l_R_condition_L7 (Γ : AG) (d : Nat) (rc : Nat → Int32 → Int32 → AH → Option (Int32 × AH)) (hrc0 : ∀ (b0 : Int32) (b1 : Int32) (h : AH) (x : Int32 × AH), rc 0 b0 b1 h = some x → MetA Γ (m_R_condition d) [vr 12 0 80, vi b0, vi b1] h (some (vi x.1)) x.2) (hrc1 : ∀ (b0 : Int32) (b1 : Int32) (h : AH) (x : Int32 × AH), rc 1 b0 b1 h = some x → MetA Γ (m_R_part d) [vr 12 0 80, vi b0, vi b1] h (some (vi x.1)) x.2) (hrc2 : ∀ (b0 : Int32) (b1 : Int32) (h : AH) (x : Int32 × AH), rc 2 b0 b1 h = some x → MetA Γ (m_R_unit d) [vr 12 0 80] h (some (vi x.1)) x.2) : ∀ (n : Nat) (v3 : Int32) (h : AH) (x : Int32 × AH), R_condition_L7 rc n v3 h = some x → ∀ (r : Option AV) (h' : AH), r = some (vi x.1) ∧ h' = x.2 → Ev Γ (m_R_condition (d + 1)) 7 [some (vr 12 0 80), none, none, some (vi v3), none] [] h r h' := by
  intro n
  induction n with
  | zero => intro v3 h x hx; cases hx
  | succ n ih =>
    intro v3 h x hx r h' hP
    replace hx : R_condition_L7_b rc (R_condition_L7 rc n) v3 h = some x := hx
    unfold R_condition_L7_b at hx
    refine Ev.blk (pc' := 12) (lv' := [some (vr 12 0 80), none, none, some (vi v3), none]) (st' := [vi (ii (-1)), vi (h.1 80 11)]) (h' := h) 5 3 (Nat.le_of_ble_eq_true rfl) tk_R_condition rfl rfl ⟨trivial, trivial, trivial, trivial⟩ ?_
    refine Ev.icmp_ne 8 60 tk_R_condition rfl (by decide) (fun hc1 => ?_) (fun hc1 => ?_)
    · replace hx := ia hc1 hx
      refine Ev.blk (pc' := 61) (lv' := [some (vr 12 0 80), none, none, some (vi v3), none]) (st' := [vi v3]) (h' := h) 33 1 (Nat.le_of_ble_eq_true rfl) tk_R_condition rfl rfl ⟨trivial, trivial⟩ ?_
      obtain ⟨hg2, hx⟩ := gd hx
      obtain rfl := Option.some.inj hx
      obtain ⟨rfl, rfl⟩ := hP
      exact Ev.zret 34 tk_R_condition rfl rfl (nbool hg2)
    · replace hx := ip hc1 hx
      refine Ev.blk (pc' := 16) (lv' := [some (vr 12 0 80), none, none, some (vi v3), none]) (st' := [vr 12 0 80]) (h' := h) 9 1 (Nat.le_of_ble_eq_true rfl) tk_R_condition rfl rfl ⟨trivial, trivial⟩ ?_
      obtain ⟨q1, hq3, hx⟩ := bd hx
      refine Ev.callV (ν := m_R_look) (av := []) (rest := []) (r1 := some (vi q1.1)) (h1 := q1.2) (ci := 12) (nn := 0) (o := 80) 10 0 tk_R_condition rfl bb_R_look vv_R_look lk_12_144 (by show _ ≤ 48 + (d + 1); simp only [mv, m_R_look]; omega) rfl rfl (Or.inl rfl) (Nat.le_of_ble_eq_true rfl) (s_R_look Γ h _ hq3) ?_
      show Ev Γ (m_R_condition (d + 1)) 19 [some (vr 12 0 80), none, none, some (vi v3), none] [vi q1.1] q1.2 r h'
      refine Ev.blk (pc' := 21) (lv' := [some (vr 12 0 80), none, none, some (vi v3), none]) (st' := [vi (ii 124), vi q1.1]) (h' := q1.2) 11 1 (Nat.le_of_ble_eq_true rfl) tk_R_condition rfl rfl ⟨trivial, trivial⟩ ?_
      refine Ev.icmp_ne 12 60 tk_R_condition rfl (by decide) (fun hc4 => ?_) (fun hc4 => ?_)
      · replace hx := ia hc4 hx
        refine Ev.blk (pc' := 61) (lv' := [some (vr 12 0 80), none, none, some (vi v3), none]) (st' := [vi v3]) (h' := q1.2) 33 1 (Nat.le_of_ble_eq_true rfl) tk_R_condition rfl rfl ⟨trivial, trivial⟩ ?_
        obtain ⟨hg5, hx⟩ := gd hx
        obtain rfl := Option.some.inj hx
        obtain ⟨rfl, rfl⟩ := hP
        exact Ev.zret 34 tk_R_condition rfl rfl (nbool hg5)
      · replace hx := ip hc4 hx
        refine Ev.blk (pc' := 37) (lv' := [some (vr 12 0 80), none, none, some (vi v3), none]) (st' := [vi (ii 0), vi (ii 0), vr 12 0 80]) (h' := (wI q1.2 80 10 ((q1.2.1 80 10) + (ii 1)))) 13 9 (Nat.le_of_ble_eq_true rfl) tk_R_condition rfl rfl ⟨trivial, trivial, trivial, trivial, trivial, trivial, trivial, trivial, trivial, trivial⟩ ?_
        obtain ⟨q2, hq6, hx⟩ := bd hx
        refine Ev.callV (ν := (m_R_part d)) (av := [vi (ii 0), vi (ii 0)]) (rest := []) (r1 := some (vi q2.1)) (h1 := q2.2) (ci := 12) (nn := 0) (o := 80) 22 2 tk_R_condition rfl (bb_R_part _) (vv_R_part _) lk_12_200 (Nat.le_refl _) rfl rfl (Or.inl rfl) (Nat.le_of_ble_eq_true rfl) (hrc1 (ii 0) (ii 0) (wI q1.2 80 10 ((q1.2.1 80 10) + (ii 1))) _ hq6) ?_
        show Ev Γ (m_R_condition (d + 1)) 40 [some (vr 12 0 80), none, none, some (vi v3), none] [vi q2.1] q2.2 r h'
        refine Ev.blk (pc' := 43) (lv' := [some (vr 12 0 80), none, none, some (vi v3), some (vi q2.1)]) (st' := [vi v3]) (h' := q2.2) 23 2 (Nat.le_of_ble_eq_true rfl) tk_R_condition rfl rfl ⟨trivial, trivial, trivial⟩ ?_
        have K7 : ∀ v7_0 : Int32, v7_0 = (if v3 = 0 then (if q2.1 = 0 then (ii 0) else (ii 1)) else (ii 1)) → Ev Γ (m_R_condition (d + 1)) 56 [some (vr 12 0 80), none, none, none, none] [vi v7_0] q2.2 r h' := by
          intro v7_0 e8
          subst e8
          refine Ev.blk (pc' := 7) (lv' := [some (vr 12 0 80), none, none, some (vi (if v3 = 0 then (if q2.1 = 0 then (ii 0) else (ii 1)) else (ii 1))), none]) (st' := []) (h' := q2.2) 31 2 (Nat.le_of_ble_eq_true rfl) tk_R_condition rfl rfl ⟨trivial, trivial, trivial⟩ ?_
          exact Ev.msk [true, false, false, true, false] (ih (if v3 = 0 then (if q2.1 = 0 then (ii 0) else (ii 1)) else (ii 1)) q2.2 _ hx r h' hP)
        refine Ev.if_ne 25 51 tk_R_condition rfl (by decide) (fun hc9 => ?_) (fun hc9 => ?_)
        · refine Ev.blk (pc' := 56) (lv' := [some (vr 12 0 80), none, none, some (vi v3), some (vi q2.1)]) (st' := [vi (ii 1)]) (h' := q2.2) 28 2 (Nat.le_of_ble_eq_true rfl) tk_R_condition rfl rfl ⟨trivial, trivial, trivial⟩ ?_
          exact Ev.msk [true, false, false, false, false] (K7 _ (by first | rfl | simp only [if_neg hc9]))
        · refine Ev.blk (pc' := 48) (lv' := [some (vr 12 0 80), none, none, some (vi v3), some (vi q2.1)]) (st' := [vi q2.1]) (h' := q2.2) 26 1 (Nat.le_of_ble_eq_true rfl) tk_R_condition rfl rfl ⟨trivial, trivial⟩ ?_
          refine Ev.if_eq 27 55 tk_R_condition rfl (by decide) (fun hc10 => ?_) (fun hc10 => ?_)
          · refine Ev.blk (pc' := 56) (lv' := [some (vr 12 0 80), none, none, some (vi v3), some (vi q2.1)]) (st' := [vi (ii 0)]) (h' := q2.2) 30 1 (Nat.le_of_ble_eq_true rfl) tk_R_condition rfl rfl ⟨trivial, trivial⟩ ?_
            exact Ev.msk [true, false, false, false, false] (K7 _ (by first | rfl | simp only [if_pos hc9, if_pos hc10]))
          · refine Ev.blk (pc' := 56) (lv' := [some (vr 12 0 80), none, none, some (vi v3), some (vi q2.1)]) (st' := [vi (ii 1)]) (h' := q2.2) 28 2 (Nat.le_of_ble_eq_true rfl) tk_R_condition rfl rfl ⟨trivial, trivial, trivial⟩ ?_
            exact Ev.msk [true, false, false, false, false] (K7 _ (by first | rfl | simp only [if_pos hc9, if_neg hc10]))
set_option maxRecDepth 4000 in
theorem u_R_condition_ok (Γ : AG) (d : Nat) (rc : Nat → Int32 → Int32 → AH → Option (Int32 × AH)) (hrc0 : ∀ (b0 : Int32) (b1 : Int32) (h : AH) (x : Int32 × AH), rc 0 b0 b1 h = some x → MetA Γ (m_R_condition d) [vr 12 0 80, vi b0, vi b1] h (some (vi x.1)) x.2) (hrc1 : ∀ (b0 : Int32) (b1 : Int32) (h : AH) (x : Int32 × AH), rc 1 b0 b1 h = some x → MetA Γ (m_R_part d) [vr 12 0 80, vi b0, vi b1] h (some (vi x.1)) x.2) (hrc2 : ∀ (b0 : Int32) (b1 : Int32) (h : AH) (x : Int32 × AH), rc 2 b0 b1 h = some x → MetA Γ (m_R_unit d) [vr 12 0 80] h (some (vi x.1)) x.2) (a1 : Int32) (a2 : Int32) (h : AH) (x : Int32 × AH) (hx : u_R_condition rc a1 a2 h = some x) : MetA Γ (m_R_condition (d + 1)) [vr 12 0 80, vi a1, vi a2] h (some (vi x.1)) x.2 := by
  refine Ev.met rfl rfl (Nat.le_of_ble_eq_true rfl) ?_
  show Ev Γ (m_R_condition (d + 1)) 0 [some (vr 12 0 80), some (vi a1), some (vi a2), none, none] [] h _ _
  obtain ⟨r, hr⟩ : ∃ r : Option AV, r = some (vi x.1) := ⟨_, rfl⟩
  obtain ⟨h', hh⟩ : ∃ h' : AH, h' = x.2 := ⟨_, rfl⟩
  have hP : r = some (vi x.1) ∧ h' = x.2 := ⟨hr, hh⟩
  suffices hS : Ev Γ (m_R_condition (d + 1)) 0 [some (vr 12 0 80), some (vi a1), some (vi a2), none, none] [] h r h' by rw [hr, hh] at hS; exact hS
  clear hr hh
  unfold u_R_condition at hx
  refine Ev.blk (pc' := 3) (lv' := [some (vr 12 0 80), some (vi a1), some (vi a2), none, none]) (st' := [vi a2, vi a1, vr 12 0 80]) (h' := h) 0 3 (Nat.le_of_ble_eq_true rfl) tk_R_condition rfl rfl ⟨trivial, trivial, trivial, trivial⟩ ?_
  obtain ⟨q1, hq1, hx⟩ := bd hx
  refine Ev.callV (ν := (m_R_part d)) (av := [vi a1, vi a2]) (rest := []) (r1 := some (vi q1.1)) (h1 := q1.2) (ci := 12) (nn := 0) (o := 80) 3 2 tk_R_condition rfl (bb_R_part _) (vv_R_part _) lk_12_200 (Nat.le_refl _) rfl rfl (Or.inl rfl) (Nat.le_of_ble_eq_true rfl) (hrc1 a1 a2 h _ hq1) ?_
  show Ev Γ (m_R_condition (d + 1)) 6 [some (vr 12 0 80), some (vi a1), some (vi a2), none, none] [vi q1.1] q1.2 r h'
  refine Ev.blk (pc' := 7) (lv' := [some (vr 12 0 80), some (vi a1), some (vi a2), some (vi q1.1), none]) (st' := []) (h' := q1.2) 4 1 (Nat.le_of_ble_eq_true rfl) tk_R_condition rfl rfl ⟨trivial, trivial⟩ ?_
  refine Ev.msk [true, false, false, true, false] ?_
  show Ev Γ (m_R_condition (d + 1)) 7 [some (vr 12 0 80), none, none, some (vi q1.1), none] [] q1.2 r h'
  exact l_R_condition_L7 Γ d rc hrc0 hrc1 hrc2 FU q1.1 q1.2 _ hx r h' hP
theorem gg3 (Γ : AG) : ∀ d : Nat, (∀ (b0 : Int32) (b1 : Int32) (h : AH) (x : Int32 × AH), g3 d 0 b0 b1 h = some x → MetA Γ (m_R_condition d) [vr 12 0 80, vi b0, vi b1] h (some (vi x.1)) x.2) ∧ (∀ (b0 : Int32) (b1 : Int32) (h : AH) (x : Int32 × AH), g3 d 1 b0 b1 h = some x → MetA Γ (m_R_part d) [vr 12 0 80, vi b0, vi b1] h (some (vi x.1)) x.2) ∧ (∀ (b0 : Int32) (b1 : Int32) (h : AH) (x : Int32 × AH), g3 d 2 b0 b1 h = some x → MetA Γ (m_R_unit d) [vr 12 0 80] h (some (vi x.1)) x.2) := by
  intro d
  induction d with
  | zero => exact ⟨fun b0 b1 h x hx => (by cases hx), fun b0 b1 h x hx => (by cases hx), fun b0 b1 h x hx => (by cases hx)⟩
  | succ d ih =>
    obtain ⟨i0, i1, i2⟩ := ih
    exact ⟨fun b0 b1 h x hx => u_R_condition_ok Γ d (g3 d) i0 i1 i2 b0 b1 h x hx, fun b0 b1 h x hx => u_R_part_ok Γ d (g3 d) i0 i1 i2 b0 b1 h x hx, fun b0 b1 h x hx => u_R_unit_ok Γ d (g3 d) i0 i1 i2 b0 b1 h x hx⟩
theorem t_R_condition (Γ : AG) (d : Nat) (b0 : Int32) (b1 : Int32) (h : AH) (x : Int32 × AH) (hx : g3 d 0 b0 b1 h = some x) : MetA Γ (m_R_condition d) [vr 12 0 80, vi b0, vi b1] h (some (vi x.1)) x.2 := (gg3 Γ d).1 b0 b1 h x hx
theorem t_R_part (Γ : AG) (d : Nat) (b0 : Int32) (b1 : Int32) (h : AH) (x : Int32 × AH) (hx : g3 d 1 b0 b1 h = some x) : MetA Γ (m_R_part d) [vr 12 0 80, vi b0, vi b1] h (some (vi x.1)) x.2 := (gg3 Γ d).2.1 b0 b1 h x hx
theorem t_R_unit (Γ : AG) (d : Nat) (b0 : Int32) (b1 : Int32) (h : AH) (x : Int32 × AH) (hx : g3 d 2 b0 b1 h = some x) : MetA Γ (m_R_unit d) [vr 12 0 80] h (some (vi x.1)) x.2 := (gg3 Γ d).2.2 b0 b1 h x hx
set_option maxRecDepth 4000 in
theorem s_R_clause (Γ : AG) (h : AH) (x : AH) (hx : f_R_clause  h = some x) : MetA Γ m_R_clause [vr 12 0 80] h (none) x := by
  refine Ev.met rfl rfl (Nat.le_of_ble_eq_true rfl) ?_
  show Ev Γ m_R_clause 0 [some (vr 12 0 80), none, none, none, none] [] h _ _
  obtain ⟨r, hr⟩ : ∃ r : Option AV, r = none := ⟨_, rfl⟩
  obtain ⟨h', hh⟩ : ∃ h' : AH, h' = x := ⟨_, rfl⟩
  have hP : r = none ∧ h' = x := ⟨hr, hh⟩
  suffices hS : Ev Γ m_R_clause 0 [some (vr 12 0 80), none, none, none, none] [] h r h' by rw [hr, hh] at hS; exact hS
  clear hr hh
  unfold f_R_clause at hx
  refine Ev.blk (pc' := 1) (lv' := [some (vr 12 0 80), none, none, none, none]) (st' := [vr 12 0 80]) (h' := h) 0 1 (Nat.le_of_ble_eq_true rfl) tk_R_clause rfl rfl ⟨trivial, trivial⟩ ?_
  obtain ⟨q1, hq1, hx⟩ := bd hx
  refine Ev.callV (ν := m_R_look) (av := []) (rest := []) (r1 := some (vi q1.1)) (h1 := q1.2) (ci := 12) (nn := 0) (o := 80) 1 0 tk_R_clause rfl bb_R_look vv_R_look lk_12_144 (by decide) rfl rfl (Or.inl rfl) (Nat.le_of_ble_eq_true rfl) (s_R_look Γ h _ hq1) ?_
  show Ev Γ m_R_clause 4 [some (vr 12 0 80), none, none, none, none] [vi q1.1] q1.2 r h'
  refine Ev.blk (pc' := 8) (lv' := [some (vr 12 0 80), some (vi q1.1), none, none, none]) (st' := [vi q1.1, vr 31 0 9]) (h' := q1.2) 2 3 (Nat.le_of_ble_eq_true rfl) tk_R_clause rfl rfl ⟨trivial, trivial, trivial, trivial⟩ ?_
  obtain ⟨q2, hq2, hx⟩ := bd hx
  refine Ev.callS (ν := m_R_isAmong) (av := [vr 31 0 9, vi q1.1]) (rest := []) (r1 := some (vi q2)) (h1 := q1.2) 5 2 tk_R_clause rfl bb_R_isAmong vv_R_isAmong lk_12_160 (by decide) rfl rfl (Nat.le_of_ble_eq_true rfl) (s_R_isAmong Γ 9 q1.1 q1.2 _ hq2) ?_
  show Ev Γ m_R_clause 11 [some (vr 12 0 80), some (vi q1.1), none, none, none] [vi q2] q1.2 r h'
  refine Ev.if_ne 6 20 tk_R_clause rfl (by decide) (fun hc3 => ?_) (fun hc3 => ?_)
  · replace hx := ia hc3 hx
    refine Ev.blk (pc' := 33) (lv' := [some (vr 12 0 80), some (vi q1.1), none, none, none]) (st' := [vi (ii 58), vr 12 0 80]) (h' := (wI q1.2 80 10 ((q1.2.1 80 10) + (ii 1)))) 11 8 (Nat.le_of_ble_eq_true rfl) tk_R_clause rfl rfl ⟨trivial, trivial, trivial, trivial, trivial, trivial, trivial, trivial, trivial⟩ ?_
    obtain ⟨q3, hq4, hx⟩ := bd hx
    refine Ev.callV (ν := m_R_takes) (av := [vi (ii 58)]) (rest := []) (r1 := some (vi q3.1)) (h1 := q3.2) (ci := 12) (nn := 0) (o := 80) 19 1 tk_R_clause rfl bb_R_takes vv_R_takes lk_12_170 (by decide) rfl rfl (Or.inl rfl) (Nat.le_of_ble_eq_true rfl) (s_R_takes Γ (ii 58) (wI q1.2 80 10 ((q1.2.1 80 10) + (ii 1))) _ hq4) ?_
    show Ev Γ m_R_clause 36 [some (vr 12 0 80), some (vi q1.1), none, none, none] [vi q3.1] q3.2 r h'
    refine Ev.if_ne 20 40 tk_R_clause rfl (by decide) (fun hc5 => ?_) (fun hc5 => ?_)
    · replace hx := ia hc5 hx
      refine Ev.blk (pc' := 45) (lv' := [some (vr 12 0 80), some (vi q1.1), some (vi (ii 1)), some (vi (ii 0)), none]) (st' := [vr 12 0 80]) (h' := q3.2) 22 5 (Nat.le_of_ble_eq_true rfl) tk_R_clause rfl rfl ⟨trivial, trivial, trivial, trivial, trivial, trivial⟩ ?_
      obtain ⟨q4, hq6, hx⟩ := bd hx
      refine Ev.callV (ν := m_R_look) (av := []) (rest := []) (r1 := some (vi q4.1)) (h1 := q4.2) (ci := 12) (nn := 0) (o := 80) 27 0 tk_R_clause rfl bb_R_look vv_R_look lk_12_144 (by decide) rfl rfl (Or.inl rfl) (Nat.le_of_ble_eq_true rfl) (s_R_look Γ q3.2 _ hq6) ?_
      show Ev Γ m_R_clause 48 [some (vr 12 0 80), some (vi q1.1), some (vi (ii 1)), some (vi (ii 0)), none] [vi q4.1] q4.2 r h'
      refine Ev.blk (pc' := 54) (lv' := [some (vr 12 0 80), some (vi q1.1), some (vi (ii 1)), some (vi (ii 0)), some (vi q4.1)]) (st' := [vi (ii 33), vi q4.1]) (h' := q4.2) 28 3 (Nat.le_of_ble_eq_true rfl) tk_R_clause rfl rfl ⟨trivial, trivial, trivial, trivial⟩ ?_
      refine Ev.icmp_eq 31 64 tk_R_clause rfl (by decide) (fun hc7 => ?_) (fun hc7 => ?_)
      · replace hx := ip hc7 hx
        refine Ev.blk (pc' := 67) (lv' := [some (vr 12 0 80), some (vi q1.1), some (vi (ii 1)), some (vi (ii 0)), some (vi q4.1)]) (st' := [vi (ii 0), vi (ii 0), vr 12 0 80]) (h' := q4.2) 35 3 (Nat.le_of_ble_eq_true rfl) tk_R_clause rfl rfl ⟨trivial, trivial, trivial, trivial⟩ ?_
        obtain ⟨q5, hq8, hx⟩ := bd hx
        refine Ev.callV (ν := (m_R_condition 40)) (av := [vi (ii 0), vi (ii 0)]) (rest := []) (r1 := some (vi q5.1)) (h1 := q5.2) (ci := 12) (nn := 0) (o := 80) 38 2 tk_R_clause rfl (bb_R_condition _) (vv_R_condition _) lk_12_193 (by decide) rfl rfl (Or.inl rfl) (Nat.le_of_ble_eq_true rfl) (t_R_condition Γ 40 (ii 0) (ii 0) q4.2 _ hq8) ?_
        show Ev Γ m_R_clause 70 [some (vr 12 0 80), some (vi q1.1), some (vi (ii 1)), some (vi (ii 0)), some (vi q4.1)] [vi q5.1] q5.2 r h'
        refine Ev.blk (pc' := 74) (lv' := [some (vr 12 0 80), some (vi q1.1), some (vi q5.1), some (vi (ii 0)), some (vi q4.1)]) (st' := [vi (ii 63), vr 12 0 80]) (h' := q5.2) 39 3 (Nat.le_of_ble_eq_true rfl) tk_R_clause rfl rfl ⟨trivial, trivial, trivial, trivial⟩ ?_
        obtain ⟨q6, hq9, hx⟩ := bd hx
        refine Ev.callV (ν := m_R_takes) (av := [vi (ii 63)]) (rest := []) (r1 := some (vi q6.1)) (h1 := q6.2) (ci := 12) (nn := 0) (o := 80) 42 1 tk_R_clause rfl bb_R_takes vv_R_takes lk_12_170 (by decide) rfl rfl (Or.inl rfl) (Nat.le_of_ble_eq_true rfl) (s_R_takes Γ (ii 63) q5.2 _ hq9) ?_
        show Ev Γ m_R_clause 77 [some (vr 12 0 80), some (vi q1.1), some (vi q5.1), some (vi (ii 0)), some (vi q4.1)] [vi q6.1] q6.2 r h'
        refine Ev.if_ne 43 81 tk_R_clause rfl (by decide) (fun hc10 => ?_) (fun hc10 => ?_)
        · replace hx := ia hc10 hx
          refine Ev.blk (pc' := 82) (lv' := [some (vr 12 0 80), some (vi q1.1), some (vi q5.1), some (vi (ii 0)), some (vi q4.1)]) (st' := [vr 12 0 80]) (h' := q6.2) 45 1 (Nat.le_of_ble_eq_true rfl) tk_R_clause rfl rfl ⟨trivial, trivial⟩ ?_
          obtain ⟨q7, hq11, hx⟩ := bd hx
          refine Ev.callV (ν := (m_R_sum 40)) (av := []) (rest := []) (r1 := some (vi q7.1)) (h1 := q7.2) (ci := 12) (nn := 0) (o := 80) 46 0 tk_R_clause rfl (bb_R_sum _) (vv_R_sum _) lk_12_167 (by decide) rfl rfl (Or.inl rfl) (Nat.le_of_ble_eq_true rfl) (t_R_sum Γ 40 q6.2 _ hq11) ?_
          show Ev Γ m_R_clause 85 [some (vr 12 0 80), some (vi q1.1), some (vi q5.1), some (vi (ii 0)), some (vi q4.1)] [vi q7.1] q7.2 r h'
          refine Ev.blk (pc' := 134) (lv' := [some (vr 12 0 80), some (vi q1.1), some (vi q5.1), some (vi q7.1), some (vi q4.1)]) (st' := []) (h' := q7.2) 47 2 (Nat.le_of_ble_eq_true rfl) tk_R_clause rfl rfl ⟨trivial, trivial, trivial⟩ ?_
          refine Ev.blk (pc' := 139) (lv' := [some (vr 12 0 80), some (vi q1.1), some (vi q5.1), some (vi q7.1), some (vi q4.1)]) (st' := [vi (ii (-1)), vi (q7.2.1 80 11)]) (h' := q7.2) 73 3 (Nat.le_of_ble_eq_true rfl) tk_R_clause rfl rfl ⟨trivial, trivial, trivial, trivial⟩ ?_
          refine Ev.icmp_ne 76 161 tk_R_clause rfl (by decide) (fun hc12 => ?_) (fun hc12 => ?_)
          · replace hx := ia hc12 hx
            obtain rfl := Option.some.inj hx
            obtain ⟨rfl, rfl⟩ := hP
            exact Ev.vret 86 tk_R_clause rfl rfl
          · replace hx := ip hc12 hx
            refine Ev.blk (pc' := 146) (lv' := [some (vr 12 0 80), some (vi q1.1), some (vi q5.1), some (vi q7.1), some (vi q4.1)]) (st' := [vi (q7.2.1 80 17)]) (h' := q7.2) 77 2 (Nat.le_of_ble_eq_true rfl) tk_R_clause rfl rfl ⟨trivial, trivial, trivial⟩ ?_
            refine Ev.if_ne 79 161 tk_R_clause rfl (by decide) (fun hc13 => ?_) (fun hc13 => ?_)
            · replace hx := ia hc13 hx
              obtain rfl := Option.some.inj hx
              obtain ⟨rfl, rfl⟩ := hP
              exact Ev.vret 86 tk_R_clause rfl rfl
            · replace hx := ip hc13 hx
              refine Ev.blk (pc' := 154) (lv' := [some (vr 12 0 80), some (vi q1.1), some (vi q5.1), some (vi q7.1), some (vi q4.1)]) (st' := [vi (q7.2.1 80 13), vi q1.1]) (h' := q7.2) 80 3 (Nat.le_of_ble_eq_true rfl) tk_R_clause rfl rfl ⟨trivial, trivial, trivial, trivial⟩ ?_
              refine Ev.icmp_ne 83 161 tk_R_clause rfl (by decide) (fun hc14 => ?_) (fun hc14 => ?_)
              · replace hx := ia hc14 hx
                obtain rfl := Option.some.inj hx
                obtain ⟨rfl, rfl⟩ := hP
                exact Ev.vret 86 tk_R_clause rfl rfl
              · replace hx := ip hc14 hx
                refine Ev.blk (pc' := 158) (lv' := [some (vr 12 0 80), some (vi q1.1), some (vi q5.1), some (vi q7.1), some (vi q4.1)]) (st' := [vi q5.1]) (h' := q7.2) 84 1 (Nat.le_of_ble_eq_true rfl) tk_R_clause rfl rfl ⟨trivial, trivial⟩ ?_
                refine Ev.if_ne 85 162 tk_R_clause rfl (by decide) (fun hc15 => ?_) (fun hc15 => ?_)
                · replace hx := ia hc15 hx
                  refine Ev.blk (pc' := 172) (lv' := [some (vr 12 0 80), some (vi q1.1), some (vi q5.1), some (vi q7.1), some (vi q4.1)]) (st' := []) (h' := (wI (wI q7.2 80 17 (ii 1)) 80 14 q7.1)) 87 6 (Nat.le_of_ble_eq_true rfl) tk_R_clause rfl rfl ⟨trivial, trivial, (by decide), trivial, trivial, trivial, trivial⟩ ?_
                  obtain rfl := Option.some.inj hx
                  obtain ⟨rfl, rfl⟩ := hP
                  exact Ev.vret 93 tk_R_clause rfl rfl
                · replace hx := ip hc15 hx
                  obtain rfl := Option.some.inj hx
                  obtain ⟨rfl, rfl⟩ := hP
                  exact Ev.vret 86 tk_R_clause rfl rfl
        · replace hx := ip hc10 hx
          obtain rfl := Option.some.inj hx
          obtain ⟨rfl, rfl⟩ := hP
          exact Ev.vret 44 tk_R_clause rfl rfl
      · replace hx := ia hc7 hx
        refine Ev.blk (pc' := 61) (lv' := [some (vr 12 0 80), some (vi q1.1), some (vi (ii 1)), some (vi (ii 0)), some (vi q4.1)]) (st' := [vi (ii 40), vi q4.1]) (h' := q4.2) 32 2 (Nat.le_of_ble_eq_true rfl) tk_R_clause rfl rfl ⟨trivial, trivial, trivial⟩ ?_
        refine Ev.icmp_ne 34 89 tk_R_clause rfl (by decide) (fun hc16 => ?_) (fun hc16 => ?_)
        · replace hx := ia hc16 hx
          refine Ev.blk (pc' := 90) (lv' := [some (vr 12 0 80), some (vi q1.1), some (vi (ii 1)), some (vi (ii 0)), some (vi q4.1)]) (st' := [vr 12 0 80]) (h' := q4.2) 49 1 (Nat.le_of_ble_eq_true rfl) tk_R_clause rfl rfl ⟨trivial, trivial⟩ ?_
          obtain ⟨q8, hq17, hx⟩ := bd hx
          refine Ev.callV (ν := (m_R_sum 40)) (av := []) (rest := []) (r1 := some (vi q8.1)) (h1 := q8.2) (ci := 12) (nn := 0) (o := 80) 50 0 tk_R_clause rfl (bb_R_sum _) (vv_R_sum _) lk_12_167 (by decide) rfl rfl (Or.inl rfl) (Nat.le_of_ble_eq_true rfl) (t_R_sum Γ 40 q4.2 _ hq17) ?_
          show Ev Γ m_R_clause 93 [some (vr 12 0 80), some (vi q1.1), some (vi (ii 1)), some (vi (ii 0)), some (vi q4.1)] [vi q8.1] q8.2 r h'
          refine Ev.blk (pc' := 99) (lv' := [some (vr 12 0 80), some (vi q1.1), some (vi (ii 1)), some (vi q8.1), some (vi q4.1)]) (st' := [vi (ii (-1)), vi (q8.2.1 80 11)]) (h' := q8.2) 51 4 (Nat.le_of_ble_eq_true rfl) tk_R_clause rfl rfl ⟨trivial, trivial, trivial, trivial, trivial⟩ ?_
          refine Ev.icmp_ne 55 134 tk_R_clause rfl (by decide) (fun hc18 => ?_) (fun hc18 => ?_)
          · replace hx := ia hc18 hx
            refine Ev.blk (pc' := 139) (lv' := [some (vr 12 0 80), some (vi q1.1), some (vi (ii 1)), some (vi q8.1), some (vi q4.1)]) (st' := [vi (ii (-1)), vi (q8.2.1 80 11)]) (h' := q8.2) 73 3 (Nat.le_of_ble_eq_true rfl) tk_R_clause rfl rfl ⟨trivial, trivial, trivial, trivial⟩ ?_
            refine Ev.icmp_ne 76 161 tk_R_clause rfl (by decide) (fun hc19 => ?_) (fun hc19 => ?_)
            · replace hx := ia hc19 hx
              obtain rfl := Option.some.inj hx
              obtain ⟨rfl, rfl⟩ := hP
              exact Ev.vret 86 tk_R_clause rfl rfl
            · replace hx := ip hc19 hx
              refine Ev.blk (pc' := 146) (lv' := [some (vr 12 0 80), some (vi q1.1), some (vi (ii 1)), some (vi q8.1), some (vi q4.1)]) (st' := [vi (q8.2.1 80 17)]) (h' := q8.2) 77 2 (Nat.le_of_ble_eq_true rfl) tk_R_clause rfl rfl ⟨trivial, trivial, trivial⟩ ?_
              refine Ev.if_ne 79 161 tk_R_clause rfl (by decide) (fun hc20 => ?_) (fun hc20 => ?_)
              · replace hx := ia hc20 hx
                obtain rfl := Option.some.inj hx
                obtain ⟨rfl, rfl⟩ := hP
                exact Ev.vret 86 tk_R_clause rfl rfl
              · replace hx := ip hc20 hx
                refine Ev.blk (pc' := 154) (lv' := [some (vr 12 0 80), some (vi q1.1), some (vi (ii 1)), some (vi q8.1), some (vi q4.1)]) (st' := [vi (q8.2.1 80 13), vi q1.1]) (h' := q8.2) 80 3 (Nat.le_of_ble_eq_true rfl) tk_R_clause rfl rfl ⟨trivial, trivial, trivial, trivial⟩ ?_
                refine Ev.icmp_ne 83 161 tk_R_clause rfl (by decide) (fun hc21 => ?_) (fun hc21 => ?_)
                · replace hx := ia hc21 hx
                  obtain rfl := Option.some.inj hx
                  obtain ⟨rfl, rfl⟩ := hP
                  exact Ev.vret 86 tk_R_clause rfl rfl
                · replace hx := ip hc21 hx
                  refine Ev.blk (pc' := 158) (lv' := [some (vr 12 0 80), some (vi q1.1), some (vi (ii 1)), some (vi q8.1), some (vi q4.1)]) (st' := [vi (ii 1)]) (h' := q8.2) 84 1 (Nat.le_of_ble_eq_true rfl) tk_R_clause rfl rfl ⟨trivial, trivial⟩ ?_
                  refine Ev.if_ne 85 162 tk_R_clause rfl (by decide) (fun _ => ?_) (fun hc => absurd hc (by decide))
                  refine Ev.blk (pc' := 172) (lv' := [some (vr 12 0 80), some (vi q1.1), some (vi (ii 1)), some (vi q8.1), some (vi q4.1)]) (st' := []) (h' := (wI (wI q8.2 80 17 (ii 1)) 80 14 q8.1)) 87 6 (Nat.le_of_ble_eq_true rfl) tk_R_clause rfl rfl ⟨trivial, trivial, (by decide), trivial, trivial, trivial, trivial⟩ ?_
                  obtain rfl := Option.some.inj hx
                  obtain ⟨rfl, rfl⟩ := hP
                  exact Ev.vret 93 tk_R_clause rfl rfl
          · replace hx := ip hc18 hx
            refine Ev.blk (pc' := 103) (lv' := [some (vr 12 0 80), some (vi q1.1), some (vi (ii 1)), some (vi q8.1), some (vi q4.1)]) (st' := [vr 12 0 80]) (h' := q8.2) 56 1 (Nat.le_of_ble_eq_true rfl) tk_R_clause rfl rfl ⟨trivial, trivial⟩ ?_
            obtain ⟨q9, hq22, hx⟩ := bd hx
            refine Ev.callV (ν := m_R_look) (av := []) (rest := []) (r1 := some (vi q9.1)) (h1 := q9.2) (ci := 12) (nn := 0) (o := 80) 57 0 tk_R_clause rfl bb_R_look vv_R_look lk_12_144 (by decide) rfl rfl (Or.inl rfl) (Nat.le_of_ble_eq_true rfl) (s_R_look Γ q8.2 _ hq22) ?_
            show Ev Γ m_R_clause 106 [some (vr 12 0 80), some (vi q1.1), some (vi (ii 1)), some (vi q8.1), some (vi q4.1)] [vi q9.1] q9.2 r h'
            refine Ev.callS (ν := m_R_isSign) (av := [vi q9.1]) (rest := []) (r1 := some (vi (p_R_isSign q9.1))) (h1 := q9.2) 58 1 tk_R_clause rfl bb_R_isSign vv_R_isSign lk_12_187 (by decide) rfl rfl (Nat.le_of_ble_eq_true rfl) (s_R_isSign Γ q9.1 q9.2) ?_
            show Ev Γ m_R_clause 109 [some (vr 12 0 80), some (vi q1.1), some (vi (ii 1)), some (vi q8.1), some (vi q4.1)] [vi (p_R_isSign q9.1)] q9.2 r h'
            refine Ev.if_eq 59 134 tk_R_clause rfl (by decide) (fun hc23 => ?_) (fun hc23 => ?_)
            · replace hx := ip hc23 hx
              refine Ev.blk (pc' := 139) (lv' := [some (vr 12 0 80), some (vi q1.1), some (vi (ii 1)), some (vi q8.1), some (vi q4.1)]) (st' := [vi (ii (-1)), vi (q9.2.1 80 11)]) (h' := q9.2) 73 3 (Nat.le_of_ble_eq_true rfl) tk_R_clause rfl rfl ⟨trivial, trivial, trivial, trivial⟩ ?_
              refine Ev.icmp_ne 76 161 tk_R_clause rfl (by decide) (fun hc24 => ?_) (fun hc24 => ?_)
              · replace hx := ia hc24 hx
                obtain rfl := Option.some.inj hx
                obtain ⟨rfl, rfl⟩ := hP
                exact Ev.vret 86 tk_R_clause rfl rfl
              · replace hx := ip hc24 hx
                refine Ev.blk (pc' := 146) (lv' := [some (vr 12 0 80), some (vi q1.1), some (vi (ii 1)), some (vi q8.1), some (vi q4.1)]) (st' := [vi (q9.2.1 80 17)]) (h' := q9.2) 77 2 (Nat.le_of_ble_eq_true rfl) tk_R_clause rfl rfl ⟨trivial, trivial, trivial⟩ ?_
                refine Ev.if_ne 79 161 tk_R_clause rfl (by decide) (fun hc25 => ?_) (fun hc25 => ?_)
                · replace hx := ia hc25 hx
                  obtain rfl := Option.some.inj hx
                  obtain ⟨rfl, rfl⟩ := hP
                  exact Ev.vret 86 tk_R_clause rfl rfl
                · replace hx := ip hc25 hx
                  refine Ev.blk (pc' := 154) (lv' := [some (vr 12 0 80), some (vi q1.1), some (vi (ii 1)), some (vi q8.1), some (vi q4.1)]) (st' := [vi (q9.2.1 80 13), vi q1.1]) (h' := q9.2) 80 3 (Nat.le_of_ble_eq_true rfl) tk_R_clause rfl rfl ⟨trivial, trivial, trivial, trivial⟩ ?_
                  refine Ev.icmp_ne 83 161 tk_R_clause rfl (by decide) (fun hc26 => ?_) (fun hc26 => ?_)
                  · replace hx := ia hc26 hx
                    obtain rfl := Option.some.inj hx
                    obtain ⟨rfl, rfl⟩ := hP
                    exact Ev.vret 86 tk_R_clause rfl rfl
                  · replace hx := ip hc26 hx
                    refine Ev.blk (pc' := 158) (lv' := [some (vr 12 0 80), some (vi q1.1), some (vi (ii 1)), some (vi q8.1), some (vi q4.1)]) (st' := [vi (ii 1)]) (h' := q9.2) 84 1 (Nat.le_of_ble_eq_true rfl) tk_R_clause rfl rfl ⟨trivial, trivial⟩ ?_
                    refine Ev.if_ne 85 162 tk_R_clause rfl (by decide) (fun _ => ?_) (fun hc => absurd hc (by decide))
                    refine Ev.blk (pc' := 172) (lv' := [some (vr 12 0 80), some (vi q1.1), some (vi (ii 1)), some (vi q8.1), some (vi q4.1)]) (st' := []) (h' := (wI (wI q9.2 80 17 (ii 1)) 80 14 q8.1)) 87 6 (Nat.le_of_ble_eq_true rfl) tk_R_clause rfl rfl ⟨trivial, trivial, (by decide), trivial, trivial, trivial, trivial⟩ ?_
                    obtain rfl := Option.some.inj hx
                    obtain ⟨rfl, rfl⟩ := hP
                    exact Ev.vret 93 tk_R_clause rfl rfl
            · replace hx := ia hc23 hx
              refine Ev.blk (pc' := 115) (lv' := [some (vr 12 0 80), some (vi q1.1), some (vi (ii 1)), some (vi q8.1), some (vi q4.1)]) (st' := [vi q8.1, vi (ii 1), vr 12 0 80]) (h' := q9.2) 60 3 (Nat.le_of_ble_eq_true rfl) tk_R_clause rfl rfl ⟨trivial, trivial, trivial, trivial⟩ ?_
              obtain ⟨q10, hq27, hx⟩ := bd hx
              refine Ev.callV (ν := (m_R_condition 40)) (av := [vi (ii 1), vi q8.1]) (rest := []) (r1 := some (vi q10.1)) (h1 := q10.2) (ci := 12) (nn := 0) (o := 80) 63 2 tk_R_clause rfl (bb_R_condition _) (vv_R_condition _) lk_12_193 (by decide) rfl rfl (Or.inl rfl) (Nat.le_of_ble_eq_true rfl) (t_R_condition Γ 40 (ii 1) q8.1 q9.2 _ hq27) ?_
              show Ev Γ m_R_clause 118 [some (vr 12 0 80), some (vi q1.1), some (vi (ii 1)), some (vi q8.1), some (vi q4.1)] [vi q10.1] q10.2 r h'
              refine Ev.blk (pc' := 122) (lv' := [some (vr 12 0 80), some (vi q1.1), some (vi q10.1), some (vi q8.1), some (vi q4.1)]) (st' := [vi (ii 63), vr 12 0 80]) (h' := q10.2) 64 3 (Nat.le_of_ble_eq_true rfl) tk_R_clause rfl rfl ⟨trivial, trivial, trivial, trivial⟩ ?_
              obtain ⟨q11, hq28, hx⟩ := bd hx
              refine Ev.callV (ν := m_R_takes) (av := [vi (ii 63)]) (rest := []) (r1 := some (vi q11.1)) (h1 := q11.2) (ci := 12) (nn := 0) (o := 80) 67 1 tk_R_clause rfl bb_R_takes vv_R_takes lk_12_170 (by decide) rfl rfl (Or.inl rfl) (Nat.le_of_ble_eq_true rfl) (s_R_takes Γ (ii 63) q10.2 _ hq28) ?_
              show Ev Γ m_R_clause 125 [some (vr 12 0 80), some (vi q1.1), some (vi q10.1), some (vi q8.1), some (vi q4.1)] [vi q11.1] q11.2 r h'
              refine Ev.if_ne 68 129 tk_R_clause rfl (by decide) (fun hc29 => ?_) (fun hc29 => ?_)
              · replace hx := ia hc29 hx
                refine Ev.blk (pc' := 130) (lv' := [some (vr 12 0 80), some (vi q1.1), some (vi q10.1), some (vi q8.1), some (vi q4.1)]) (st' := [vr 12 0 80]) (h' := q11.2) 70 1 (Nat.le_of_ble_eq_true rfl) tk_R_clause rfl rfl ⟨trivial, trivial⟩ ?_
                obtain ⟨q12, hq30, hx⟩ := bd hx
                refine Ev.callV (ν := (m_R_sum 40)) (av := []) (rest := []) (r1 := some (vi q12.1)) (h1 := q12.2) (ci := 12) (nn := 0) (o := 80) 71 0 tk_R_clause rfl (bb_R_sum _) (vv_R_sum _) lk_12_167 (by decide) rfl rfl (Or.inl rfl) (Nat.le_of_ble_eq_true rfl) (t_R_sum Γ 40 q11.2 _ hq30) ?_
                show Ev Γ m_R_clause 133 [some (vr 12 0 80), some (vi q1.1), some (vi q10.1), some (vi q8.1), some (vi q4.1)] [vi q12.1] q12.2 r h'
                refine Ev.blk (pc' := 139) (lv' := [some (vr 12 0 80), some (vi q1.1), some (vi q10.1), some (vi q12.1), some (vi q4.1)]) (st' := [vi (ii (-1)), vi (q12.2.1 80 11)]) (h' := q12.2) 72 4 (Nat.le_of_ble_eq_true rfl) tk_R_clause rfl rfl ⟨trivial, trivial, trivial, trivial, trivial⟩ ?_
                refine Ev.icmp_ne 76 161 tk_R_clause rfl (by decide) (fun hc31 => ?_) (fun hc31 => ?_)
                · replace hx := ia hc31 hx
                  obtain rfl := Option.some.inj hx
                  obtain ⟨rfl, rfl⟩ := hP
                  exact Ev.vret 86 tk_R_clause rfl rfl
                · replace hx := ip hc31 hx
                  refine Ev.blk (pc' := 146) (lv' := [some (vr 12 0 80), some (vi q1.1), some (vi q10.1), some (vi q12.1), some (vi q4.1)]) (st' := [vi (q12.2.1 80 17)]) (h' := q12.2) 77 2 (Nat.le_of_ble_eq_true rfl) tk_R_clause rfl rfl ⟨trivial, trivial, trivial⟩ ?_
                  refine Ev.if_ne 79 161 tk_R_clause rfl (by decide) (fun hc32 => ?_) (fun hc32 => ?_)
                  · replace hx := ia hc32 hx
                    obtain rfl := Option.some.inj hx
                    obtain ⟨rfl, rfl⟩ := hP
                    exact Ev.vret 86 tk_R_clause rfl rfl
                  · replace hx := ip hc32 hx
                    refine Ev.blk (pc' := 154) (lv' := [some (vr 12 0 80), some (vi q1.1), some (vi q10.1), some (vi q12.1), some (vi q4.1)]) (st' := [vi (q12.2.1 80 13), vi q1.1]) (h' := q12.2) 80 3 (Nat.le_of_ble_eq_true rfl) tk_R_clause rfl rfl ⟨trivial, trivial, trivial, trivial⟩ ?_
                    refine Ev.icmp_ne 83 161 tk_R_clause rfl (by decide) (fun hc33 => ?_) (fun hc33 => ?_)
                    · replace hx := ia hc33 hx
                      obtain rfl := Option.some.inj hx
                      obtain ⟨rfl, rfl⟩ := hP
                      exact Ev.vret 86 tk_R_clause rfl rfl
                    · replace hx := ip hc33 hx
                      refine Ev.blk (pc' := 158) (lv' := [some (vr 12 0 80), some (vi q1.1), some (vi q10.1), some (vi q12.1), some (vi q4.1)]) (st' := [vi q10.1]) (h' := q12.2) 84 1 (Nat.le_of_ble_eq_true rfl) tk_R_clause rfl rfl ⟨trivial, trivial⟩ ?_
                      refine Ev.if_ne 85 162 tk_R_clause rfl (by decide) (fun hc34 => ?_) (fun hc34 => ?_)
                      · replace hx := ia hc34 hx
                        refine Ev.blk (pc' := 172) (lv' := [some (vr 12 0 80), some (vi q1.1), some (vi q10.1), some (vi q12.1), some (vi q4.1)]) (st' := []) (h' := (wI (wI q12.2 80 17 (ii 1)) 80 14 q12.1)) 87 6 (Nat.le_of_ble_eq_true rfl) tk_R_clause rfl rfl ⟨trivial, trivial, (by decide), trivial, trivial, trivial, trivial⟩ ?_
                        obtain rfl := Option.some.inj hx
                        obtain ⟨rfl, rfl⟩ := hP
                        exact Ev.vret 93 tk_R_clause rfl rfl
                      · replace hx := ip hc34 hx
                        obtain rfl := Option.some.inj hx
                        obtain ⟨rfl, rfl⟩ := hP
                        exact Ev.vret 86 tk_R_clause rfl rfl
              · replace hx := ip hc29 hx
                obtain rfl := Option.some.inj hx
                obtain ⟨rfl, rfl⟩ := hP
                exact Ev.vret 69 tk_R_clause rfl rfl
        · replace hx := ip hc16 hx
          refine Ev.blk (pc' := 67) (lv' := [some (vr 12 0 80), some (vi q1.1), some (vi (ii 1)), some (vi (ii 0)), some (vi q4.1)]) (st' := [vi (ii 0), vi (ii 0), vr 12 0 80]) (h' := q4.2) 35 3 (Nat.le_of_ble_eq_true rfl) tk_R_clause rfl rfl ⟨trivial, trivial, trivial, trivial⟩ ?_
          obtain ⟨q13, hq35, hx⟩ := bd hx
          refine Ev.callV (ν := (m_R_condition 40)) (av := [vi (ii 0), vi (ii 0)]) (rest := []) (r1 := some (vi q13.1)) (h1 := q13.2) (ci := 12) (nn := 0) (o := 80) 38 2 tk_R_clause rfl (bb_R_condition _) (vv_R_condition _) lk_12_193 (by decide) rfl rfl (Or.inl rfl) (Nat.le_of_ble_eq_true rfl) (t_R_condition Γ 40 (ii 0) (ii 0) q4.2 _ hq35) ?_
          show Ev Γ m_R_clause 70 [some (vr 12 0 80), some (vi q1.1), some (vi (ii 1)), some (vi (ii 0)), some (vi q4.1)] [vi q13.1] q13.2 r h'
          refine Ev.blk (pc' := 74) (lv' := [some (vr 12 0 80), some (vi q1.1), some (vi q13.1), some (vi (ii 0)), some (vi q4.1)]) (st' := [vi (ii 63), vr 12 0 80]) (h' := q13.2) 39 3 (Nat.le_of_ble_eq_true rfl) tk_R_clause rfl rfl ⟨trivial, trivial, trivial, trivial⟩ ?_
          obtain ⟨q14, hq36, hx⟩ := bd hx
          refine Ev.callV (ν := m_R_takes) (av := [vi (ii 63)]) (rest := []) (r1 := some (vi q14.1)) (h1 := q14.2) (ci := 12) (nn := 0) (o := 80) 42 1 tk_R_clause rfl bb_R_takes vv_R_takes lk_12_170 (by decide) rfl rfl (Or.inl rfl) (Nat.le_of_ble_eq_true rfl) (s_R_takes Γ (ii 63) q13.2 _ hq36) ?_
          show Ev Γ m_R_clause 77 [some (vr 12 0 80), some (vi q1.1), some (vi q13.1), some (vi (ii 0)), some (vi q4.1)] [vi q14.1] q14.2 r h'
          refine Ev.if_ne 43 81 tk_R_clause rfl (by decide) (fun hc37 => ?_) (fun hc37 => ?_)
          · replace hx := ia hc37 hx
            refine Ev.blk (pc' := 82) (lv' := [some (vr 12 0 80), some (vi q1.1), some (vi q13.1), some (vi (ii 0)), some (vi q4.1)]) (st' := [vr 12 0 80]) (h' := q14.2) 45 1 (Nat.le_of_ble_eq_true rfl) tk_R_clause rfl rfl ⟨trivial, trivial⟩ ?_
            obtain ⟨q15, hq38, hx⟩ := bd hx
            refine Ev.callV (ν := (m_R_sum 40)) (av := []) (rest := []) (r1 := some (vi q15.1)) (h1 := q15.2) (ci := 12) (nn := 0) (o := 80) 46 0 tk_R_clause rfl (bb_R_sum _) (vv_R_sum _) lk_12_167 (by decide) rfl rfl (Or.inl rfl) (Nat.le_of_ble_eq_true rfl) (t_R_sum Γ 40 q14.2 _ hq38) ?_
            show Ev Γ m_R_clause 85 [some (vr 12 0 80), some (vi q1.1), some (vi q13.1), some (vi (ii 0)), some (vi q4.1)] [vi q15.1] q15.2 r h'
            refine Ev.blk (pc' := 134) (lv' := [some (vr 12 0 80), some (vi q1.1), some (vi q13.1), some (vi q15.1), some (vi q4.1)]) (st' := []) (h' := q15.2) 47 2 (Nat.le_of_ble_eq_true rfl) tk_R_clause rfl rfl ⟨trivial, trivial, trivial⟩ ?_
            refine Ev.blk (pc' := 139) (lv' := [some (vr 12 0 80), some (vi q1.1), some (vi q13.1), some (vi q15.1), some (vi q4.1)]) (st' := [vi (ii (-1)), vi (q15.2.1 80 11)]) (h' := q15.2) 73 3 (Nat.le_of_ble_eq_true rfl) tk_R_clause rfl rfl ⟨trivial, trivial, trivial, trivial⟩ ?_
            refine Ev.icmp_ne 76 161 tk_R_clause rfl (by decide) (fun hc39 => ?_) (fun hc39 => ?_)
            · replace hx := ia hc39 hx
              obtain rfl := Option.some.inj hx
              obtain ⟨rfl, rfl⟩ := hP
              exact Ev.vret 86 tk_R_clause rfl rfl
            · replace hx := ip hc39 hx
              refine Ev.blk (pc' := 146) (lv' := [some (vr 12 0 80), some (vi q1.1), some (vi q13.1), some (vi q15.1), some (vi q4.1)]) (st' := [vi (q15.2.1 80 17)]) (h' := q15.2) 77 2 (Nat.le_of_ble_eq_true rfl) tk_R_clause rfl rfl ⟨trivial, trivial, trivial⟩ ?_
              refine Ev.if_ne 79 161 tk_R_clause rfl (by decide) (fun hc40 => ?_) (fun hc40 => ?_)
              · replace hx := ia hc40 hx
                obtain rfl := Option.some.inj hx
                obtain ⟨rfl, rfl⟩ := hP
                exact Ev.vret 86 tk_R_clause rfl rfl
              · replace hx := ip hc40 hx
                refine Ev.blk (pc' := 154) (lv' := [some (vr 12 0 80), some (vi q1.1), some (vi q13.1), some (vi q15.1), some (vi q4.1)]) (st' := [vi (q15.2.1 80 13), vi q1.1]) (h' := q15.2) 80 3 (Nat.le_of_ble_eq_true rfl) tk_R_clause rfl rfl ⟨trivial, trivial, trivial, trivial⟩ ?_
                refine Ev.icmp_ne 83 161 tk_R_clause rfl (by decide) (fun hc41 => ?_) (fun hc41 => ?_)
                · replace hx := ia hc41 hx
                  obtain rfl := Option.some.inj hx
                  obtain ⟨rfl, rfl⟩ := hP
                  exact Ev.vret 86 tk_R_clause rfl rfl
                · replace hx := ip hc41 hx
                  refine Ev.blk (pc' := 158) (lv' := [some (vr 12 0 80), some (vi q1.1), some (vi q13.1), some (vi q15.1), some (vi q4.1)]) (st' := [vi q13.1]) (h' := q15.2) 84 1 (Nat.le_of_ble_eq_true rfl) tk_R_clause rfl rfl ⟨trivial, trivial⟩ ?_
                  refine Ev.if_ne 85 162 tk_R_clause rfl (by decide) (fun hc42 => ?_) (fun hc42 => ?_)
                  · replace hx := ia hc42 hx
                    refine Ev.blk (pc' := 172) (lv' := [some (vr 12 0 80), some (vi q1.1), some (vi q13.1), some (vi q15.1), some (vi q4.1)]) (st' := []) (h' := (wI (wI q15.2 80 17 (ii 1)) 80 14 q15.1)) 87 6 (Nat.le_of_ble_eq_true rfl) tk_R_clause rfl rfl ⟨trivial, trivial, (by decide), trivial, trivial, trivial, trivial⟩ ?_
                    obtain rfl := Option.some.inj hx
                    obtain ⟨rfl, rfl⟩ := hP
                    exact Ev.vret 93 tk_R_clause rfl rfl
                  · replace hx := ip hc42 hx
                    obtain rfl := Option.some.inj hx
                    obtain ⟨rfl, rfl⟩ := hP
                    exact Ev.vret 86 tk_R_clause rfl rfl
          · replace hx := ip hc37 hx
            obtain rfl := Option.some.inj hx
            obtain ⟨rfl, rfl⟩ := hP
            exact Ev.vret 44 tk_R_clause rfl rfl
    · replace hx := ip hc5 hx
      obtain rfl := Option.some.inj hx
      obtain ⟨rfl, rfl⟩ := hP
      exact Ev.vret 21 tk_R_clause rfl rfl
  · replace hx := ip hc3 hx
    refine Ev.blk (pc' := 15) (lv' := [some (vr 12 0 80), some (vi q1.1), none, none, none]) (st' := [vr 12 0 80]) (h' := q1.2) 7 1 (Nat.le_of_ble_eq_true rfl) tk_R_clause rfl rfl ⟨trivial, trivial⟩ ?_
    obtain ⟨q16, hq43, hx⟩ := bd hx
    refine Ev.callV (ν := m_R_fails) (av := []) (rest := []) (r1 := some (vi q16.1)) (h1 := q16.2) (ci := 12) (nn := 0) (o := 80) 8 0 tk_R_clause rfl bb_R_fails vv_R_fails lk_12_140 (by decide) rfl rfl (Or.inl rfl) (Nat.le_of_ble_eq_true rfl) (s_R_fails Γ q1.2 _ hq43) ?_
    show Ev Γ m_R_clause 18 [some (vr 12 0 80), some (vi q1.1), none, none, none] [vi q16.1] q16.2 r h'
    refine Ev.blk (pc' := 19) (lv' := [some (vr 12 0 80), some (vi q1.1), none, none, none]) (st' := []) (h' := q16.2) 9 1 (Nat.le_of_ble_eq_true rfl) tk_R_clause rfl rfl ⟨trivial, trivial⟩ ?_
    obtain rfl := Option.some.inj hx
    obtain ⟨rfl, rfl⟩ := hP
    exact Ev.vret 10 tk_R_clause rfl rfl
