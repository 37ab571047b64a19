set_option maxRecDepth 4000 in
theorem s_Tape_take (Γ : AG) (a1 : Int32) (h : AH) (x : Int32 × AH) (hx : f_Tape_take a1 h = some x) : MetA Γ m_Tape_take [vr 1 0 1, vi a1] h (some (vi x.1)) x.2 := by
  refine Ev.met rfl rfl (Nat.le_of_ble_eq_true rfl) ?_
  show Ev Γ m_Tape_take 0 [some (vr 1 0 1), some (vi a1)] [] h _ _
  obtain ⟨r, hr⟩ : ∃ r : Option AV, r = some (vi x.1) := ⟨_, rfl⟩
  obtain ⟨h', hh⟩ : ∃ h' : AH, h' = x.2 := ⟨_, rfl⟩
  have hP : r = some (vi x.1) ∧ h' = x.2 := ⟨hr, hh⟩
  suffices hS : Ev Γ m_Tape_take 0 [some (vr 1 0 1), some (vi a1)] [] h r h' by rw [hr, hh] at hS; exact hS
  clear hr hh
  unfold f_Tape_take at hx
  refine Ev.blk (pc' := 1) (lv' := [some (vr 1 0 1), some (vi a1)]) (st' := [vr 1 0 1]) (h' := h) 0 1 (Nat.le_of_ble_eq_true rfl) tk_Tape_take rfl rfl ⟨trivial, trivial⟩ ?_
  obtain ⟨q1, hq1, hx⟩ := bd hx
  refine Ev.callV (ν := m_Tape_peek) (av := []) (rest := []) (r1 := some (vi q1.1)) (h1 := q1.2) (ci := 1) (nn := 0) (o := 1) 1 0 tk_Tape_take rfl bb_Tape_peek vv_Tape_peek lk_1_22 (by decide) rfl rfl (Or.inl rfl) (Nat.le_of_ble_eq_true rfl) (s_Tape_peek Γ h _ hq1) ?_
  show Ev Γ m_Tape_take 4 [some (vr 1 0 1), some (vi a1)] [vi q1.1] q1.2 r h'
  refine Ev.blk (pc' := 5) (lv' := [some (vr 1 0 1), some (vi a1)]) (st' := [vi a1, vi q1.1]) (h' := q1.2) 2 1 (Nat.le_of_ble_eq_true rfl) tk_Tape_take rfl rfl ⟨trivial, trivial⟩ ?_
  refine Ev.icmp_eq 3 10 tk_Tape_take rfl (by decide) (fun hc2 => ?_) (fun hc2 => ?_)
  · replace hx := ip hc2 hx
    refine Ev.blk (pc' := 21) (lv' := [some (vr 1 0 1), some (vi a1)]) (st' := [vi (ii 1)]) (h' := (wI q1.2 1 2 ((q1.2.1 1 2) + (ii 1)))) 6 7 (Nat.le_of_ble_eq_true rfl) tk_Tape_take rfl rfl ⟨trivial, trivial, trivial, trivial, trivial, trivial, trivial, trivial⟩ ?_
    obtain rfl := Option.some.inj hx
    obtain ⟨rfl, rfl⟩ := hP
    exact Ev.zret 13 tk_Tape_take rfl rfl rfl
  · replace hx := ia hc2 hx
    refine Ev.blk (pc' := 9) (lv' := [some (vr 1 0 1), some (vi a1)]) (st' := [vi (ii 0)]) (h' := q1.2) 4 1 (Nat.le_of_ble_eq_true rfl) tk_Tape_take rfl rfl ⟨trivial, trivial⟩ ?_
    obtain rfl := Option.some.inj hx
    obtain ⟨rfl, rfl⟩ := hP
    exact Ev.zret 5 tk_Tape_take rfl rfl rfl
set_option maxRecDepth 4000 in
theorem l_HR_readCourse_L31 (Γ : AG) : ∀ (n : Nat) (v2 : Int32) (v3 : Int32) (h : AH) (x : Int32 × AH), HR_readCourse_L31 n v2 v3 h = some x → ∀ (r : Option AV) (h' : AH), r = some (vi x.1) ∧ h' = x.2 → Ev Γ m_HR_readCourse 31 [some (vr 2 0 3), some (vr 1 0 1), some (vi v2), some (vi v3), none] [] h r h' := by
  intro n
  induction n with
  | zero => intro v2 v3 h x hx; cases hx
  | succ n ih =>
    intro v2 v3 h x hx r h' hP
    replace hx : HR_readCourse_L31_b (HR_readCourse_L31 n) v2 v3 h = some x := hx
    unfold HR_readCourse_L31_b at hx
    refine Ev.blk (pc' := 34) (lv' := [some (vr 2 0 3), some (vr 1 0 1), some (vi v2), some (vi v3), none]) (st' := [vi (ii 8), vi v3]) (h' := h) 20 2 (Nat.le_of_ble_eq_true rfl) tk_HR_readCourse rfl rfl ⟨trivial, trivial, trivial⟩ ?_
    refine Ev.icmp_ge 22 101 tk_HR_readCourse rfl (by decide) (fun hc1 => ?_) (fun hc1 => ?_)
    · replace hx := ip hc1 hx
      refine Ev.blk (pc' := 102) (lv' := [some (vr 2 0 3), some (vr 1 0 1), some (vi v2), some (vi v3), none]) (st' := [vi (ii 1)]) (h' := h) 60 1 (Nat.le_of_ble_eq_true rfl) tk_HR_readCourse rfl rfl ⟨trivial, trivial⟩ ?_
      obtain rfl := Option.some.inj hx
      obtain ⟨rfl, rfl⟩ := hP
      exact Ev.zret 61 tk_HR_readCourse rfl rfl rfl
    · replace hx := ia hc1 hx
      refine Ev.blk (pc' := 40) (lv' := [some (vr 2 0 3), some (vr 1 0 1), some (vi v2), some (vi v3), none]) (st' := [vr 1 0 1, vr 31 0 6]) (h' := h) 23 2 (Nat.le_of_ble_eq_true rfl) tk_HR_readCourse rfl rfl ⟨trivial, trivial, trivial⟩ ?_
      obtain ⟨q1, hq2, hx⟩ := bd hx
      refine Ev.callV (ν := m_Tape_peek) (av := []) (rest := [vr 31 0 6]) (r1 := some (vi q1.1)) (h1 := q1.2) (ci := 1) (nn := 0) (o := 1) 25 0 tk_HR_readCourse rfl bb_Tape_peek vv_Tape_peek lk_2_45 (by decide) rfl rfl (Or.inl rfl) (Nat.le_of_ble_eq_true rfl) (s_Tape_peek Γ h _ hq2) ?_
      show Ev Γ m_HR_readCourse 43 [some (vr 2 0 3), some (vr 1 0 1), some (vi v2), some (vi v3), none] [vi q1.1, vr 31 0 6] q1.2 r h'
      obtain ⟨q2, hq3, hx⟩ := bd hx
      refine Ev.callSN (ν := m_HF_placeIn) (av := [vr 31 0 6, vi q1.1]) (rest := []) (r1 := some (vi q2)) (h1 := q1.2) 26 2 tk_HR_readCourse rfl bb_HF_placeIn vv_HF_placeIn lk_2_62 (by decide) rfl rfl (Nat.le_of_ble_eq_true rfl) (s_HF_placeIn Γ 6 q1.1 q1.2 _ hq3) ?_
      show Ev Γ m_HR_readCourse 46 [some (vr 2 0 3), some (vr 1 0 1), some (vi v2), some (vi v3), none] [vi q2] q1.2 r h'
      refine Ev.blk (pc' := 50) (lv' := [some (vr 2 0 3), some (vr 1 0 1), some (vi v2), some (vi v3), some (vi q2)]) (st' := [vi q2]) (h' := q1.2) 27 2 (Nat.le_of_ble_eq_true rfl) tk_HR_readCourse rfl rfl ⟨trivial, trivial, trivial⟩ ?_
      refine Ev.if_ge 29 63 tk_HR_readCourse rfl (by decide) (fun hc4 => ?_) (fun hc4 => ?_)
      · replace hx := ip hc4 hx
        obtain ⟨hg5, hx⟩ := gd hx
        obtain ⟨hg6, hx⟩ := gd hx
        refine Ev.blk (pc' := 31) (lv' := [some (vr 2 0 3), some (vr 1 0 1), some (vi v2), some (vi (v3 + ii 1)), some (vi q2)]) (st' := []) (h' := (wI (wI (wI q1.2 6 ((v2 * (ii 8)) + v3).toNatClampNeg q2) 7 v2.toNatClampNeg (v3 + (ii 1))) 1 2 (((wI (wI q1.2 6 ((v2 * (ii 8)) + v3).toNatClampNeg q2) 7 v2.toNatClampNeg (v3 + (ii 1))).1 1 2) + (ii 1)))) 36 24 (Nat.le_of_ble_eq_true rfl) tk_HR_readCourse rfl rfl ⟨trivial, trivial, trivial, trivial, trivial, trivial, trivial, trivial, hg5, trivial, trivial, trivial, trivial, trivial, trivial, hg6, trivial, trivial, trivial, trivial, trivial, trivial, trivial, trivial, trivial⟩ ?_
        exact Ev.msk [true, true, true, true, false] (ih v2 (v3 + ii 1) (wI (wI (wI q1.2 6 ((v2 * (ii 8)) + v3).toNatClampNeg q2) 7 v2.toNatClampNeg (v3 + (ii 1))) 1 2 (((wI (wI q1.2 6 ((v2 * (ii 8)) + v3).toNatClampNeg q2) 7 v2.toNatClampNeg (v3 + (ii 1))).1 1 2) + (ii 1))) _ hx r h' hP)
      · replace hx := ia hc4 hx
        refine Ev.blk (pc' := 54) (lv' := [some (vr 2 0 3), some (vr 1 0 1), some (vi v2), some (vi v3), some (vi q2)]) (st' := [vi v3]) (h' := q1.2) 30 1 (Nat.le_of_ble_eq_true rfl) tk_HR_readCourse rfl rfl ⟨trivial, trivial⟩ ?_
        refine Ev.if_le 31 61 tk_HR_readCourse rfl (by decide) (fun hc7 => ?_) (fun hc7 => ?_)
        · replace hx := ip hc7 hx
          refine Ev.blk (pc' := 62) (lv' := [some (vr 2 0 3), some (vr 1 0 1), some (vi v2), some (vi v3), some (vi q2)]) (st' := [vi (ii 0)]) (h' := q1.2) 34 1 (Nat.le_of_ble_eq_true rfl) tk_HR_readCourse rfl rfl ⟨trivial, trivial⟩ ?_
          obtain rfl := Option.some.inj hx
          obtain ⟨rfl, rfl⟩ := hP
          exact Ev.zret 35 tk_HR_readCourse rfl rfl rfl
        · replace hx := ia hc7 hx
          refine Ev.blk (pc' := 62) (lv' := [some (vr 2 0 3), some (vr 1 0 1), some (vi v2), some (vi v3), some (vi q2)]) (st' := [vi (ii 1)]) (h' := q1.2) 32 2 (Nat.le_of_ble_eq_true rfl) tk_HR_readCourse rfl rfl ⟨trivial, trivial, trivial⟩ ?_
          obtain rfl := Option.some.inj hx
          obtain ⟨rfl, rfl⟩ := hP
          exact Ev.zret 35 tk_HR_readCourse rfl rfl rfl
set_option maxRecDepth 4000 in
theorem s_HR_readCourse (Γ : AG) (a2 : Int32) (h : AH) (x : Int32 × AH) (hx : f_HR_readCourse a2 h = some x) : MetA Γ m_HR_readCourse [vr 2 0 3, vr 1 0 1, vi a2] h (some (vi x.1)) x.2 := by
  refine Ev.met rfl rfl (Nat.le_of_ble_eq_true rfl) ?_
  show Ev Γ m_HR_readCourse 0 [some (vr 2 0 3), some (vr 1 0 1), some (vi a2), none, none] [] h _ _
  obtain ⟨r, hr⟩ : ∃ r : Option AV, r = some (vi x.1) := ⟨_, rfl⟩
  obtain ⟨h', hh⟩ : ∃ h' : AH, h' = x.2 := ⟨_, rfl⟩
  have hP : r = some (vi x.1) ∧ h' = x.2 := ⟨hr, hh⟩
  suffices hS : Ev Γ m_HR_readCourse 0 [some (vr 2 0 3), some (vr 1 0 1), some (vi a2), none, none] [] h r h' by rw [hr, hh] at hS; exact hS
  clear hr hh
  unfold f_HR_readCourse at hx
  refine Ev.blk (pc' := 1) (lv' := [some (vr 2 0 3), some (vr 1 0 1), some (vi a2), none, none]) (st' := [vi a2]) (h' := h) 0 1 (Nat.le_of_ble_eq_true rfl) tk_HR_readCourse rfl rfl ⟨trivial, trivial⟩ ?_
  refine Ev.if_lt 1 9 tk_HR_readCourse rfl (by decide) (fun hc1 => ?_) (fun hc1 => ?_)
  · replace hx := ip hc1 hx
    refine Ev.blk (pc' := 10) (lv' := [some (vr 2 0 3), some (vr 1 0 1), some (vi a2), none, none]) (st' := [vi (ii 0)]) (h' := h) 5 1 (Nat.le_of_ble_eq_true rfl) tk_HR_readCourse rfl rfl ⟨trivial, trivial⟩ ?_
    obtain rfl := Option.some.inj hx
    obtain ⟨rfl, rfl⟩ := hP
    exact Ev.zret 6 tk_HR_readCourse rfl rfl rfl
  · replace hx := ia hc1 hx
    refine Ev.blk (pc' := 6) (lv' := [some (vr 2 0 3), some (vr 1 0 1), some (vi a2), none, none]) (st' := [vi (ii 4), vi a2]) (h' := h) 2 2 (Nat.le_of_ble_eq_true rfl) tk_HR_readCourse rfl rfl ⟨trivial, trivial, trivial⟩ ?_
    refine Ev.icmp_lt 4 11 tk_HR_readCourse rfl (by decide) (fun hc2 => ?_) (fun hc2 => ?_)
    · replace hx := ip hc2 hx
      obtain ⟨hg3, hx⟩ := gd hx
      refine Ev.blk (pc' := 21) (lv' := [some (vr 2 0 3), some (vr 1 0 1), some (vi a2), none, none]) (st' := [vi (ii 58), vr 1 0 1]) (h' := (wI h 7 a2.toNatClampNeg (ii 0))) 7 7 (Nat.le_of_ble_eq_true rfl) tk_HR_readCourse rfl rfl ⟨trivial, trivial, trivial, trivial, hg3, trivial, trivial, trivial⟩ ?_
      obtain ⟨q1, hq4, hx⟩ := bd hx
      refine Ev.callV (ν := m_Tape_take) (av := [vi (ii 58)]) (rest := []) (r1 := some (vi q1.1)) (h1 := q1.2) (ci := 1) (nn := 0) (o := 1) 14 1 tk_HR_readCourse rfl bb_Tape_take vv_Tape_take lk_2_49 (by decide) rfl rfl (Or.inl rfl) (Nat.le_of_ble_eq_true rfl) (s_Tape_take Γ (ii 58) (wI h 7 a2.toNatClampNeg (ii 0)) _ hq4) ?_
      show Ev Γ m_HR_readCourse 24 [some (vr 2 0 3), some (vr 1 0 1), some (vi a2), none, none] [vi q1.1] q1.2 r h'
      refine Ev.if_ne 15 29 tk_HR_readCourse rfl (by decide) (fun hc5 => ?_) (fun hc5 => ?_)
      · replace hx := ia hc5 hx
        refine Ev.blk (pc' := 31) (lv' := [some (vr 2 0 3), some (vr 1 0 1), some (vi a2), some (vi (ii 0)), none]) (st' := []) (h' := q1.2) 18 2 (Nat.le_of_ble_eq_true rfl) tk_HR_readCourse rfl rfl ⟨trivial, trivial, trivial⟩ ?_
        refine Ev.msk [true, true, true, true, false] ?_
        show Ev Γ m_HR_readCourse 31 [some (vr 2 0 3), some (vr 1 0 1), some (vi a2), some (vi (ii 0)), none] [] q1.2 r h'
        exact l_HR_readCourse_L31 Γ FU a2 (ii 0) q1.2 _ hx r h' hP
      · replace hx := ip hc5 hx
        refine Ev.blk (pc' := 28) (lv' := [some (vr 2 0 3), some (vr 1 0 1), some (vi a2), none, none]) (st' := [vi (ii 1)]) (h' := q1.2) 16 1 (Nat.le_of_ble_eq_true rfl) tk_HR_readCourse rfl rfl ⟨trivial, trivial⟩ ?_
        obtain rfl := Option.some.inj hx
        obtain ⟨rfl, rfl⟩ := hP
        exact Ev.zret 17 tk_HR_readCourse rfl rfl rfl
    · replace hx := ia hc2 hx
      refine Ev.blk (pc' := 10) (lv' := [some (vr 2 0 3), some (vr 1 0 1), some (vi a2), none, none]) (st' := [vi (ii 0)]) (h' := h) 5 1 (Nat.le_of_ble_eq_true rfl) tk_HR_readCourse rfl rfl ⟨trivial, trivial⟩ ?_
      obtain rfl := Option.some.inj hx
      obtain ⟨rfl, rfl⟩ := hP
      exact Ev.zret 6 tk_HR_readCourse rfl rfl rfl
set_option maxRecDepth 4000 in
theorem s_HR_readClause (Γ : AG) (h : AH) (x : Int32 × AH) (hx : f_HR_readClause  h = some x) : MetA Γ m_HR_readClause [vr 2 0 3, vr 1 0 1] h (some (vi x.1)) x.2 := by
  refine Ev.met rfl rfl (Nat.le_of_ble_eq_true rfl) ?_
  show Ev Γ m_HR_readClause 0 [some (vr 2 0 3), some (vr 1 0 1), none, none] [] h _ _
  obtain ⟨r, hr⟩ : ∃ r : Option AV, r = some (vi x.1) := ⟨_, rfl⟩
  obtain ⟨h', hh⟩ : ∃ h' : AH, h' = x.2 := ⟨_, rfl⟩
  have hP : r = some (vi x.1) ∧ h' = x.2 := ⟨hr, hh⟩
  suffices hS : Ev Γ m_HR_readClause 0 [some (vr 2 0 3), some (vr 1 0 1), none, none] [] h r h' by rw [hr, hh] at hS; exact hS
  clear hr hh
  unfold f_HR_readClause at hx
  refine Ev.blk (pc' := 3) (lv' := [some (vr 2 0 3), some (vr 1 0 1), none, none]) (st' := [vr 1 0 1, vr 31 0 0]) (h' := h) 0 2 (Nat.le_of_ble_eq_true rfl) tk_HR_readClause rfl rfl ⟨trivial, trivial, trivial⟩ ?_
  obtain ⟨q1, hq1, hx⟩ := bd hx
  refine Ev.callV (ν := m_Tape_peek) (av := []) (rest := [vr 31 0 0]) (r1 := some (vi q1.1)) (h1 := q1.2) (ci := 1) (nn := 0) (o := 1) 2 0 tk_HR_readClause rfl bb_Tape_peek vv_Tape_peek lk_2_45 (by decide) rfl rfl (Or.inl rfl) (Nat.le_of_ble_eq_true rfl) (s_Tape_peek Γ h _ hq1) ?_
  show Ev Γ m_HR_readClause 6 [some (vr 2 0 3), some (vr 1 0 1), none, none] [vi q1.1, vr 31 0 0] q1.2 r h'
  obtain ⟨q2, hq2, hx⟩ := bd hx
  refine Ev.callSN (ν := m_HF_placeIn) (av := [vr 31 0 0, vi q1.1]) (rest := []) (r1 := some (vi q2)) (h1 := q1.2) 3 2 tk_HR_readClause rfl bb_HF_placeIn vv_HF_placeIn lk_2_62 (by decide) rfl rfl (Nat.le_of_ble_eq_true rfl) (s_HF_placeIn Γ 0 q1.1 q1.2 _ hq2) ?_
  show Ev Γ m_HR_readClause 9 [some (vr 2 0 3), some (vr 1 0 1), none, none] [vi q2] q1.2 r h'
  refine Ev.blk (pc' := 11) (lv' := [some (vr 2 0 3), some (vr 1 0 1), some (vi q2), none]) (st' := [vi q2]) (h' := q1.2) 4 2 (Nat.le_of_ble_eq_true rfl) tk_HR_readClause rfl rfl ⟨trivial, trivial, trivial⟩ ?_
  refine Ev.if_lt 6 33 tk_HR_readClause rfl (by decide) (fun hc3 => ?_) (fun hc3 => ?_)
  · replace hx := ip hc3 hx
    refine Ev.blk (pc' := 34) (lv' := [some (vr 2 0 3), some (vr 1 0 1), some (vi q2), none]) (st' := [vi (ii 0)]) (h' := q1.2) 18 1 (Nat.le_of_ble_eq_true rfl) tk_HR_readClause rfl rfl ⟨trivial, trivial⟩ ?_
    obtain rfl := Option.some.inj hx
    obtain ⟨rfl, rfl⟩ := hP
    exact Ev.zret 19 tk_HR_readClause rfl rfl rfl
  · replace hx := ia hc3 hx
    refine Ev.blk (pc' := 16) (lv' := [some (vr 2 0 3), some (vr 1 0 1), some (vi q2), none]) (st' := [vi (ii 5), vi q2]) (h' := q1.2) 7 2 (Nat.le_of_ble_eq_true rfl) tk_HR_readClause rfl rfl ⟨trivial, trivial, trivial⟩ ?_
    refine Ev.icmp_ge 9 33 tk_HR_readClause rfl (by decide) (fun hc4 => ?_) (fun hc4 => ?_)
    · replace hx := ip hc4 hx
      refine Ev.blk (pc' := 34) (lv' := [some (vr 2 0 3), some (vr 1 0 1), some (vi q2), none]) (st' := [vi (ii 0)]) (h' := q1.2) 18 1 (Nat.le_of_ble_eq_true rfl) tk_HR_readClause rfl rfl ⟨trivial, trivial⟩ ?_
      obtain rfl := Option.some.inj hx
      obtain ⟨rfl, rfl⟩ := hP
      exact Ev.zret 19 tk_HR_readClause rfl rfl rfl
    · replace hx := ia hc4 hx
      obtain ⟨hg5, hx⟩ := gd hx
      obtain ⟨hg6, hx⟩ := gd hx
      refine Ev.blk (pc' := 30) (lv' := [some (vr 2 0 3), some (vr 1 0 1), some (vi q2), none]) (st' := [vi (ii ((am_sta.getD 0 []).getD (q2).toNatClampNeg 0)), vi (q1.2.1 4 (q2).toNatClampNeg)]) (h' := q1.2) 10 7 (Nat.le_of_ble_eq_true rfl) tk_HR_readClause rfl rfl ⟨trivial, trivial, trivial, hg5, trivial, trivial, hg6, trivial⟩ ?_
      refine Ev.icmp_lt 17 35 tk_HR_readClause rfl (by decide) (fun hc7 => ?_) (fun hc7 => ?_)
      · replace hx := ip hc7 hx
        obtain ⟨hg8, hx⟩ := gd hx
        obtain ⟨hg9, hx⟩ := gd hx
        obtain ⟨hg10, hx⟩ := gd hx
        refine Ev.blk (pc' := 65) (lv' := [some (vr 2 0 3), some (vr 1 0 1), some (vi q2), some (vi ((wI q1.2 1 2 ((q1.2.1 1 2) + (ii 1))).1 4 (q2).toNatClampNeg))]) (st' := [vi ((wI q1.2 1 2 ((q1.2.1 1 2) + (ii 1))).1 4 (q2).toNatClampNeg), vi q2, vr 2 0 3]) (h' := (wI (wI q1.2 1 2 ((q1.2.1 1 2) + (ii 1))) 4 q2.toNatClampNeg (((wI q1.2 1 2 ((q1.2.1 1 2) + (ii 1))).1 4 (q2).toNatClampNeg) + (ii 1)))) 20 22 (Nat.le_of_ble_eq_true rfl) tk_HR_readClause rfl rfl ⟨trivial, trivial, trivial, trivial, trivial, trivial, trivial, trivial, trivial, hg8, trivial, trivial, trivial, trivial, trivial, hg9, trivial, trivial, hg10, trivial, trivial, trivial, trivial⟩ ?_
        obtain ⟨q3, hq11, hx⟩ := bd hx
        refine Ev.callV (ν := m_HR_fillWithout) (av := [vi q2, vi ((wI q1.2 1 2 ((q1.2.1 1 2) + (ii 1))).1 4 (q2).toNatClampNeg)]) (rest := []) (r1 := none) (h1 := q3) (ci := 2) (nn := 0) (o := 3) 42 2 tk_HR_readClause rfl bb_HR_fillWithout vv_HR_fillWithout lk_2_37 (by decide) rfl rfl (Or.inl rfl) (Nat.le_of_ble_eq_true rfl) (s_HR_fillWithout Γ q2 ((wI q1.2 1 2 ((q1.2.1 1 2) + (ii 1))).1 4 (q2).toNatClampNeg) (wI (wI q1.2 1 2 ((q1.2.1 1 2) + (ii 1))) 4 q2.toNatClampNeg (((wI q1.2 1 2 ((q1.2.1 1 2) + (ii 1))).1 4 (q2).toNatClampNeg) + (ii 1))) _ hq11) ?_
        show Ev Γ m_HR_readClause 68 [some (vr 2 0 3), some (vr 1 0 1), some (vi q2), some (vi ((wI q1.2 1 2 ((q1.2.1 1 2) + (ii 1))).1 4 (q2).toNatClampNeg))] [] q3 r h'
        refine Ev.blk (pc' := 72) (lv' := [some (vr 2 0 3), some (vr 1 0 1), some (vi q2), some (vi ((wI q1.2 1 2 ((q1.2.1 1 2) + (ii 1))).1 4 (q2).toNatClampNeg))]) (st' := [vi ((wI q1.2 1 2 ((q1.2.1 1 2) + (ii 1))).1 4 (q2).toNatClampNeg), vi q2, vr 1 0 1, vr 2 0 3]) (h' := q3) 43 4 (Nat.le_of_ble_eq_true rfl) tk_HR_readClause rfl rfl ⟨trivial, trivial, trivial, trivial, trivial⟩ ?_
        obtain ⟨q4, hq12, hx⟩ := bd hx
        refine Ev.callV (ν := m_HR_readItems) (av := [vr 1 0 1, vi q2, vi ((wI q1.2 1 2 ((q1.2.1 1 2) + (ii 1))).1 4 (q2).toNatClampNeg)]) (rest := []) (r1 := some (vi q4.1)) (h1 := q4.2) (ci := 2) (nn := 0) (o := 3) 47 3 tk_HR_readClause rfl bb_HR_readItems vv_HR_readItems lk_2_69 (by decide) rfl rfl (Or.inl rfl) (Nat.le_of_ble_eq_true rfl) (s_HR_readItems Γ q2 ((wI q1.2 1 2 ((q1.2.1 1 2) + (ii 1))).1 4 (q2).toNatClampNeg) q3 _ hq12) ?_
        show Ev Γ m_HR_readClause 75 [some (vr 2 0 3), some (vr 1 0 1), some (vi q2), some (vi ((wI q1.2 1 2 ((q1.2.1 1 2) + (ii 1))).1 4 (q2).toNatClampNeg))] [vi q4.1] q4.2 r h'
        refine Ev.if_ne 48 80 tk_HR_readClause rfl (by decide) (fun hc13 => ?_) (fun hc13 => ?_)
        · replace hx := ia hc13 hx
          refine Ev.blk (pc' := 82) (lv' := [some (vr 2 0 3), some (vr 1 0 1), some (vi q2), some (vi ((wI q1.2 1 2 ((q1.2.1 1 2) + (ii 1))).1 4 (q2).toNatClampNeg))]) (st' := [vi (ii 1), vi q2]) (h' := q4.2) 51 2 (Nat.le_of_ble_eq_true rfl) tk_HR_readClause rfl rfl ⟨trivial, trivial, trivial⟩ ?_
          refine Ev.icmp_ne 53 94 tk_HR_readClause rfl (by decide) (fun hc14 => ?_) (fun hc14 => ?_)
          · replace hx := ia hc14 hx
            refine Ev.blk (pc' := 99) (lv' := [some (vr 2 0 3), some (vr 1 0 1), some (vi q2), some (vi ((wI q1.2 1 2 ((q1.2.1 1 2) + (ii 1))).1 4 (q2).toNatClampNeg))]) (st' := [vi (ii 1)]) (h' := q4.2) 59 2 (Nat.le_of_ble_eq_true rfl) tk_HR_readClause rfl rfl ⟨trivial, trivial, trivial⟩ ?_
            obtain rfl := Option.some.inj hx
            obtain ⟨rfl, rfl⟩ := hP
            exact Ev.zret 62 tk_HR_readClause rfl rfl rfl
          · replace hx := ip hc14 hx
            refine Ev.blk (pc' := 88) (lv' := [some (vr 2 0 3), some (vr 1 0 1), some (vi q2), some (vi ((wI q1.2 1 2 ((q1.2.1 1 2) + (ii 1))).1 4 (q2).toNatClampNeg))]) (st' := [vi ((wI q1.2 1 2 ((q1.2.1 1 2) + (ii 1))).1 4 (q2).toNatClampNeg), vr 1 0 1, vr 2 0 3]) (h' := q4.2) 54 3 (Nat.le_of_ble_eq_true rfl) tk_HR_readClause rfl rfl ⟨trivial, trivial, trivial, trivial⟩ ?_
            obtain ⟨q5, hq15, hx⟩ := bd hx
            refine Ev.callV (ν := m_HR_readCourse) (av := [vr 1 0 1, vi ((wI q1.2 1 2 ((q1.2.1 1 2) + (ii 1))).1 4 (q2).toNatClampNeg)]) (rest := []) (r1 := some (vi q5.1)) (h1 := q5.2) (ci := 2) (nn := 0) (o := 3) 57 2 tk_HR_readClause rfl bb_HR_readCourse vv_HR_readCourse lk_2_73 (by decide) rfl rfl (Or.inl rfl) (Nat.le_of_ble_eq_true rfl) (s_HR_readCourse Γ ((wI q1.2 1 2 ((q1.2.1 1 2) + (ii 1))).1 4 (q2).toNatClampNeg) q4.2 _ hq15) ?_
            show Ev Γ m_HR_readClause 91 [some (vr 2 0 3), some (vr 1 0 1), some (vi q2), some (vi ((wI q1.2 1 2 ((q1.2.1 1 2) + (ii 1))).1 4 (q2).toNatClampNeg))] [vi q5.1] q5.2 r h'
            refine Ev.if_eq 58 98 tk_HR_readClause rfl (by decide) (fun hc16 => ?_) (fun hc16 => ?_)
            · replace hx := ip hc16 hx
              refine Ev.blk (pc' := 99) (lv' := [some (vr 2 0 3), some (vr 1 0 1), some (vi q2), some (vi ((wI q1.2 1 2 ((q1.2.1 1 2) + (ii 1))).1 4 (q2).toNatClampNeg))]) (st' := [vi (ii 0)]) (h' := q5.2) 61 1 (Nat.le_of_ble_eq_true rfl) tk_HR_readClause rfl rfl ⟨trivial, trivial⟩ ?_
              obtain rfl := Option.some.inj hx
              obtain ⟨rfl, rfl⟩ := hP
              exact Ev.zret 62 tk_HR_readClause rfl rfl rfl
            · replace hx := ia hc16 hx
              refine Ev.blk (pc' := 99) (lv' := [some (vr 2 0 3), some (vr 1 0 1), some (vi q2), some (vi ((wI q1.2 1 2 ((q1.2.1 1 2) + (ii 1))).1 4 (q2).toNatClampNeg))]) (st' := [vi (ii 1)]) (h' := q5.2) 59 2 (Nat.le_of_ble_eq_true rfl) tk_HR_readClause rfl rfl ⟨trivial, trivial, trivial⟩ ?_
              obtain rfl := Option.some.inj hx
              obtain ⟨rfl, rfl⟩ := hP
              exact Ev.zret 62 tk_HR_readClause rfl rfl rfl
        · replace hx := ip hc13 hx
          refine Ev.blk (pc' := 79) (lv' := [some (vr 2 0 3), some (vr 1 0 1), some (vi q2), some (vi ((wI q1.2 1 2 ((q1.2.1 1 2) + (ii 1))).1 4 (q2).toNatClampNeg))]) (st' := [vi (ii 0)]) (h' := q4.2) 49 1 (Nat.le_of_ble_eq_true rfl) tk_HR_readClause rfl rfl ⟨trivial, trivial⟩ ?_
          obtain rfl := Option.some.inj hx
          obtain ⟨rfl, rfl⟩ := hP
          exact Ev.zret 50 tk_HR_readClause rfl rfl rfl
      · replace hx := ia hc7 hx
        refine Ev.blk (pc' := 34) (lv' := [some (vr 2 0 3), some (vr 1 0 1), some (vi q2), none]) (st' := [vi (ii 0)]) (h' := q1.2) 18 1 (Nat.le_of_ble_eq_true rfl) tk_HR_readClause rfl rfl ⟨trivial, trivial⟩ ?_
        obtain rfl := Option.some.inj hx
        obtain ⟨rfl, rfl⟩ := hP
        exact Ev.zret 19 tk_HR_readClause rfl rfl rfl
set_option maxRecDepth 4000 in
theorem s_HR_itemOf (Γ : AG) (a1 : Int32) (a2 : Int32) (a3 : Int32) (h : AH) (x : Int32) (hx : f_HR_itemOf a1 a2 a3 h = some x) : MetA Γ m_HR_itemOf [vr 2 0 3, vi a1, vi a2, vi a3] h (some (vi x)) h := by
  refine Ev.met rfl rfl (Nat.le_of_ble_eq_true rfl) ?_
  show Ev Γ m_HR_itemOf 0 [some (vr 2 0 3), some (vi a1), some (vi a2), some (vi a3), none] [] h _ _
  obtain ⟨r, hr⟩ : ∃ r : Option AV, r = some (vi x) := ⟨_, rfl⟩
  obtain ⟨h', hh⟩ : ∃ h' : AH, h' = h := ⟨_, rfl⟩
  have hP : r = some (vi x) ∧ h' = h := ⟨hr, hh⟩
  suffices hS : Ev Γ m_HR_itemOf 0 [some (vr 2 0 3), some (vi a1), some (vi a2), some (vi a3), none] [] h r h' by rw [hr, hh] at hS; exact hS
  clear hr hh
  unfold f_HR_itemOf at hx
  refine Ev.blk (pc' := 15) (lv' := [some (vr 2 0 3), some (vi a1), some (vi a2), some (vi a3), some (vi ((((a1 * (ii 6)) + a2) * (ii 6)) + a3))]) (st' := [vi ((((a1 * (ii 6)) + a2) * (ii 6)) + a3)]) (h' := h) 0 11 (Nat.le_of_ble_eq_true rfl) tk_HR_itemOf rfl rfl ⟨trivial, trivial, trivial, trivial, trivial, trivial, trivial, trivial, trivial, trivial, trivial, trivial⟩ ?_
  refine Ev.if_lt 11 38 tk_HR_itemOf rfl (by decide) (fun hc1 => ?_) (fun hc1 => ?_)
  · replace hx := ip hc1 hx
    refine Ev.blk (pc' := 39) (lv' := [some (vr 2 0 3), some (vi a1), some (vi a2), some (vi a3), some (vi ((((a1 * (ii 6)) + a2) * (ii 6)) + a3))]) (st' := [vi (ii 0)]) (h' := h) 22 1 (Nat.le_of_ble_eq_true rfl) tk_HR_itemOf rfl rfl ⟨trivial, trivial⟩ ?_
    obtain rfl := Option.some.inj hx
    obtain ⟨rfl, rfl⟩ := hP
    exact Ev.iret 23 tk_HR_itemOf rfl rfl
  · replace hx := ia hc1 hx
    refine Ev.blk (pc' := 25) (lv' := [some (vr 2 0 3), some (vi a1), some (vi a2), some (vi a3), some (vi ((((a1 * (ii 6)) + a2) * (ii 6)) + a3))]) (st' := [vi (ii (180 : Int)), vi ((((a1 * (ii 6)) + a2) * (ii 6)) + a3)]) (h' := h) 12 4 (Nat.le_of_ble_eq_true rfl) tk_HR_itemOf rfl rfl ⟨trivial, trivial, trivial, trivial, trivial⟩ ?_
    refine Ev.icmp_ge 16 38 tk_HR_itemOf rfl (by decide) (fun hc2 => ?_) (fun hc2 => ?_)
    · replace hx := ip hc2 hx
      refine Ev.blk (pc' := 39) (lv' := [some (vr 2 0 3), some (vi a1), some (vi a2), some (vi a3), some (vi ((((a1 * (ii 6)) + a2) * (ii 6)) + a3))]) (st' := [vi (ii 0)]) (h' := h) 22 1 (Nat.le_of_ble_eq_true rfl) tk_HR_itemOf rfl rfl ⟨trivial, trivial⟩ ?_
      obtain rfl := Option.some.inj hx
      obtain ⟨rfl, rfl⟩ := hP
      exact Ev.iret 23 tk_HR_itemOf rfl rfl
    · replace hx := ia hc2 hx
      obtain ⟨hg3, hx⟩ := gd hx
      refine Ev.blk (pc' := 39) (lv' := [some (vr 2 0 3), some (vi a1), some (vi a2), some (vi a3), some (vi ((((a1 * (ii 6)) + a2) * (ii 6)) + a3))]) (st' := [vi (h.1 5 ((((a1 * (ii 6)) + a2) * (ii 6)) + a3).toNatClampNeg)]) (h' := h) 17 5 (Nat.le_of_ble_eq_true rfl) tk_HR_itemOf rfl rfl ⟨trivial, trivial, trivial, hg3, trivial, trivial⟩ ?_
      obtain rfl := Option.some.inj hx
      obtain ⟨rfl, rfl⟩ := hP
      exact Ev.iret 23 tk_HR_itemOf rfl rfl
theorem s_Heath_isCell (Γ : AG) (o0 : Nat) (a1 : Int32) (h : AH) : MetA Γ m_Heath_isCell [vr 3 0 o0, vi a1] h (some (vi (p_Heath_isCell o0 a1 h))) h := by
  refine Ev.met rfl rfl (Nat.le_of_ble_eq_true rfl) ?_
  generalize hx : p_Heath_isCell o0 a1 h = x
  show Ev Γ m_Heath_isCell 0 [some (vr 3 0 o0), some (vi a1)] [] h _ _
  obtain ⟨r, hr⟩ : ∃ r : Option AV, r = some (vi x) := ⟨_, rfl⟩
  obtain ⟨h', hh⟩ : ∃ h' : AH, h' = h := ⟨_, rfl⟩
  have hP : r = some (vi x) ∧ h' = h := ⟨hr, hh⟩
  suffices hS : Ev Γ m_Heath_isCell 0 [some (vr 3 0 o0), some (vi a1)] [] h r h' by rw [hr, hh] at hS; exact hS
  clear hr hh
  unfold p_Heath_isCell at hx
  refine Ev.blk (pc' := 1) (lv' := [some (vr 3 0 o0), some (vi a1)]) (st' := [vi a1]) (h' := h) 0 1 (Nat.le_of_ble_eq_true rfl) tk_Heath_isCell rfl rfl ⟨trivial, trivial⟩ ?_
  refine Ev.if_lt 1 22 tk_Heath_isCell rfl (by decide) (fun hc1 => ?_) (fun hc1 => ?_)
  · replace hx := ip hc1 hx
    refine Ev.blk (pc' := 23) (lv' := [some (vr 3 0 o0), some (vi a1)]) (st' := [vi (ii 0)]) (h' := h) 11 1 (Nat.le_of_ble_eq_true rfl) tk_Heath_isCell rfl rfl ⟨trivial, trivial⟩ ?_
    subst hx
    obtain ⟨rfl, rfl⟩ := hP
    exact Ev.zret 12 tk_Heath_isCell rfl rfl rfl
  · replace hx := ia hc1 hx
    refine Ev.blk (pc' := 9) (lv' := [some (vr 3 0 o0), some (vi a1)]) (st' := [vi (h.1 o0 9), vi a1]) (h' := h) 2 3 (Nat.le_of_ble_eq_true rfl) tk_Heath_isCell rfl rfl ⟨trivial, trivial, trivial, trivial⟩ ?_
    refine Ev.icmp_ge 5 22 tk_Heath_isCell rfl (by decide) (fun hc2 => ?_) (fun hc2 => ?_)
    · replace hx := ip hc2 hx
      refine Ev.blk (pc' := 23) (lv' := [some (vr 3 0 o0), some (vi a1)]) (st' := [vi (ii 0)]) (h' := h) 11 1 (Nat.le_of_ble_eq_true rfl) tk_Heath_isCell rfl rfl ⟨trivial, trivial⟩ ?_
      subst hx
      obtain ⟨rfl, rfl⟩ := hP
      exact Ev.zret 12 tk_Heath_isCell rfl rfl rfl
    · replace hx := ia hc2 hx
      refine Ev.blk (pc' := 15) (lv' := [some (vr 3 0 o0), some (vi a1)]) (st' := [vi (ii 30), vi a1]) (h' := h) 6 2 (Nat.le_of_ble_eq_true rfl) tk_Heath_isCell rfl rfl ⟨trivial, trivial, trivial⟩ ?_
      refine Ev.icmp_ge 8 22 tk_Heath_isCell rfl (by decide) (fun hc3 => ?_) (fun hc3 => ?_)
      · replace hx := ip hc3 hx
        refine Ev.blk (pc' := 23) (lv' := [some (vr 3 0 o0), some (vi a1)]) (st' := [vi (ii 0)]) (h' := h) 11 1 (Nat.le_of_ble_eq_true rfl) tk_Heath_isCell rfl rfl ⟨trivial, trivial⟩ ?_
        subst hx
        obtain ⟨rfl, rfl⟩ := hP
        exact Ev.zret 12 tk_Heath_isCell rfl rfl rfl
      · replace hx := ia hc3 hx
        refine Ev.blk (pc' := 23) (lv' := [some (vr 3 0 o0), some (vi a1)]) (st' := [vi (ii 1)]) (h' := h) 9 2 (Nat.le_of_ble_eq_true rfl) tk_Heath_isCell rfl rfl ⟨trivial, trivial, trivial⟩ ?_
        subst hx
        obtain ⟨rfl, rfl⟩ := hP
        exact Ev.zret 12 tk_Heath_isCell rfl rfl rfl
set_option maxRecDepth 4000 in
theorem s_Heath_columnOf (Γ : AG) (o0 : Nat) (a1 : Int32) (h : AH) (x : Int32) (hx : f_Heath_columnOf o0 a1 h = some x) : MetA Γ m_Heath_columnOf [vr 3 0 o0, vi a1] h (some (vi x)) h := by
  refine Ev.met rfl rfl (Nat.le_of_ble_eq_true rfl) ?_
  show Ev Γ m_Heath_columnOf 0 [some (vr 3 0 o0), some (vi a1)] [] h _ _
  obtain ⟨r, hr⟩ : ∃ r : Option AV, r = some (vi x) := ⟨_, rfl⟩
  obtain ⟨h', hh⟩ : ∃ h' : AH, h' = h := ⟨_, rfl⟩
  have hP : r = some (vi x) ∧ h' = h := ⟨hr, hh⟩
  suffices hS : Ev Γ m_Heath_columnOf 0 [some (vr 3 0 o0), some (vi a1)] [] h r h' by rw [hr, hh] at hS; exact hS
  clear hr hh
  unfold f_Heath_columnOf at hx
  refine Ev.blk (pc' := 5) (lv' := [some (vr 3 0 o0), some (vi a1)]) (st' := [vi (ii 1), vi (h.1 o0 5)]) (h' := h) 0 3 (Nat.le_of_ble_eq_true rfl) tk_Heath_columnOf rfl rfl ⟨trivial, trivial, trivial, trivial⟩ ?_
  refine Ev.icmp_ge 3 12 tk_Heath_columnOf rfl (by decide) (fun hc1 => ?_) (fun hc1 => ?_)
  · replace hx := ip hc1 hx
    obtain ⟨hg2, hx⟩ := gd hx
    refine Ev.blk (pc' := 18) (lv' := [some (vr 3 0 o0), some (vi a1)]) (st' := [vi (remI a1 (h.1 o0 5))]) (h' := h) 6 4 (Nat.le_of_ble_eq_true rfl) tk_Heath_columnOf rfl rfl ⟨trivial, trivial, trivial, hg2, trivial⟩ ?_
    obtain rfl := Option.some.inj hx
    obtain ⟨rfl, rfl⟩ := hP
    exact Ev.iret 10 tk_Heath_columnOf rfl rfl
  · replace hx := ia hc1 hx
    refine Ev.blk (pc' := 18) (lv' := [some (vr 3 0 o0), some (vi a1)]) (st' := [vi (ii 0)]) (h' := h) 4 2 (Nat.le_of_ble_eq_true rfl) tk_Heath_columnOf rfl rfl ⟨trivial, trivial, trivial⟩ ?_
    obtain rfl := Option.some.inj hx
    obtain ⟨rfl, rfl⟩ := hP
    exact Ev.iret 10 tk_Heath_columnOf rfl rfl
set_option maxRecDepth 4000 in
theorem s_Heath_rowOf (Γ : AG) (o0 : Nat) (a1 : Int32) (h : AH) (x : Int32) (hx : f_Heath_rowOf o0 a1 h = some x) : MetA Γ m_Heath_rowOf [vr 3 0 o0, vi a1] h (some (vi x)) h := by
  refine Ev.met rfl rfl (Nat.le_of_ble_eq_true rfl) ?_
  show Ev Γ m_Heath_rowOf 0 [some (vr 3 0 o0), some (vi a1)] [] h _ _
  obtain ⟨r, hr⟩ : ∃ r : Option AV, r = some (vi x) := ⟨_, rfl⟩
  obtain ⟨h', hh⟩ : ∃ h' : AH, h' = h := ⟨_, rfl⟩
  have hP : r = some (vi x) ∧ h' = h := ⟨hr, hh⟩
  suffices hS : Ev Γ m_Heath_rowOf 0 [some (vr 3 0 o0), some (vi a1)] [] h r h' by rw [hr, hh] at hS; exact hS
  clear hr hh
  unfold f_Heath_rowOf at hx
  refine Ev.blk (pc' := 5) (lv' := [some (vr 3 0 o0), some (vi a1)]) (st' := [vi (ii 1), vi (h.1 o0 5)]) (h' := h) 0 3 (Nat.le_of_ble_eq_true rfl) tk_Heath_rowOf rfl rfl ⟨trivial, trivial, trivial, trivial⟩ ?_
  refine Ev.icmp_ge 3 12 tk_Heath_rowOf rfl (by decide) (fun hc1 => ?_) (fun hc1 => ?_)
  · replace hx := ip hc1 hx
    obtain ⟨hg2, hx⟩ := gd hx
    refine Ev.blk (pc' := 18) (lv' := [some (vr 3 0 o0), some (vi a1)]) (st' := [vi (a1 / (h.1 o0 5))]) (h' := h) 6 4 (Nat.le_of_ble_eq_true rfl) tk_Heath_rowOf rfl rfl ⟨trivial, trivial, trivial, hg2, trivial⟩ ?_
    obtain rfl := Option.some.inj hx
    obtain ⟨rfl, rfl⟩ := hP
    exact Ev.iret 10 tk_Heath_rowOf rfl rfl
  · replace hx := ia hc1 hx
    refine Ev.blk (pc' := 18) (lv' := [some (vr 3 0 o0), some (vi a1)]) (st' := [vi (ii 0)]) (h' := h) 4 2 (Nat.le_of_ble_eq_true rfl) tk_Heath_rowOf rfl rfl ⟨trivial, trivial, trivial⟩ ?_
    obtain rfl := Option.some.inj hx
    obtain ⟨rfl, rfl⟩ := hP
    exact Ev.iret 10 tk_Heath_rowOf rfl rfl
set_option maxRecDepth 4000 in
theorem s_Heath_beyond (Γ : AG) (o0 : Nat) (a1 : Int32) (a2 : Int32) (h : AH) (x : Int32) (hx : f_Heath_beyond o0 a1 a2 h = some x) : MetA Γ m_Heath_beyond [vr 3 0 o0, vi a1, vi a2] h (some (vi x)) h := by
  refine Ev.met rfl rfl (Nat.le_of_ble_eq_true rfl) ?_
  show Ev Γ m_Heath_beyond 0 [some (vr 3 0 o0), some (vi a1), some (vi a2)] [] h _ _
  obtain ⟨r, hr⟩ : ∃ r : Option AV, r = some (vi x) := ⟨_, rfl⟩
  obtain ⟨h', hh⟩ : ∃ h' : AH, h' = h := ⟨_, rfl⟩
  have hP : r = some (vi x) ∧ h' = h := ⟨hr, hh⟩
  suffices hS : Ev Γ m_Heath_beyond 0 [some (vr 3 0 o0), some (vi a1), some (vi a2)] [] h r h' by rw [hr, hh] at hS; exact hS
  clear hr hh
  unfold f_Heath_beyond at hx
  refine Ev.blk (pc' := 2) (lv' := [some (vr 3 0 o0), some (vi a1), some (vi a2)]) (st' := [vi a1, vr 3 0 o0]) (h' := h) 0 2 (Nat.le_of_ble_eq_true rfl) tk_Heath_beyond rfl rfl ⟨trivial, trivial, trivial⟩ ?_
  refine Ev.callV (ν := m_Heath_isCell) (av := [vi a1]) (rest := []) (r1 := some (vi (p_Heath_isCell o0 a1 h))) (h1 := h) (ci := 3) (nn := 0) (o := o0) 2 1 tk_Heath_beyond rfl bb_Heath_isCell vv_Heath_isCell lk_3_71 (by decide) rfl rfl (Or.inl rfl) (Nat.le_of_ble_eq_true rfl) (s_Heath_isCell Γ o0 a1 h) ?_
  show Ev Γ m_Heath_beyond 5 [some (vr 3 0 o0), some (vi a1), some (vi a2)] [vi (p_Heath_isCell o0 a1 h)] h r h'
  refine Ev.if_ne 3 10 tk_Heath_beyond rfl (by decide) (fun hc1 => ?_) (fun hc1 => ?_)
  · replace hx := ia hc1 hx
    refine Ev.blk (pc' := 11) (lv' := [some (vr 3 0 o0), some (vi a1), some (vi a2)]) (st' := [vi a2]) (h' := h) 6 1 (Nat.le_of_ble_eq_true rfl) tk_Heath_beyond rfl rfl ⟨trivial, trivial⟩ ?_
    by_cases hc2 : a2 = ii 0
    · replace hx := ip hc2 hx
      refine Ev.tabIn (off := 29) 7 40 0 tk_Heath_beyond rfl hc2 (by decide) (by decide) ?_
      refine Ev.blk (pc' := 42) (lv' := [some (vr 3 0 o0), some (vi a1), some (vi a2)]) (st' := [vi a1, vr 3 0 o0]) (h' := h) 8 2 (Nat.le_of_ble_eq_true rfl) tk_Heath_beyond rfl rfl ⟨trivial, trivial, trivial⟩ ?_
      obtain ⟨q1, hq3, hx⟩ := bd hx
      refine Ev.callV (ν := m_Heath_columnOf) (av := [vi a1]) (rest := []) (r1 := some (vi q1)) (h1 := h) (ci := 3) (nn := 0) (o := o0) 10 1 tk_Heath_beyond rfl bb_Heath_columnOf vv_Heath_columnOf lk_3_75 (by decide) rfl rfl (Or.inl rfl) (Nat.le_of_ble_eq_true rfl) (s_Heath_columnOf Γ o0 a1 h _ hq3) ?_
      show Ev Γ m_Heath_beyond 45 [some (vr 3 0 o0), some (vi a1), some (vi a2)] [vi q1] h r h'
      refine Ev.blk (pc' := 51) (lv' := [some (vr 3 0 o0), some (vi a1), some (vi a2)]) (st' := [vi (h.1 o0 5), vi (q1 + (ii 1))]) (h' := h) 11 4 (Nat.le_of_ble_eq_true rfl) tk_Heath_beyond rfl rfl ⟨trivial, trivial, trivial, trivial, trivial⟩ ?_
      refine Ev.icmp_ge 15 60 tk_Heath_beyond rfl (by decide) (fun hc4 => ?_) (fun hc4 => ?_)
      · replace hx := ip hc4 hx
        refine Ev.blk (pc' := 61) (lv' := [some (vr 3 0 o0), some (vi a1), some (vi a2)]) (st' := [vi (ii (-1))]) (h' := h) 20 1 (Nat.le_of_ble_eq_true rfl) tk_Heath_beyond rfl rfl ⟨trivial, trivial⟩ ?_
        obtain rfl := Option.some.inj hx
        obtain ⟨rfl, rfl⟩ := hP
        exact Ev.iret 21 tk_Heath_beyond rfl rfl
      · replace hx := ia hc4 hx
        refine Ev.blk (pc' := 61) (lv' := [some (vr 3 0 o0), some (vi a1), some (vi a2)]) (st' := [vi (a1 + (ii 1))]) (h' := h) 16 4 (Nat.le_of_ble_eq_true rfl) tk_Heath_beyond rfl rfl ⟨trivial, trivial, trivial, trivial, trivial⟩ ?_
        obtain rfl := Option.some.inj hx
        obtain ⟨rfl, rfl⟩ := hP
        exact Ev.iret 21 tk_Heath_beyond rfl rfl
    replace hx := ia hc2 hx
    by_cases hc5 : a2 = ii 1
    · replace hx := ip hc5 hx
      refine Ev.tabIn (off := 51) 7 62 1 tk_Heath_beyond rfl hc5 (by decide) (by decide) ?_
      refine Ev.blk (pc' := 64) (lv' := [some (vr 3 0 o0), some (vi a1), some (vi a2)]) (st' := [vi a1, vr 3 0 o0]) (h' := h) 22 2 (Nat.le_of_ble_eq_true rfl) tk_Heath_beyond rfl rfl ⟨trivial, trivial, trivial⟩ ?_
      obtain ⟨q2, hq6, hx⟩ := bd hx
      refine Ev.callV (ν := m_Heath_rowOf) (av := [vi a1]) (rest := []) (r1 := some (vi q2)) (h1 := h) (ci := 3) (nn := 0) (o := o0) 24 1 tk_Heath_beyond rfl bb_Heath_rowOf vv_Heath_rowOf lk_3_78 (by decide) rfl rfl (Or.inl rfl) (Nat.le_of_ble_eq_true rfl) (s_Heath_rowOf Γ o0 a1 h _ hq6) ?_
      show Ev Γ m_Heath_beyond 67 [some (vr 3 0 o0), some (vi a1), some (vi a2)] [vi q2] h r h'
      refine Ev.blk (pc' := 73) (lv' := [some (vr 3 0 o0), some (vi a1), some (vi a2)]) (st' := [vi (h.1 o0 6), vi (q2 + (ii 1))]) (h' := h) 25 4 (Nat.le_of_ble_eq_true rfl) tk_Heath_beyond rfl rfl ⟨trivial, trivial, trivial, trivial, trivial⟩ ?_
      refine Ev.icmp_ge 29 85 tk_Heath_beyond rfl (by decide) (fun hc7 => ?_) (fun hc7 => ?_)
      · replace hx := ip hc7 hx
        refine Ev.blk (pc' := 86) (lv' := [some (vr 3 0 o0), some (vi a1), some (vi a2)]) (st' := [vi (ii (-1))]) (h' := h) 35 1 (Nat.le_of_ble_eq_true rfl) tk_Heath_beyond rfl rfl ⟨trivial, trivial⟩ ?_
        obtain rfl := Option.some.inj hx
        obtain ⟨rfl, rfl⟩ := hP
        exact Ev.iret 36 tk_Heath_beyond rfl rfl
      · replace hx := ia hc7 hx
        refine Ev.blk (pc' := 86) (lv' := [some (vr 3 0 o0), some (vi a1), some (vi a2)]) (st' := [vi (a1 + (h.1 o0 5))]) (h' := h) 30 5 (Nat.le_of_ble_eq_true rfl) tk_Heath_beyond rfl rfl ⟨trivial, trivial, trivial, trivial, trivial, trivial⟩ ?_
        obtain rfl := Option.some.inj hx
        obtain ⟨rfl, rfl⟩ := hP
        exact Ev.iret 36 tk_Heath_beyond rfl rfl
    replace hx := ia hc5 hx
    by_cases hc8 : a2 = ii 2
    · replace hx := ip hc8 hx
      refine Ev.tabIn (off := 76) 7 87 2 tk_Heath_beyond rfl hc8 (by decide) (by decide) ?_
      refine Ev.blk (pc' := 89) (lv' := [some (vr 3 0 o0), some (vi a1), some (vi a2)]) (st' := [vi a1, vr 3 0 o0]) (h' := h) 37 2 (Nat.le_of_ble_eq_true rfl) tk_Heath_beyond rfl rfl ⟨trivial, trivial, trivial⟩ ?_
      obtain ⟨q3, hq9, hx⟩ := bd hx
      refine Ev.callV (ν := m_Heath_columnOf) (av := [vi a1]) (rest := []) (r1 := some (vi q3)) (h1 := h) (ci := 3) (nn := 0) (o := o0) 39 1 tk_Heath_beyond rfl bb_Heath_columnOf vv_Heath_columnOf lk_3_75 (by decide) rfl rfl (Or.inl rfl) (Nat.le_of_ble_eq_true rfl) (s_Heath_columnOf Γ o0 a1 h _ hq9) ?_
      show Ev Γ m_Heath_beyond 92 [some (vr 3 0 o0), some (vi a1), some (vi a2)] [vi q3] h r h'
      refine Ev.if_le 40 101 tk_Heath_beyond rfl (by decide) (fun hc10 => ?_) (fun hc10 => ?_)
      · replace hx := ip hc10 hx
        refine Ev.blk (pc' := 102) (lv' := [some (vr 3 0 o0), some (vi a1), some (vi a2)]) (st' := [vi (ii (-1))]) (h' := h) 45 1 (Nat.le_of_ble_eq_true rfl) tk_Heath_beyond rfl rfl ⟨trivial, trivial⟩ ?_
        obtain rfl := Option.some.inj hx
        obtain ⟨rfl, rfl⟩ := hP
        exact Ev.iret 46 tk_Heath_beyond rfl rfl
      · replace hx := ia hc10 hx
        refine Ev.blk (pc' := 102) (lv' := [some (vr 3 0 o0), some (vi a1), some (vi a2)]) (st' := [vi (a1 - (ii 1))]) (h' := h) 41 4 (Nat.le_of_ble_eq_true rfl) tk_Heath_beyond rfl rfl ⟨trivial, trivial, trivial, trivial, trivial⟩ ?_
        obtain rfl := Option.some.inj hx
        obtain ⟨rfl, rfl⟩ := hP
        exact Ev.iret 46 tk_Heath_beyond rfl rfl
    replace hx := ia hc8 hx
    by_cases hc11 : a2 = ii 3
    · replace hx := ip hc11 hx
      refine Ev.tabIn (off := 92) 7 103 3 tk_Heath_beyond rfl hc11 (by decide) (by decide) ?_
      refine Ev.blk (pc' := 105) (lv' := [some (vr 3 0 o0), some (vi a1), some (vi a2)]) (st' := [vi a1, vr 3 0 o0]) (h' := h) 47 2 (Nat.le_of_ble_eq_true rfl) tk_Heath_beyond rfl rfl ⟨trivial, trivial, trivial⟩ ?_
      obtain ⟨q4, hq12, hx⟩ := bd hx
      refine Ev.callV (ν := m_Heath_rowOf) (av := [vi a1]) (rest := []) (r1 := some (vi q4)) (h1 := h) (ci := 3) (nn := 0) (o := o0) 49 1 tk_Heath_beyond rfl bb_Heath_rowOf vv_Heath_rowOf lk_3_78 (by decide) rfl rfl (Or.inl rfl) (Nat.le_of_ble_eq_true rfl) (s_Heath_rowOf Γ o0 a1 h _ hq12) ?_
      show Ev Γ m_Heath_beyond 108 [some (vr 3 0 o0), some (vi a1), some (vi a2)] [vi q4] h r h'
      refine Ev.if_le 50 120 tk_Heath_beyond rfl (by decide) (fun hc13 => ?_) (fun hc13 => ?_)
      · replace hx := ip hc13 hx
        refine Ev.blk (pc' := 121) (lv' := [some (vr 3 0 o0), some (vi a1), some (vi a2)]) (st' := [vi (ii (-1))]) (h' := h) 56 1 (Nat.le_of_ble_eq_true rfl) tk_Heath_beyond rfl rfl ⟨trivial, trivial⟩ ?_
        obtain rfl := Option.some.inj hx
        obtain ⟨rfl, rfl⟩ := hP
        exact Ev.iret 57 tk_Heath_beyond rfl rfl
      · replace hx := ia hc13 hx
        refine Ev.blk (pc' := 121) (lv' := [some (vr 3 0 o0), some (vi a1), some (vi a2)]) (st' := [vi (a1 - (h.1 o0 5))]) (h' := h) 51 5 (Nat.le_of_ble_eq_true rfl) tk_Heath_beyond rfl rfl ⟨trivial, trivial, trivial, trivial, trivial, trivial⟩ ?_
        obtain rfl := Option.some.inj hx
        obtain ⟨rfl, rfl⟩ := hP
        exact Ev.iret 57 tk_Heath_beyond rfl rfl
    replace hx := ia hc11 hx
    refine Ev.tabOut 7 122 4 tk_Heath_beyond rfl (by decide) (fun k hk => ?_) (by decide) ?_
    · rcases (show k = 0 ∨ k = 1 ∨ k = 2 ∨ k = 3 by omega) with rfl | rfl | rfl | rfl
      · exact hc2
      · exact hc5
      · exact hc8
      · exact hc11
    · refine Ev.blk (pc' := 123) (lv' := [some (vr 3 0 o0), some (vi a1), some (vi a2)]) (st' := [vi (ii (-1))]) (h' := h) 58 1 (Nat.le_of_ble_eq_true rfl) tk_Heath_beyond rfl rfl ⟨trivial, trivial⟩ ?_
      obtain rfl := Option.some.inj hx
      obtain ⟨rfl, rfl⟩ := hP
      exact Ev.iret 59 tk_Heath_beyond rfl rfl
  · replace hx := ip hc1 hx
    refine Ev.blk (pc' := 9) (lv' := [some (vr 3 0 o0), some (vi a1), some (vi a2)]) (st' := [vi (ii (-1))]) (h' := h) 4 1 (Nat.le_of_ble_eq_true rfl) tk_Heath_beyond rfl rfl ⟨trivial, trivial⟩ ?_
    obtain rfl := Option.some.inj hx
    obtain ⟨rfl, rfl⟩ := hP
    exact Ev.iret 5 tk_Heath_beyond rfl rfl
set_option maxRecDepth 4000 in
theorem l_Heath_besideBits_L4 (Γ : AG) : ∀ (n : Nat) (o0 : Nat) (v1 : Int32) (v2 : Int32) (v3 : Int32) (h : AH) (x : Int32), Heath_besideBits_L4 n o0 v1 v2 v3 h = some x → ∀ (r : Option AV) (h' : AH), r = some (vi x) ∧ h' = h → Ev Γ m_Heath_besideBits 4 [some (vr 3 0 o0), some (vi v1), some (vi v2), some (vi v3), none] [] h r h' := by
  intro n
  induction n with
  | zero => intro o0 v1 v2 v3 h x hx; cases hx
  | succ n ih =>
    intro o0 v1 v2 v3 h x hx r h' hP
    replace hx : Heath_besideBits_L4_b (Heath_besideBits_L4 n) o0 v1 v2 v3 h = some x := hx
    unfold Heath_besideBits_L4_b at hx
    refine Ev.blk (pc' := 6) (lv' := [some (vr 3 0 o0), some (vi v1), some (vi v2), some (vi v3), none]) (st' := [vi (ii 4), vi v3]) (h' := h) 4 2 (Nat.le_of_ble_eq_true rfl) tk_Heath_besideBits rfl rfl ⟨trivial, trivial, trivial⟩ ?_
    refine Ev.icmp_ge 6 41 tk_Heath_besideBits rfl (by decide) (fun hc1 => ?_) (fun hc1 => ?_)
    · replace hx := ip hc1 hx
      refine Ev.blk (pc' := 42) (lv' := [some (vr 3 0 o0), some (vi v1), some (vi v2), some (vi v3), none]) (st' := [vi v2]) (h' := h) 24 1 (Nat.le_of_ble_eq_true rfl) tk_Heath_besideBits rfl rfl ⟨trivial, trivial⟩ ?_
      obtain rfl := Option.some.inj hx
      obtain ⟨rfl, rfl⟩ := hP
      exact Ev.iret 25 tk_Heath_besideBits rfl rfl
    · replace hx := ia hc1 hx
      refine Ev.blk (pc' := 12) (lv' := [some (vr 3 0 o0), some (vi v1), some (vi v2), some (vi v3), none]) (st' := [vi v3, vi v1, vr 3 0 o0]) (h' := h) 7 3 (Nat.le_of_ble_eq_true rfl) tk_Heath_besideBits rfl rfl ⟨trivial, trivial, trivial, trivial⟩ ?_
      obtain ⟨q1, hq2, hx⟩ := bd hx
      refine Ev.callV (ν := m_Heath_beyond) (av := [vi v1, vi v3]) (rest := []) (r1 := some (vi q1)) (h1 := h) (ci := 3) (nn := 0) (o := o0) 10 2 tk_Heath_besideBits rfl bb_Heath_beyond vv_Heath_beyond lk_3_65 (by decide) rfl rfl (Or.inl rfl) (Nat.le_of_ble_eq_true rfl) (s_Heath_beyond Γ o0 v1 v3 h _ hq2) ?_
      show Ev Γ m_Heath_besideBits 15 [some (vr 3 0 o0), some (vi v1), some (vi v2), some (vi v3), none] [vi q1] h r h'
      refine Ev.blk (pc' := 21) (lv' := [some (vr 3 0 o0), some (vi v1), some (vi v2), some (vi v3), some (vi q1)]) (st' := [vi (ii (-1)), vi q1, vi v2]) (h' := h) 11 4 (Nat.le_of_ble_eq_true rfl) tk_Heath_besideBits rfl rfl ⟨trivial, trivial, trivial, trivial, trivial⟩ ?_
      have K3 : ∀ v3_0 : Int32, v3_0 = (if q1 = (ii (-1)) then (ii 0) else (p_HF_bit q1)) → Ev Γ m_Heath_besideBits 33 [some (vr 3 0 o0), some (vi v1), none, some (vi v3), none] [vi v3_0, vi v2] h r h' := by
        intro v3_0 e4
        subst e4
        refine Ev.blk (pc' := 4) (lv' := [some (vr 3 0 o0), some (vi v1), some (vi (v2 ||| (if q1 = (ii (-1)) then (ii 0) else (p_HF_bit q1)))), some (vi (v3 + ii 1)), none]) (st' := []) (h' := h) 20 4 (Nat.le_of_ble_eq_true rfl) tk_Heath_besideBits rfl rfl ⟨trivial, trivial, trivial, trivial, trivial⟩ ?_
        exact Ev.msk [true, true, true, true, false] (ih o0 v1 (v2 ||| (if q1 = (ii (-1)) then (ii 0) else (p_HF_bit q1))) (v3 + ii 1) h _ hx r h' hP)
      refine Ev.icmp_ne 15 28 tk_Heath_besideBits rfl (by decide) (fun hc5 => ?_) (fun hc5 => ?_)
      · refine Ev.blk (pc' := 30) (lv' := [some (vr 3 0 o0), some (vi v1), some (vi v2), some (vi v3), some (vi q1)]) (st' := [vi q1, vi v2]) (h' := h) 18 1 (Nat.le_of_ble_eq_true rfl) tk_Heath_besideBits rfl rfl ⟨trivial, trivial⟩ ?_
        refine Ev.callSN (ν := m_HF_bit) (av := [vi q1]) (rest := [vi v2]) (r1 := some (vi (p_HF_bit q1))) (h1 := h) 19 1 tk_Heath_besideBits rfl bb_HF_bit vv_HF_bit lk_3_68 (by decide) rfl rfl (Nat.le_of_ble_eq_true rfl) (s_HF_bit Γ q1 h) ?_
        show Ev Γ m_Heath_besideBits 33 [some (vr 3 0 o0), some (vi v1), some (vi v2), some (vi v3), some (vi q1)] [vi (p_HF_bit q1), vi v2] h r h'
        exact Ev.msk [true, true, false, true, false] (K3 _ (by first | rfl | simp only [if_neg hc5]))
      · refine Ev.blk (pc' := 33) (lv' := [some (vr 3 0 o0), some (vi v1), some (vi v2), some (vi v3), some (vi q1)]) (st' := [vi (ii 0), vi v2]) (h' := h) 16 2 (Nat.le_of_ble_eq_true rfl) tk_Heath_besideBits rfl rfl ⟨trivial, trivial, trivial⟩ ?_
        exact Ev.msk [true, true, false, true, false] (K3 _ (by first | rfl | simp only [if_pos hc5]))
set_option maxRecDepth 4000 in
theorem s_Heath_besideBits (Γ : AG) (o0 : Nat) (a1 : Int32) (h : AH) (x : Int32) (hx : f_Heath_besideBits o0 a1 h = some x) : MetA Γ m_Heath_besideBits [vr 3 0 o0, vi a1] h (some (vi x)) h := by
  refine Ev.met rfl rfl (Nat.le_of_ble_eq_true rfl) ?_
  show Ev Γ m_Heath_besideBits 0 [some (vr 3 0 o0), some (vi a1), none, none, none] [] h _ _
  obtain ⟨r, hr⟩ : ∃ r : Option AV, r = some (vi x) := ⟨_, rfl⟩
  obtain ⟨h', hh⟩ : ∃ h' : AH, h' = h := ⟨_, rfl⟩
  have hP : r = some (vi x) ∧ h' = h := ⟨hr, hh⟩
  suffices hS : Ev Γ m_Heath_besideBits 0 [some (vr 3 0 o0), some (vi a1), none, none, none] [] h r h' by rw [hr, hh] at hS; exact hS
  clear hr hh
  unfold f_Heath_besideBits at hx
  refine Ev.blk (pc' := 4) (lv' := [some (vr 3 0 o0), some (vi a1), some (vi (ii 0)), some (vi (ii 0)), none]) (st' := []) (h' := h) 0 4 (Nat.le_of_ble_eq_true rfl) tk_Heath_besideBits rfl rfl ⟨trivial, trivial, trivial, trivial, trivial⟩ ?_
  refine Ev.msk [true, true, true, true, false] ?_
  show Ev Γ m_Heath_besideBits 4 [some (vr 3 0 o0), some (vi a1), some (vi (ii 0)), some (vi (ii 0)), none] [] h r h'
  exact l_Heath_besideBits_L4 Γ FU o0 a1 (ii 0) (ii 0) h _ hx r h' hP
set_option maxRecDepth 4000 in
theorem l_Heath_lay_L62 (Γ : AG) : ∀ (n : Nat) (o0 : Nat) (v5 : Int32) (h : AH) (x : AH), Heath_lay_L62 n o0 v5 h = some x → ∀ (r : Option AV) (h' : AH), r = none ∧ h' = x → Ev Γ m_Heath_lay 62 [some (vr 3 0 o0), none, none, none, none, some (vi v5)] [] h r h' := by
  intro n
  induction n with
  | zero => intro o0 v5 h x hx; cases hx
  | succ n ih =>
    intro o0 v5 h x hx r h' hP
    replace hx : Heath_lay_L62_b (Heath_lay_L62 n) o0 v5 h = some x := hx
    unfold Heath_lay_L62_b at hx
    refine Ev.blk (pc' := 66) (lv' := [some (vr 3 0 o0), none, none, none, none, some (vi v5)]) (st' := [vi (ii 30), vi v5]) (h' := h) 35 2 (Nat.le_of_ble_eq_true rfl) tk_Heath_lay rfl rfl ⟨trivial, trivial, trivial⟩ ?_
    refine Ev.icmp_ge 37 125 tk_Heath_lay rfl (by decide) (fun hc1 => ?_) (fun hc1 => ?_)
    · replace hx := ip hc1 hx
      obtain rfl := Option.some.inj hx
      obtain ⟨rfl, rfl⟩ := hP
      exact Ev.vret 68 tk_Heath_lay rfl rfl
    · replace hx := ia hc1 hx
      obtain ⟨hg2, hx⟩ := gd hx
      obtain ⟨hg3, hx⟩ := gd hx
      obtain ⟨hg4, hx⟩ := gd hx
      refine Ev.blk (pc' := 105) (lv' := [some (vr 3 0 o0), none, none, none, none, some (vi v5)]) (st' := [vi ((wI (wI (wI h (o0 + 1) v5.toNatClampNeg (ii (-1))) (o0 + 2) v5.toNatClampNeg (ii (-1))) (o0 + 3) v5.toNatClampNeg (ii 0)).1 o0 9), vi v5, vi v5, vr 20 30 (o0 + 4)]) (h' := (wI (wI (wI h (o0 + 1) v5.toNatClampNeg (ii (-1))) (o0 + 2) v5.toNatClampNeg (ii (-1))) (o0 + 3) v5.toNatClampNeg (ii 0))) 38 21 (Nat.le_of_ble_eq_true rfl) tk_Heath_lay rfl rfl ⟨trivial, trivial, trivial, trivial, hg2, trivial, trivial, trivial, trivial, hg3, trivial, trivial, trivial, trivial, hg4, trivial, trivial, trivial, trivial, trivial, trivial, trivial⟩ ?_
      obtain ⟨q2, hq5, hx⟩ := bd hx
      have K6 : Ev Γ m_Heath_lay 118 [some (vr 3 0 o0), none, none, none, none, some (vi v5)] [vi q2, vi v5, vr 20 30 (o0 + 4)] (wI (wI (wI h (o0 + 1) v5.toNatClampNeg (ii (-1))) (o0 + 2) v5.toNatClampNeg (ii (-1))) (o0 + 3) v5.toNatClampNeg (ii 0)) r h' := by
        obtain ⟨hg7, hx⟩ := gd hx
        refine Ev.blk (pc' := 62) (lv' := [some (vr 3 0 o0), none, none, none, none, some (vi (v5 + ii 1))]) (st' := []) (h' := (wI (wI (wI (wI h (o0 + 1) v5.toNatClampNeg (ii (-1))) (o0 + 2) v5.toNatClampNeg (ii (-1))) (o0 + 3) v5.toNatClampNeg (ii 0)) (o0 + 4) v5.toNatClampNeg q2)) 65 3 (Nat.le_of_ble_eq_true rfl) tk_Heath_lay rfl rfl ⟨hg7, trivial, trivial, trivial⟩ ?_
        exact Ev.msk [true, false, false, false, false, true] (ih o0 (v5 + ii 1) (wI (wI (wI (wI h (o0 + 1) v5.toNatClampNeg (ii (-1))) (o0 + 2) v5.toNatClampNeg (ii (-1))) (o0 + 3) v5.toNatClampNeg (ii 0)) (o0 + 4) v5.toNatClampNeg q2) _ hx r h' hP)
      clear hx
      refine Ev.icmp_ge 59 117 tk_Heath_lay rfl (by decide) (fun hc8 => ?_) (fun hc8 => ?_)
      · replace hq5 := ip hc8 hq5
        refine Ev.blk (pc' := 118) (lv' := [some (vr 3 0 o0), none, none, none, none, some (vi v5)]) (st' := [vi (ii 0), vi v5, vr 20 30 (o0 + 4)]) (h' := (wI (wI (wI h (o0 + 1) v5.toNatClampNeg (ii (-1))) (o0 + 2) v5.toNatClampNeg (ii (-1))) (o0 + 3) v5.toNatClampNeg (ii 0))) 64 1 (Nat.le_of_ble_eq_true rfl) tk_Heath_lay rfl rfl ⟨trivial, trivial⟩ ?_
        obtain rfl := Option.some.inj hq5
        exact Ev.msk [true, false, false, false, false, true] K6
      · replace hq5 := ia hc8 hq5
        refine Ev.blk (pc' := 111) (lv' := [some (vr 3 0 o0), none, none, none, none, some (vi v5)]) (st' := [vi v5, vr 3 0 o0, vi v5, vr 20 30 (o0 + 4)]) (h' := (wI (wI (wI h (o0 + 1) v5.toNatClampNeg (ii (-1))) (o0 + 2) v5.toNatClampNeg (ii (-1))) (o0 + 3) v5.toNatClampNeg (ii 0))) 60 2 (Nat.le_of_ble_eq_true rfl) tk_Heath_lay rfl rfl ⟨trivial, trivial, trivial⟩ ?_
        obtain ⟨q1, hq9, hq5⟩ := bd hq5
        refine Ev.callV (ν := m_Heath_besideBits) (av := [vi v5]) (rest := [vi v5, vr 20 30 (o0 + 4)]) (r1 := some (vi q1)) (h1 := (wI (wI (wI h (o0 + 1) v5.toNatClampNeg (ii (-1))) (o0 + 2) v5.toNatClampNeg (ii (-1))) (o0 + 3) v5.toNatClampNeg (ii 0))) (ci := 3) (nn := 0) (o := o0) 62 1 tk_Heath_lay rfl bb_Heath_besideBits vv_Heath_besideBits lk_3_61 (by decide) rfl rfl (Or.inl rfl) (Nat.le_of_ble_eq_true rfl) (s_Heath_besideBits Γ o0 v5 (wI (wI (wI h (o0 + 1) v5.toNatClampNeg (ii (-1))) (o0 + 2) v5.toNatClampNeg (ii (-1))) (o0 + 3) v5.toNatClampNeg (ii 0)) _ hq9) ?_
        show Ev Γ m_Heath_lay 114 [some (vr 3 0 o0), none, none, none, none, some (vi v5)] [vi q1, vi v5, vr 20 30 (o0 + 4)] (wI (wI (wI h (o0 + 1) v5.toNatClampNeg (ii (-1))) (o0 + 2) v5.toNatClampNeg (ii (-1))) (o0 + 3) v5.toNatClampNeg (ii 0)) r h'
        refine Ev.blk (pc' := 118) (lv' := [some (vr 3 0 o0), none, none, none, none, some (vi v5)]) (st' := [vi q1, vi v5, vr 20 30 (o0 + 4)]) (h' := (wI (wI (wI h (o0 + 1) v5.toNatClampNeg (ii (-1))) (o0 + 2) v5.toNatClampNeg (ii (-1))) (o0 + 3) v5.toNatClampNeg (ii 0))) 63 1 (Nat.le_of_ble_eq_true rfl) tk_Heath_lay rfl rfl ⟨trivial, trivial⟩ ?_
        obtain rfl := Option.some.inj hq5
        exact Ev.msk [true, false, false, false, false, true] K6
set_option maxRecDepth 4000 in
theorem s_Heath_lay (Γ : AG) (o0 : Nat) (a1 : Int32) (a2 : Int32) (a3 : Int32) (a4 : Int32) (h : AH) (x : AH) (hx : f_Heath_lay o0 a1 a2 a3 a4 h = some x) : MetA Γ m_Heath_lay [vr 3 0 o0, vi a1, vi a2, vi a3, vi a4] h (none) x := by
  refine Ev.met rfl rfl (Nat.le_of_ble_eq_true rfl) ?_
  show Ev Γ m_Heath_lay 0 [some (vr 3 0 o0), some (vi a1), some (vi a2), some (vi a3), some (vi a4), none] [] h _ _
  obtain ⟨r, hr⟩ : ∃ r : Option AV, r = none := ⟨_, rfl⟩
  obtain ⟨h', hh⟩ : ∃ h' : AH, h' = x := ⟨_, rfl⟩
  have hP : r = none ∧ h' = x := ⟨hr, hh⟩
  suffices hS : Ev Γ m_Heath_lay 0 [some (vr 3 0 o0), some (vi a1), some (vi a2), some (vi a3), some (vi a4), none] [] h r h' by rw [hr, hh] at hS; exact hS
  clear hr hh
  unfold f_Heath_lay at hx
  refine Ev.blk (pc' := 33) (lv' := [some (vr 3 0 o0), some (vi a1), some (vi a2), some (vi a3), some (vi a4), none]) (st' := [vi (ii 30), vi (((wI (wI (wI (wI h o0 5 a1) o0 6 a2) o0 7 a3) o0 8 a4).1 o0 5) * ((wI (wI (wI (wI h o0 5 a1) o0 6 a2) o0 7 a3) o0 8 a4).1 o0 6)), vr 3 0 o0]) (h' := (wI (wI (wI (wI h o0 5 a1) o0 6 a2) o0 7 a3) o0 8 a4)) 0 19 (Nat.le_of_ble_eq_true rfl) tk_Heath_lay rfl rfl ⟨trivial, trivial, trivial, trivial, trivial, trivial, trivial, trivial, trivial, trivial, trivial, trivial, trivial, trivial, trivial, trivial, trivial, trivial, trivial, trivial⟩ ?_
  refine Ev.mmin (rest := [vr 3 0 o0]) 19 tk_Heath_lay rfl lk_3_55 (by decide) (Nat.le_of_ble_eq_true rfl) ?_
  show Ev Γ m_Heath_lay 36 [some (vr 3 0 o0), some (vi a1), some (vi a2), some (vi a3), some (vi a4), none] [vi (p_Math_min (((wI (wI (wI (wI h o0 5 a1) o0 6 a2) o0 7 a3) o0 8 a4).1 o0 5) * ((wI (wI (wI (wI h o0 5 a1) o0 6 a2) o0 7 a3) o0 8 a4).1 o0 6)) (ii 30)), vr 3 0 o0] (wI (wI (wI (wI h o0 5 a1) o0 6 a2) o0 7 a3) o0 8 a4) r h'
  refine Ev.blk (pc' := 62) (lv' := [some (vr 3 0 o0), some (vi a1), some (vi a2), some (vi a3), some (vi a4), some (vi (ii 0))]) (st' := []) (h' := (wI (wI (wI (wI (wI (wI (wI (wI (wI h o0 5 a1) o0 6 a2) o0 7 a3) o0 8 a4) o0 9 (p_Math_min (((wI (wI (wI (wI h o0 5 a1) o0 6 a2) o0 7 a3) o0 8 a4).1 o0 5) * ((wI (wI (wI (wI h o0 5 a1) o0 6 a2) o0 7 a3) o0 8 a4).1 o0 6)) (ii 30))) o0 10 (ii 0)) o0 11 (ii 0)) o0 12 (ii 0)) o0 13 (ii 0))) 20 15 (Nat.le_of_ble_eq_true rfl) tk_Heath_lay rfl rfl ⟨trivial, trivial, trivial, trivial, trivial, trivial, trivial, trivial, trivial, trivial, trivial, trivial, trivial, trivial, trivial, trivial⟩ ?_
  refine Ev.msk [true, false, false, false, false, true] ?_
  show Ev Γ m_Heath_lay 62 [some (vr 3 0 o0), none, none, none, none, some (vi (ii 0))] [] (wI (wI (wI (wI (wI (wI (wI (wI (wI h o0 5 a1) o0 6 a2) o0 7 a3) o0 8 a4) o0 9 (p_Math_min (((wI (wI (wI (wI h o0 5 a1) o0 6 a2) o0 7 a3) o0 8 a4).1 o0 5) * ((wI (wI (wI (wI h o0 5 a1) o0 6 a2) o0 7 a3) o0 8 a4).1 o0 6)) (ii 30))) o0 10 (ii 0)) o0 11 (ii 0)) o0 12 (ii 0)) o0 13 (ii 0)) r h'
  exact l_Heath_lay_L62 Γ FU o0 (ii 0) (wI (wI (wI (wI (wI (wI (wI (wI (wI h o0 5 a1) o0 6 a2) o0 7 a3) o0 8 a4) o0 9 (p_Math_min (((wI (wI (wI (wI h o0 5 a1) o0 6 a2) o0 7 a3) o0 8 a4).1 o0 5) * ((wI (wI (wI (wI h o0 5 a1) o0 6 a2) o0 7 a3) o0 8 a4).1 o0 6)) (ii 30))) o0 10 (ii 0)) o0 11 (ii 0)) o0 12 (ii 0)) o0 13 (ii 0)) _ hx r h' hP
set_option maxRecDepth 4000 in
theorem s_Heath_moisten (Γ : AG) (o0 : Nat) (a1 : Int32) (a2 : Int32) (h : AH) (x : AH) (hx : f_Heath_moisten o0 a1 a2 h = some x) : MetA Γ m_Heath_moisten [vr 3 0 o0, vi a1, vi a2] h (none) x := by
  refine Ev.met rfl rfl (Nat.le_of_ble_eq_true rfl) ?_
  show Ev Γ m_Heath_moisten 0 [some (vr 3 0 o0), some (vi a1), some (vi a2)] [] h _ _
  obtain ⟨r, hr⟩ : ∃ r : Option AV, r = none := ⟨_, rfl⟩
  obtain ⟨h', hh⟩ : ∃ h' : AH, h' = x := ⟨_, rfl⟩
  have hP : r = none ∧ h' = x := ⟨hr, hh⟩
  suffices hS : Ev Γ m_Heath_moisten 0 [some (vr 3 0 o0), some (vi a1), some (vi a2)] [] h r h' by rw [hr, hh] at hS; exact hS
  clear hr hh
  unfold f_Heath_moisten at hx
  refine Ev.blk (pc' := 2) (lv' := [some (vr 3 0 o0), some (vi a1), some (vi a2)]) (st' := [vi a1, vr 3 0 o0]) (h' := h) 0 2 (Nat.le_of_ble_eq_true rfl) tk_Heath_moisten rfl rfl ⟨trivial, trivial, trivial⟩ ?_
  refine Ev.callV (ν := m_Heath_isCell) (av := [vi a1]) (rest := []) (r1 := some (vi (p_Heath_isCell o0 a1 h))) (h1 := h) (ci := 3) (nn := 0) (o := o0) 2 1 tk_Heath_moisten rfl bb_Heath_isCell vv_Heath_isCell lk_3_71 (by decide) rfl rfl (Or.inl rfl) (Nat.le_of_ble_eq_true rfl) (s_Heath_isCell Γ o0 a1 h) ?_
  show Ev Γ m_Heath_moisten 5 [some (vr 3 0 o0), some (vi a1), some (vi a2)] [vi (p_Heath_isCell o0 a1 h)] h r h'
  refine Ev.if_eq 3 35 tk_Heath_moisten rfl (by decide) (fun hc1 => ?_) (fun hc1 => ?_)
  · replace hx := ip hc1 hx
    obtain rfl := Option.some.inj hx
    obtain ⟨rfl, rfl⟩ := hP
    exact Ev.vret 21 tk_Heath_moisten rfl rfl
  · replace hx := ia hc1 hx
    obtain ⟨hg2, hx⟩ := gd hx
    refine Ev.blk (pc' := 15) (lv' := [some (vr 3 0 o0), some (vi a1), some (vi a2)]) (st' := [vi (ii (-1)), vi (h.1 (o0 + 1) (a1).toNatClampNeg)]) (h' := h) 4 5 (Nat.le_of_ble_eq_true rfl) tk_Heath_moisten rfl rfl ⟨trivial, trivial, trivial, hg2, trivial, trivial⟩ ?_
    refine Ev.icmp_eq 9 28 tk_Heath_moisten rfl (by decide) (fun hc3 => ?_) (fun hc3 => ?_)
    · replace hx := ip hc3 hx
      obtain ⟨hg4, hx⟩ := gd hx
      refine Ev.blk (pc' := 35) (lv' := [some (vr 3 0 o0), some (vi a1), some (vi a2)]) (st' := []) (h' := (wI h (o0 + 1) a1.toNatClampNeg a2)) 16 5 (Nat.le_of_ble_eq_true rfl) tk_Heath_moisten rfl rfl ⟨trivial, trivial, trivial, trivial, hg4, trivial⟩ ?_
      obtain rfl := Option.some.inj hx
      obtain ⟨rfl, rfl⟩ := hP
      exact Ev.vret 21 tk_Heath_moisten rfl rfl
    · replace hx := ia hc3 hx
      obtain ⟨hg5, hx⟩ := gd hx
      refine Ev.blk (pc' := 25) (lv' := [some (vr 3 0 o0), some (vi a1), some (vi a2)]) (st' := [vi (h.1 (o0 + 1) (a1).toNatClampNeg), vi a2]) (h' := h) 10 5 (Nat.le_of_ble_eq_true rfl) tk_Heath_moisten rfl rfl ⟨trivial, trivial, trivial, trivial, hg5, trivial⟩ ?_
      refine Ev.icmp_ge 15 35 tk_Heath_moisten rfl (by decide) (fun hc6 => ?_) (fun hc6 => ?_)
      · replace hx := ip hc6 hx
        obtain rfl := Option.some.inj hx
        obtain ⟨rfl, rfl⟩ := hP
        exact Ev.vret 21 tk_Heath_moisten rfl rfl
      · replace hx := ia hc6 hx
        obtain ⟨hg7, hx⟩ := gd hx
        refine Ev.blk (pc' := 35) (lv' := [some (vr 3 0 o0), some (vi a1), some (vi a2)]) (st' := []) (h' := (wI h (o0 + 1) a1.toNatClampNeg a2)) 16 5 (Nat.le_of_ble_eq_true rfl) tk_Heath_moisten rfl rfl ⟨trivial, trivial, trivial, trivial, hg7, trivial⟩ ?_
        obtain rfl := Option.some.inj hx
        obtain ⟨rfl, rfl⟩ := hP
        exact Ev.vret 21 tk_Heath_moisten rfl rfl
set_option maxRecDepth 4000 in
theorem s_Heath_addVein (Γ : AG) (o0 : Nat) (a1 : Int32) (h : AH) (x : AH) (hx : f_Heath_addVein o0 a1 h = some x) : MetA Γ m_Heath_addVein [vr 3 0 o0, vi a1] h (none) x := by
  refine Ev.met rfl rfl (Nat.le_of_ble_eq_true rfl) ?_
  show Ev Γ m_Heath_addVein 0 [some (vr 3 0 o0), some (vi a1)] [] h _ _
  obtain ⟨r, hr⟩ : ∃ r : Option AV, r = none := ⟨_, rfl⟩
  obtain ⟨h', hh⟩ : ∃ h' : AH, h' = x := ⟨_, rfl⟩
  have hP : r = none ∧ h' = x := ⟨hr, hh⟩
  suffices hS : Ev Γ m_Heath_addVein 0 [some (vr 3 0 o0), some (vi a1)] [] h r h' by rw [hr, hh] at hS; exact hS
  clear hr hh
  unfold f_Heath_addVein at hx
  refine Ev.blk (pc' := 35) (lv' := [some (vr 3 0 o0), some (vi a1)]) (st' := []) (h' := (wI (wI (wI h o0 13 ((h.1 o0 13) ||| ((h.1 o0 12) &&& a1))) o0 12 (((wI h o0 13 ((h.1 o0 13) ||| ((h.1 o0 12) &&& a1))).1 o0 12) ||| a1)) o0 11 (((wI (wI h o0 13 ((h.1 o0 13) ||| ((h.1 o0 12) &&& a1))) o0 12 (((wI h o0 13 ((h.1 o0 13) ||| ((h.1 o0 12) &&& a1))).1 o0 12) ||| a1)).1 o0 11) + (ii 1)))) 0 21 (Nat.le_of_ble_eq_true rfl) tk_Heath_addVein rfl rfl ⟨trivial, trivial, trivial, trivial, trivial, trivial, trivial, trivial, trivial, trivial, trivial, trivial, trivial, trivial, trivial, trivial, trivial, trivial, trivial, trivial, trivial, trivial⟩ ?_
  obtain rfl := Option.some.inj hx
  obtain ⟨rfl, rfl⟩ := hP
  exact Ev.vret 21 tk_Heath_addVein rfl rfl
set_option maxRecDepth 4000 in
theorem l_HR_settleVein_L56 (Γ : AG) : ∀ (n : Nat) (v1 : Int32) (v2 : Int32) (v3 : Int32) (v4 : Int32) (v5 : Int32) (v6 : Int32) (h : AH) (x : Int32 × AH), HR_settleVein_L56 n v1 v2 v3 v4 v5 v6 h = some x → ∀ (r : Option AV) (h' : AH), r = some (vi x.1) ∧ h' = x.2 → Ev Γ m_HR_settleVein 56 [some (vr 2 0 3), some (vi v1), some (vi v2), some (vi v3), some (vi v4), some (vi v5), some (vi v6)] [] h r h' := by
  intro n
  induction n with
  | zero => intro v1 v2 v3 v4 v5 v6 h x hx; cases hx
  | succ n ih =>
    intro v1 v2 v3 v4 v5 v6 h x hx r h' hP
    replace hx : HR_settleVein_L56_b (HR_settleVein_L56 n) v1 v2 v3 v4 v5 v6 h = some x := hx
    unfold HR_settleVein_L56_b at hx
    obtain ⟨hg1, hx⟩ := gd hx
    refine Ev.blk (pc' := 64) (lv' := [some (vr 2 0 3), some (vi v1), some (vi v2), some (vi v3), some (vi v4), some (vi v5), some (vi v6)]) (st' := [vi (h.1 7 (v1).toNatClampNeg), vi v6]) (h' := h) 35 5 (Nat.le_of_ble_eq_true rfl) tk_HR_settleVein rfl rfl ⟨trivial, trivial, trivial, trivial, hg1, trivial⟩ ?_
    refine Ev.icmp_ge 40 131 tk_HR_settleVein rfl (by decide) (fun hc2 => ?_) (fun hc2 => ?_)
    · replace hx := ip hc2 hx
      refine Ev.blk (pc' := 137) (lv' := [some (vr 2 0 3), some (vi v1), some (vi v2), some (vi v3), some (vi v4), some (vi v5), some (vi v6)]) (st' := [vi v5, vr 3 0 (h.2.2 3 4)]) (h' := h) 78 3 (Nat.le_of_ble_eq_true rfl) tk_HR_settleVein rfl rfl ⟨trivial, trivial, trivial, trivial⟩ ?_
      obtain ⟨q1, hq3, hx⟩ := bd hx
      refine Ev.callV (ν := m_Heath_addVein) (av := [vi v5]) (rest := []) (r1 := none) (h1 := q1) (ci := 3) (nn := 0) (o := (h.2.2 3 4)) 81 1 tk_HR_settleVein rfl bb_Heath_addVein vv_Heath_addVein lk_2_153 (by decide) rfl rfl (Or.inl rfl) (Nat.le_of_ble_eq_true rfl) (s_Heath_addVein Γ (h.2.2 3 4) v5 h _ hq3) ?_
      show Ev Γ m_HR_settleVein 140 [some (vr 2 0 3), some (vi v1), some (vi v2), some (vi v3), some (vi v4), some (vi v5), some (vi v6)] [] q1 r h'
      refine Ev.blk (pc' := 141) (lv' := [some (vr 2 0 3), some (vi v1), some (vi v2), some (vi v3), some (vi v4), some (vi v5), some (vi v6)]) (st' := [vi (ii 1)]) (h' := q1) 82 1 (Nat.le_of_ble_eq_true rfl) tk_HR_settleVein rfl rfl ⟨trivial, trivial⟩ ?_
      obtain rfl := Option.some.inj hx
      obtain ⟨rfl, rfl⟩ := hP
      exact Ev.zret 83 tk_HR_settleVein rfl rfl rfl
    · replace hx := ia hc2 hx
      refine Ev.blk (pc' := 71) (lv' := [some (vr 2 0 3), some (vi v1), some (vi v2), some (vi v3), some (vi v4), some (vi v5), some (vi v6)]) (st' := [vi (ii 8), vi v6]) (h' := h) 41 2 (Nat.le_of_ble_eq_true rfl) tk_HR_settleVein rfl rfl ⟨trivial, trivial, trivial⟩ ?_
      refine Ev.icmp_ge 43 131 tk_HR_settleVein rfl (by decide) (fun hc4 => ?_) (fun hc4 => ?_)
      · replace hx := ip hc4 hx
        refine Ev.blk (pc' := 137) (lv' := [some (vr 2 0 3), some (vi v1), some (vi v2), some (vi v3), some (vi v4), some (vi v5), some (vi v6)]) (st' := [vi v5, vr 3 0 (h.2.2 3 4)]) (h' := h) 78 3 (Nat.le_of_ble_eq_true rfl) tk_HR_settleVein rfl rfl ⟨trivial, trivial, trivial, trivial⟩ ?_
        obtain ⟨q2, hq5, hx⟩ := bd hx
        refine Ev.callV (ν := m_Heath_addVein) (av := [vi v5]) (rest := []) (r1 := none) (h1 := q2) (ci := 3) (nn := 0) (o := (h.2.2 3 4)) 81 1 tk_HR_settleVein rfl bb_Heath_addVein vv_Heath_addVein lk_2_153 (by decide) rfl rfl (Or.inl rfl) (Nat.le_of_ble_eq_true rfl) (s_Heath_addVein Γ (h.2.2 3 4) v5 h _ hq5) ?_
        show Ev Γ m_HR_settleVein 140 [some (vr 2 0 3), some (vi v1), some (vi v2), some (vi v3), some (vi v4), some (vi v5), some (vi v6)] [] q2 r h'
        refine Ev.blk (pc' := 141) (lv' := [some (vr 2 0 3), some (vi v1), some (vi v2), some (vi v3), some (vi v4), some (vi v5), some (vi v6)]) (st' := [vi (ii 1)]) (h' := q2) 82 1 (Nat.le_of_ble_eq_true rfl) tk_HR_settleVein rfl rfl ⟨trivial, trivial⟩ ?_
        obtain rfl := Option.some.inj hx
        obtain ⟨rfl, rfl⟩ := hP
        exact Ev.zret 83 tk_HR_settleVein rfl rfl rfl
      · replace hx := ia hc4 hx
        obtain ⟨hg6, hx⟩ := gd hx
        refine Ev.blk (pc' := 91) (lv' := [some (vr 2 0 3), some (vi v1), some (vi v2), some (vi v3), some (vi v4), some (vi v5), some (vi v6)]) (st' := [vi (h.1 6 ((v1 * (ii 8)) + v6).toNatClampNeg), vi v2, vr 3 0 (h.2.2 3 4)]) (h' := h) 44 11 (Nat.le_of_ble_eq_true rfl) tk_HR_settleVein rfl rfl ⟨trivial, trivial, trivial, trivial, trivial, trivial, trivial, trivial, trivial, trivial, hg6, trivial⟩ ?_
        obtain ⟨q3, hq7, hx⟩ := bd hx
        refine Ev.callV (ν := m_Heath_beyond) (av := [vi v2, vi (h.1 6 ((v1 * (ii 8)) + v6).toNatClampNeg)]) (rest := []) (r1 := some (vi q3)) (h1 := h) (ci := 3) (nn := 0) (o := (h.2.2 3 4)) 55 2 tk_HR_settleVein rfl bb_Heath_beyond vv_Heath_beyond lk_2_149 (by decide) rfl rfl (Or.inl rfl) (Nat.le_of_ble_eq_true rfl) (s_Heath_beyond Γ (h.2.2 3 4) v2 (h.1 6 ((v1 * (ii 8)) + v6).toNatClampNeg) h _ hq7) ?_
        show Ev Γ m_HR_settleVein 94 [some (vr 2 0 3), some (vi v1), some (vi v2), some (vi v3), some (vi v4), some (vi v5), some (vi v6)] [vi q3] h r h'
        refine Ev.blk (pc' := 97) (lv' := [some (vr 2 0 3), some (vi v1), some (vi q3), some (vi v3), some (vi v4), some (vi v5), some (vi v6)]) (st' := [vi (ii (-1)), vi q3]) (h' := h) 56 3 (Nat.le_of_ble_eq_true rfl) tk_HR_settleVein rfl rfl ⟨trivial, trivial, trivial, trivial⟩ ?_
        refine Ev.icmp_ne 59 102 tk_HR_settleVein rfl (by decide) (fun hc8 => ?_) (fun hc8 => ?_)
        · replace hx := ia hc8 hx
          refine Ev.blk (pc' := 113) (lv' := [some (vr 2 0 3), some (vi v1), some (vi q3), some (vi (v3 + v4)), some (vi v4), some (vi v5), some (vi v6)]) (st' := [vi (v3 + v4), vi q3, vr 3 0 (h.2.2 3 4)]) (h' := h) 62 8 (Nat.le_of_ble_eq_true rfl) tk_HR_settleVein rfl rfl ⟨trivial, trivial, trivial, trivial, trivial, trivial, trivial, trivial, trivial⟩ ?_
          obtain ⟨q4, hq9, hx⟩ := bd hx
          refine Ev.callV (ν := m_Heath_moisten) (av := [vi q3, vi (v3 + v4)]) (rest := []) (r1 := none) (h1 := q4) (ci := 3) (nn := 0) (o := (h.2.2 3 4)) 70 2 tk_HR_settleVein rfl bb_Heath_moisten vv_Heath_moisten lk_2_146 (by decide) rfl rfl (Or.inl rfl) (Nat.le_of_ble_eq_true rfl) (s_Heath_moisten Γ (h.2.2 3 4) q3 (v3 + v4) h _ hq9) ?_
          show Ev Γ m_HR_settleVein 116 [some (vr 2 0 3), some (vi v1), some (vi q3), some (vi (v3 + v4)), some (vi v4), some (vi v5), some (vi v6)] [] q4 r h'
          refine Ev.blk (pc' := 119) (lv' := [some (vr 2 0 3), some (vi v1), some (vi q3), some (vi (v3 + v4)), some (vi v4), some (vi v5), some (vi v6)]) (st' := [vi q3, vi v5]) (h' := q4) 71 2 (Nat.le_of_ble_eq_true rfl) tk_HR_settleVein rfl rfl ⟨trivial, trivial, trivial⟩ ?_
          refine Ev.callSN (ν := m_HF_bit) (av := [vi q3]) (rest := [vi v5]) (r1 := some (vi (p_HF_bit q3))) (h1 := q4) 73 1 tk_HR_settleVein rfl bb_HF_bit vv_HF_bit lk_2_95 (by decide) rfl rfl (Nat.le_of_ble_eq_true rfl) (s_HF_bit Γ q3 q4) ?_
          show Ev Γ m_HR_settleVein 122 [some (vr 2 0 3), some (vi v1), some (vi q3), some (vi (v3 + v4)), some (vi v4), some (vi v5), some (vi v6)] [vi (p_HF_bit q3), vi v5] q4 r h'
          refine Ev.blk (pc' := 56) (lv' := [some (vr 2 0 3), some (vi v1), some (vi q3), some (vi (v3 + v4)), some (vi v4), some (vi (v5 ||| (p_HF_bit q3))), some (vi (v6 + ii 1))]) (st' := []) (h' := q4) 74 4 (Nat.le_of_ble_eq_true rfl) tk_HR_settleVein rfl rfl ⟨trivial, trivial, trivial, trivial, trivial⟩ ?_
          exact Ev.msk [true, true, true, true, true, true, true] (ih v1 q3 (v3 + v4) v4 (v5 ||| (p_HF_bit q3)) (v6 + ii 1) q4 _ hx r h' hP)
        · replace hx := ip hc8 hx
          refine Ev.blk (pc' := 101) (lv' := [some (vr 2 0 3), some (vi v1), some (vi q3), some (vi v3), some (vi v4), some (vi v5), some (vi v6)]) (st' := [vi (ii 0)]) (h' := h) 60 1 (Nat.le_of_ble_eq_true rfl) tk_HR_settleVein rfl rfl ⟨trivial, trivial⟩ ?_
          obtain rfl := Option.some.inj hx
          obtain ⟨rfl, rfl⟩ := hP
          exact Ev.zret 61 tk_HR_settleVein rfl rfl rfl
set_option maxRecDepth 4000 in
theorem s_HR_settleVein (Γ : AG) (a1 : Int32) (h : AH) (x : Int32 × AH) (hx : f_HR_settleVein a1 h = some x) : MetA Γ m_HR_settleVein [vr 2 0 3, vi a1] h (some (vi x.1)) x.2 := by
  refine Ev.met rfl rfl (Nat.le_of_ble_eq_true rfl) ?_
  show Ev Γ m_HR_settleVein 0 [some (vr 2 0 3), some (vi a1), none, none, none, none, none] [] h _ _
  obtain ⟨r, hr⟩ : ∃ r : Option AV, r = some (vi x.1) := ⟨_, rfl⟩
  obtain ⟨h', hh⟩ : ∃ h' : AH, h' = x.2 := ⟨_, rfl⟩
  have hP : r = some (vi x.1) ∧ h' = x.2 := ⟨hr, hh⟩
  suffices hS : Ev Γ m_HR_settleVein 0 [some (vr 2 0 3), some (vi a1), none, none, none, none, none] [] h r h' by rw [hr, hh] at hS; exact hS
  clear hr hh
  unfold f_HR_settleVein at hx
  refine Ev.blk (pc' := 4) (lv' := [some (vr 2 0 3), some (vi a1), none, none, none, none, none]) (st' := [vi (ii 0), vi a1, vi (ii 1), vr 2 0 3]) (h' := h) 0 4 (Nat.le_of_ble_eq_true rfl) tk_HR_settleVein rfl rfl ⟨trivial, trivial, trivial, trivial, trivial⟩ ?_
  obtain ⟨q1, hq1, hx⟩ := bd hx
  refine Ev.callV (ν := m_HR_itemOf) (av := [vi (ii 1), vi a1, vi (ii 0)]) (rest := []) (r1 := some (vi q1)) (h1 := h) (ci := 2) (nn := 0) (o := 3) 4 3 tk_HR_settleVein rfl bb_HR_itemOf vv_HR_itemOf lk_2_121 (by decide) rfl rfl (Or.inl rfl) (Nat.le_of_ble_eq_true rfl) (s_HR_itemOf Γ (ii 1) a1 (ii 0) h _ hq1) ?_
  show Ev Γ m_HR_settleVein 7 [some (vr 2 0 3), some (vi a1), none, none, none, none, none] [vi q1] h r h'
  refine Ev.blk (pc' := 12) (lv' := [some (vr 2 0 3), some (vi a1), some (vi q1), none, none, none, none]) (st' := [vi (ii 1), vi a1, vi (ii 1), vr 2 0 3]) (h' := h) 5 5 (Nat.le_of_ble_eq_true rfl) tk_HR_settleVein rfl rfl ⟨trivial, trivial, trivial, trivial, trivial, trivial⟩ ?_
  obtain ⟨q2, hq2, hx⟩ := bd hx
  refine Ev.callV (ν := m_HR_itemOf) (av := [vi (ii 1), vi a1, vi (ii 1)]) (rest := []) (r1 := some (vi q2)) (h1 := h) (ci := 2) (nn := 0) (o := 3) 10 3 tk_HR_settleVein rfl bb_HR_itemOf vv_HR_itemOf lk_2_121 (by decide) rfl rfl (Or.inl rfl) (Nat.le_of_ble_eq_true rfl) (s_HR_itemOf Γ (ii 1) a1 (ii 1) h _ hq2) ?_
  show Ev Γ m_HR_settleVein 15 [some (vr 2 0 3), some (vi a1), some (vi q1), none, none, none, none] [vi q2] h r h'
  refine Ev.blk (pc' := 20) (lv' := [some (vr 2 0 3), some (vi a1), some (vi q1), some (vi q2), none, none, none]) (st' := [vi (ii 2), vi a1, vi (ii 1), vr 2 0 3]) (h' := h) 11 5 (Nat.le_of_ble_eq_true rfl) tk_HR_settleVein rfl rfl ⟨trivial, trivial, trivial, trivial, trivial, trivial⟩ ?_
  obtain ⟨q3, hq3, hx⟩ := bd hx
  refine Ev.callV (ν := m_HR_itemOf) (av := [vi (ii 1), vi a1, vi (ii 2)]) (rest := []) (r1 := some (vi q3)) (h1 := h) (ci := 2) (nn := 0) (o := 3) 16 3 tk_HR_settleVein rfl bb_HR_itemOf vv_HR_itemOf lk_2_121 (by decide) rfl rfl (Or.inl rfl) (Nat.le_of_ble_eq_true rfl) (s_HR_itemOf Γ (ii 1) a1 (ii 2) h _ hq3) ?_
  show Ev Γ m_HR_settleVein 23 [some (vr 2 0 3), some (vi a1), some (vi q1), some (vi q2), none, none, none] [vi q3] h r h'
  refine Ev.blk (pc' := 30) (lv' := [some (vr 2 0 3), some (vi a1), some (vi q1), some (vi q2), some (vi q3), none, none]) (st' := [vi q1, vr 3 0 (h.2.2 3 4)]) (h' := h) 17 4 (Nat.le_of_ble_eq_true rfl) tk_HR_settleVein rfl rfl ⟨trivial, trivial, trivial, trivial, trivial⟩ ?_
  refine Ev.callV (ν := m_Heath_isCell) (av := [vi q1]) (rest := []) (r1 := some (vi (p_Heath_isCell (h.2.2 3 4) q1 h))) (h1 := h) (ci := 3) (nn := 0) (o := (h.2.2 3 4)) 21 1 tk_HR_settleVein rfl bb_Heath_isCell vv_Heath_isCell lk_2_143 (by decide) rfl rfl (Or.inl rfl) (Nat.le_of_ble_eq_true rfl) (s_Heath_isCell Γ (h.2.2 3 4) q1 h) ?_
  show Ev Γ m_HR_settleVein 33 [some (vr 2 0 3), some (vi a1), some (vi q1), some (vi q2), some (vi q3), none, none] [vi (p_Heath_isCell (h.2.2 3 4) q1 h)] h r h'
  refine Ev.if_ne 22 38 tk_HR_settleVein rfl (by decide) (fun hc4 => ?_) (fun hc4 => ?_)
  · replace hx := ia hc4 hx
    refine Ev.blk (pc' := 44) (lv' := [some (vr 2 0 3), some (vi a1), some (vi q1), some (vi q2), some (vi q3), none, none]) (st' := [vi q2, vi q1, vr 3 0 (h.2.2 3 4)]) (h' := h) 25 4 (Nat.le_of_ble_eq_true rfl) tk_HR_settleVein rfl rfl ⟨trivial, trivial, trivial, trivial, trivial⟩ ?_
    obtain ⟨q4, hq5, hx⟩ := bd hx
    refine Ev.callV (ν := m_Heath_moisten) (av := [vi q1, vi q2]) (rest := []) (r1 := none) (h1 := q4) (ci := 3) (nn := 0) (o := (h.2.2 3 4)) 29 2 tk_HR_settleVein rfl bb_Heath_moisten vv_Heath_moisten lk_2_146 (by decide) rfl rfl (Or.inl rfl) (Nat.le_of_ble_eq_true rfl) (s_Heath_moisten Γ (h.2.2 3 4) q1 q2 h _ hq5) ?_
    show Ev Γ m_HR_settleVein 47 [some (vr 2 0 3), some (vi a1), some (vi q1), some (vi q2), some (vi q3), none, none] [] q4 r h'
    refine Ev.blk (pc' := 48) (lv' := [some (vr 2 0 3), some (vi a1), some (vi q1), some (vi q2), some (vi q3), none, none]) (st' := [vi q1]) (h' := q4) 30 1 (Nat.le_of_ble_eq_true rfl) tk_HR_settleVein rfl rfl ⟨trivial, trivial⟩ ?_
    refine Ev.callSN (ν := m_HF_bit) (av := [vi q1]) (rest := []) (r1 := some (vi (p_HF_bit q1))) (h1 := q4) 31 1 tk_HR_settleVein rfl bb_HF_bit vv_HF_bit lk_2_95 (by decide) rfl rfl (Nat.le_of_ble_eq_true rfl) (s_HF_bit Γ q1 q4) ?_
    show Ev Γ m_HR_settleVein 51 [some (vr 2 0 3), some (vi a1), some (vi q1), some (vi q2), some (vi q3), none, none] [vi (p_HF_bit q1)] q4 r h'
    refine Ev.blk (pc' := 56) (lv' := [some (vr 2 0 3), some (vi a1), some (vi q1), some (vi q2), some (vi q3), some (vi (p_HF_bit q1)), some (vi (ii 0))]) (st' := []) (h' := q4) 32 3 (Nat.le_of_ble_eq_true rfl) tk_HR_settleVein rfl rfl ⟨trivial, trivial, trivial, trivial⟩ ?_
    refine Ev.msk [true, true, true, true, true, true, true] ?_
    show Ev Γ m_HR_settleVein 56 [some (vr 2 0 3), some (vi a1), some (vi q1), some (vi q2), some (vi q3), some (vi (p_HF_bit q1)), some (vi (ii 0))] [] q4 r h'
    exact l_HR_settleVein_L56 Γ FU a1 q1 q2 q3 (p_HF_bit q1) (ii 0) q4 _ hx r h' hP
  · replace hx := ip hc4 hx
    refine Ev.blk (pc' := 37) (lv' := [some (vr 2 0 3), some (vi a1), some (vi q1), some (vi q2), some (vi q3), none, none]) (st' := [vi (ii 0)]) (h' := h) 23 1 (Nat.le_of_ble_eq_true rfl) tk_HR_settleVein rfl rfl ⟨trivial, trivial⟩ ?_
    obtain rfl := Option.some.inj hx
    obtain ⟨rfl, rfl⟩ := hP
    exact Ev.zret 24 tk_HR_settleVein rfl rfl rfl
set_option maxRecDepth 4000 in
theorem s_Heath_addIron (Γ : AG) (o0 : Nat) (a1 : Int32) (a2 : Int32) (h : AH) (x : Int32 × AH) (hx : f_Heath_addIron o0 a1 a2 h = some x) : MetA Γ m_Heath_addIron [vr 3 0 o0, vi a1, vi a2] h (some (vi x.1)) x.2 := by
  refine Ev.met rfl rfl (Nat.le_of_ble_eq_true rfl) ?_
  show Ev Γ m_Heath_addIron 0 [some (vr 3 0 o0), some (vi a1), some (vi a2)] [] h _ _
  obtain ⟨r, hr⟩ : ∃ r : Option AV, r = some (vi x.1) := ⟨_, rfl⟩
  obtain ⟨h', hh⟩ : ∃ h' : AH, h' = x.2 := ⟨_, rfl⟩
  have hP : r = some (vi x.1) ∧ h' = x.2 := ⟨hr, hh⟩
  suffices hS : Ev Γ m_Heath_addIron 0 [some (vr 3 0 o0), some (vi a1), some (vi a2)] [] h r h' by rw [hr, hh] at hS; exact hS
  clear hr hh
  unfold f_Heath_addIron at hx
  refine Ev.blk (pc' := 2) (lv' := [some (vr 3 0 o0), some (vi a1), some (vi a2)]) (st' := [vi a1, vr 3 0 o0]) (h' := h) 0 2 (Nat.le_of_ble_eq_true rfl) tk_Heath_addIron rfl rfl ⟨trivial, trivial, trivial⟩ ?_
  refine Ev.callV (ν := m_Heath_isCell) (av := [vi a1]) (rest := []) (r1 := some (vi (p_Heath_isCell o0 a1 h))) (h1 := h) (ci := 3) (nn := 0) (o := o0) 2 1 tk_Heath_addIron rfl bb_Heath_isCell vv_Heath_isCell lk_3_71 (by decide) rfl rfl (Or.inl rfl) (Nat.le_of_ble_eq_true rfl) (s_Heath_isCell Γ o0 a1 h) ?_
  show Ev Γ m_Heath_addIron 5 [some (vr 3 0 o0), some (vi a1), some (vi a2)] [vi (p_Heath_isCell o0 a1 h)] h r h'
  refine Ev.if_eq 3 18 tk_Heath_addIron rfl (by decide) (fun hc1 => ?_) (fun hc1 => ?_)
  · replace hx := ip hc1 hx
    refine Ev.blk (pc' := 19) (lv' := [some (vr 3 0 o0), some (vi a1), some (vi a2)]) (st' := [vi (ii 0)]) (h' := h) 10 1 (Nat.le_of_ble_eq_true rfl) tk_Heath_addIron rfl rfl ⟨trivial, trivial⟩ ?_
    obtain rfl := Option.some.inj hx
    obtain ⟨rfl, rfl⟩ := hP
    exact Ev.zret 11 tk_Heath_addIron rfl rfl rfl
  · replace hx := ia hc1 hx
    obtain ⟨hg2, hx⟩ := gd hx
    refine Ev.blk (pc' := 15) (lv' := [some (vr 3 0 o0), some (vi a1), some (vi a2)]) (st' := [vi (ii (-1)), vi (h.1 (o0 + 2) (a1).toNatClampNeg)]) (h' := h) 4 5 (Nat.le_of_ble_eq_true rfl) tk_Heath_addIron rfl rfl ⟨trivial, trivial, trivial, hg2, trivial, trivial⟩ ?_
    refine Ev.icmp_eq 9 20 tk_Heath_addIron rfl (by decide) (fun hc3 => ?_) (fun hc3 => ?_)
    · replace hx := ip hc3 hx
      obtain ⟨hg4, hx⟩ := gd hx
      refine Ev.blk (pc' := 28) (lv' := [some (vr 3 0 o0), some (vi a1), some (vi a2)]) (st' := [vi (ii 1)]) (h' := (wI h (o0 + 2) a1.toNatClampNeg a2)) 12 6 (Nat.le_of_ble_eq_true rfl) tk_Heath_addIron rfl rfl ⟨trivial, trivial, trivial, trivial, hg4, trivial, trivial⟩ ?_
      obtain rfl := Option.some.inj hx
      obtain ⟨rfl, rfl⟩ := hP
      exact Ev.zret 18 tk_Heath_addIron rfl rfl rfl
    · replace hx := ia hc3 hx
      refine Ev.blk (pc' := 19) (lv' := [some (vr 3 0 o0), some (vi a1), some (vi a2)]) (st' := [vi (ii 0)]) (h' := h) 10 1 (Nat.le_of_ble_eq_true rfl) tk_Heath_addIron rfl rfl ⟨trivial, trivial⟩ ?_
      obtain rfl := Option.some.inj hx
      obtain ⟨rfl, rfl⟩ := hP
      exact Ev.zret 11 tk_Heath_addIron rfl rfl rfl
set_option maxRecDepth 4000 in
theorem s_Heath_addRock (Γ : AG) (o0 : Nat) (a1 : Int32) (a2 : Int32) (h : AH) (x : Int32 × AH) (hx : f_Heath_addRock o0 a1 a2 h = some x) : MetA Γ m_Heath_addRock [vr 3 0 o0, vi a1, vi a2] h (some (vi x.1)) x.2 := by
  refine Ev.met rfl rfl (Nat.le_of_ble_eq_true rfl) ?_
  show Ev Γ m_Heath_addRock 0 [some (vr 3 0 o0), some (vi a1), some (vi a2)] [] h _ _
  obtain ⟨r, hr⟩ : ∃ r : Option AV, r = some (vi x.1) := ⟨_, rfl⟩
  obtain ⟨h', hh⟩ : ∃ h' : AH, h' = x.2 := ⟨_, rfl⟩
  have hP : r = some (vi x.1) ∧ h' = x.2 := ⟨hr, hh⟩
  suffices hS : Ev Γ m_Heath_addRock 0 [some (vr 3 0 o0), some (vi a1), some (vi a2)] [] h r h' by rw [hr, hh] at hS; exact hS
  clear hr hh
  unfold f_Heath_addRock at hx
  refine Ev.blk (pc' := 2) (lv' := [some (vr 3 0 o0), some (vi a1), some (vi a2)]) (st' := [vi a1, vr 3 0 o0]) (h' := h) 0 2 (Nat.le_of_ble_eq_true rfl) tk_Heath_addRock rfl rfl ⟨trivial, trivial, trivial⟩ ?_
  refine Ev.callV (ν := m_Heath_isCell) (av := [vi a1]) (rest := []) (r1 := some (vi (p_Heath_isCell o0 a1 h))) (h1 := h) (ci := 3) (nn := 0) (o := o0) 2 1 tk_Heath_addRock rfl bb_Heath_isCell vv_Heath_isCell lk_3_71 (by decide) rfl rfl (Or.inl rfl) (Nat.le_of_ble_eq_true rfl) (s_Heath_isCell Γ o0 a1 h) ?_
  show Ev Γ m_Heath_addRock 5 [some (vr 3 0 o0), some (vi a1), some (vi a2)] [vi (p_Heath_isCell o0 a1 h)] h r h'
  refine Ev.if_eq 3 17 tk_Heath_addRock rfl (by decide) (fun hc1 => ?_) (fun hc1 => ?_)
  · replace hx := ip hc1 hx
    refine Ev.blk (pc' := 18) (lv' := [some (vr 3 0 o0), some (vi a1), some (vi a2)]) (st' := [vi (ii 0)]) (h' := h) 9 1 (Nat.le_of_ble_eq_true rfl) tk_Heath_addRock rfl rfl ⟨trivial, trivial⟩ ?_
    obtain rfl := Option.some.inj hx
    obtain ⟨rfl, rfl⟩ := hP
    exact Ev.zret 10 tk_Heath_addRock rfl rfl rfl
  · replace hx := ia hc1 hx
    obtain ⟨hg2, hx⟩ := gd hx
    refine Ev.blk (pc' := 14) (lv' := [some (vr 3 0 o0), some (vi a1), some (vi a2)]) (st' := [vi (h.1 (o0 + 3) (a1).toNatClampNeg)]) (h' := h) 4 4 (Nat.le_of_ble_eq_true rfl) tk_Heath_addRock rfl rfl ⟨trivial, trivial, trivial, hg2, trivial⟩ ?_
    refine Ev.if_eq 8 19 tk_Heath_addRock rfl (by decide) (fun hc3 => ?_) (fun hc3 => ?_)
    · replace hx := ip hc3 hx
      obtain ⟨hg4, hx⟩ := gd hx
      refine Ev.blk (pc' := 27) (lv' := [some (vr 3 0 o0), some (vi a1), some (vi a2)]) (st' := [vi (ii 1)]) (h' := (wI h (o0 + 3) a1.toNatClampNeg a2)) 11 6 (Nat.le_of_ble_eq_true rfl) tk_Heath_addRock rfl rfl ⟨trivial, trivial, trivial, trivial, hg4, trivial, trivial⟩ ?_
      obtain rfl := Option.some.inj hx
      obtain ⟨rfl, rfl⟩ := hP
      exact Ev.zret 17 tk_Heath_addRock rfl rfl rfl
    · replace hx := ia hc3 hx
      refine Ev.blk (pc' := 18) (lv' := [some (vr 3 0 o0), some (vi a1), some (vi a2)]) (st' := [vi (ii 0)]) (h' := h) 9 1 (Nat.le_of_ble_eq_true rfl) tk_Heath_addRock rfl rfl ⟨trivial, trivial⟩ ?_
      obtain rfl := Option.some.inj hx
      obtain ⟨rfl, rfl⟩ := hP
      exact Ev.zret 10 tk_Heath_addRock rfl rfl rfl
theorem s_Heath_isFork (Γ : AG) (o0 : Nat) (a1 : Int32) (h : AH) : MetA Γ m_Heath_isFork [vr 3 0 o0, vi a1] h (some (vi (p_Heath_isFork o0 a1 h))) h := by
  refine Ev.met rfl rfl (Nat.le_of_ble_eq_true rfl) ?_
  generalize hx : p_Heath_isFork o0 a1 h = x
  show Ev Γ m_Heath_isFork 0 [some (vr 3 0 o0), some (vi a1)] [] h _ _
  obtain ⟨r, hr⟩ : ∃ r : Option AV, r = some (vi x) := ⟨_, rfl⟩
  obtain ⟨h', hh⟩ : ∃ h' : AH, h' = h := ⟨_, rfl⟩
  have hP : r = some (vi x) ∧ h' = h := ⟨hr, hh⟩
  suffices hS : Ev Γ m_Heath_isFork 0 [some (vr 3 0 o0), some (vi a1)] [] h r h' by rw [hr, hh] at hS; exact hS
  clear hr hh
  unfold p_Heath_isFork at hx
  refine Ev.blk (pc' := 1) (lv' := [some (vr 3 0 o0), some (vi a1)]) (st' := [vi a1]) (h' := h) 0 1 (Nat.le_of_ble_eq_true rfl) tk_Heath_isFork rfl rfl ⟨trivial, trivial⟩ ?_
  refine Ev.if_lt 1 22 tk_Heath_isFork rfl (by decide) (fun hc1 => ?_) (fun hc1 => ?_)
  · replace hx := ip hc1 hx
    refine Ev.blk (pc' := 23) (lv' := [some (vr 3 0 o0), some (vi a1)]) (st' := [vi (ii 0)]) (h' := h) 11 1 (Nat.le_of_ble_eq_true rfl) tk_Heath_isFork rfl rfl ⟨trivial, trivial⟩ ?_
    subst hx
    obtain ⟨rfl, rfl⟩ := hP
    exact Ev.zret 12 tk_Heath_isFork rfl rfl rfl
  · replace hx := ia hc1 hx
    refine Ev.blk (pc' := 9) (lv' := [some (vr 3 0 o0), some (vi a1)]) (st' := [vi (h.1 o0 10), vi a1]) (h' := h) 2 3 (Nat.le_of_ble_eq_true rfl) tk_Heath_isFork rfl rfl ⟨trivial, trivial, trivial, trivial⟩ ?_
    refine Ev.icmp_ge 5 22 tk_Heath_isFork rfl (by decide) (fun hc2 => ?_) (fun hc2 => ?_)
    · replace hx := ip hc2 hx
      refine Ev.blk (pc' := 23) (lv' := [some (vr 3 0 o0), some (vi a1)]) (st' := [vi (ii 0)]) (h' := h) 11 1 (Nat.le_of_ble_eq_true rfl) tk_Heath_isFork rfl rfl ⟨trivial, trivial⟩ ?_
      subst hx
      obtain ⟨rfl, rfl⟩ := hP
      exact Ev.zret 12 tk_Heath_isFork rfl rfl rfl
    · replace hx := ia hc2 hx
      refine Ev.blk (pc' := 15) (lv' := [some (vr 3 0 o0), some (vi a1)]) (st' := [vi (ii 6), vi a1]) (h' := h) 6 2 (Nat.le_of_ble_eq_true rfl) tk_Heath_isFork rfl rfl ⟨trivial, trivial, trivial⟩ ?_
      refine Ev.icmp_ge 8 22 tk_Heath_isFork rfl (by decide) (fun hc3 => ?_) (fun hc3 => ?_)
      · replace hx := ip hc3 hx
        refine Ev.blk (pc' := 23) (lv' := [some (vr 3 0 o0), some (vi a1)]) (st' := [vi (ii 0)]) (h' := h) 11 1 (Nat.le_of_ble_eq_true rfl) tk_Heath_isFork rfl rfl ⟨trivial, trivial⟩ ?_
        subst hx
        obtain ⟨rfl, rfl⟩ := hP
        exact Ev.zret 12 tk_Heath_isFork rfl rfl rfl
      · replace hx := ia hc3 hx
        refine Ev.blk (pc' := 23) (lv' := [some (vr 3 0 o0), some (vi a1)]) (st' := [vi (ii 1)]) (h' := h) 9 2 (Nat.le_of_ble_eq_true rfl) tk_Heath_isFork rfl rfl ⟨trivial, trivial, trivial⟩ ?_
        subst hx
        obtain ⟨rfl, rfl⟩ := hP
        exact Ev.zret 12 tk_Heath_isFork rfl rfl rfl
set_option maxRecDepth 4000 in
theorem s_Heath_setTrait (Γ : AG) (o0 : Nat) (a1 : Int32) (a2 : Int32) (a3 : Int32) (h : AH) (x : AH) (hx : f_Heath_setTrait o0 a1 a2 a3 h = some x) : MetA Γ m_Heath_setTrait [vr 3 0 o0, vi a1, vi a2, vi a3] h (none) x := by
  refine Ev.met rfl rfl (Nat.le_of_ble_eq_true rfl) ?_
  show Ev Γ m_Heath_setTrait 0 [some (vr 3 0 o0), some (vi a1), some (vi a2), some (vi a3)] [] h _ _
  obtain ⟨r, hr⟩ : ∃ r : Option AV, r = none := ⟨_, rfl⟩
  obtain ⟨h', hh⟩ : ∃ h' : AH, h' = x := ⟨_, rfl⟩
  have hP : r = none ∧ h' = x := ⟨hr, hh⟩
  suffices hS : Ev Γ m_Heath_setTrait 0 [some (vr 3 0 o0), some (vi a1), some (vi a2), some (vi a3)] [] h r h' by rw [hr, hh] at hS; exact hS
  clear hr hh
  unfold f_Heath_setTrait at hx
  refine Ev.blk (pc' := 2) (lv' := [some (vr 3 0 o0), some (vi a1), some (vi a2), some (vi a3)]) (st' := [vi a1, vr 3 0 o0]) (h' := h) 0 2 (Nat.le_of_ble_eq_true rfl) tk_Heath_setTrait rfl rfl ⟨trivial, trivial, trivial⟩ ?_
  refine Ev.callV (ν := m_Heath_isFork) (av := [vi a1]) (rest := []) (r1 := some (vi (p_Heath_isFork o0 a1 h))) (h1 := h) (ci := 3) (nn := 0) (o := o0) 2 1 tk_Heath_setTrait rfl bb_Heath_isFork vv_Heath_isFork lk_3_94 (by decide) rfl rfl (Or.inl rfl) (Nat.le_of_ble_eq_true rfl) (s_Heath_isFork Γ o0 a1 h) ?_
  show Ev Γ m_Heath_setTrait 5 [some (vr 3 0 o0), some (vi a1), some (vi a2), some (vi a3)] [vi (p_Heath_isFork o0 a1 h)] h r h'
  refine Ev.if_eq 3 30 tk_Heath_setTrait rfl (by decide) (fun hc1 => ?_) (fun hc1 => ?_)
  · replace hx := ip hc1 hx
    obtain rfl := Option.some.inj hx
    obtain ⟨rfl, rfl⟩ := hP
    exact Ev.vret 18 tk_Heath_setTrait rfl rfl
  · replace hx := ia hc1 hx
    refine Ev.blk (pc' := 9) (lv' := [some (vr 3 0 o0), some (vi a1), some (vi a2), some (vi a3)]) (st' := [vi a2]) (h' := h) 4 1 (Nat.le_of_ble_eq_true rfl) tk_Heath_setTrait rfl rfl ⟨trivial, trivial⟩ ?_
    refine Ev.if_lt 5 30 tk_Heath_setTrait rfl (by decide) (fun hc2 => ?_) (fun hc2 => ?_)
    · replace hx := ip hc2 hx
      obtain rfl := Option.some.inj hx
      obtain ⟨rfl, rfl⟩ := hP
      exact Ev.vret 18 tk_Heath_setTrait rfl rfl
    · replace hx := ia hc2 hx
      refine Ev.blk (pc' := 15) (lv' := [some (vr 3 0 o0), some (vi a1), some (vi a2), some (vi a3)]) (st' := [vi (ii 6), vi a2]) (h' := h) 6 2 (Nat.le_of_ble_eq_true rfl) tk_Heath_setTrait rfl rfl ⟨trivial, trivial, trivial⟩ ?_
      refine Ev.icmp_ge 8 30 tk_Heath_setTrait rfl (by decide) (fun hc3 => ?_) (fun hc3 => ?_)
      · replace hx := ip hc3 hx
        obtain rfl := Option.some.inj hx
        obtain ⟨rfl, rfl⟩ := hP
        exact Ev.vret 18 tk_Heath_setTrait rfl rfl
      · replace hx := ia hc3 hx
        obtain ⟨hg4, hx⟩ := gd hx
        refine Ev.blk (pc' := 30) (lv' := [some (vr 3 0 o0), some (vi a1), some (vi a2), some (vi a3)]) (st' := []) (h' := (wI h (o0 + 5) ((a1 * (ii 6)) + a2).toNatClampNeg a3)) 9 9 (Nat.le_of_ble_eq_true rfl) tk_Heath_setTrait rfl rfl ⟨trivial, trivial, trivial, trivial, trivial, trivial, trivial, trivial, hg4, trivial⟩ ?_
        obtain rfl := Option.some.inj hx
        obtain ⟨rfl, rfl⟩ := hP
        exact Ev.vret 18 tk_Heath_setTrait rfl rfl
set_option maxRecDepth 4000 in
theorem l_HR_settleFork_L2 (Γ : AG) : ∀ (n : Nat) (v1 : Int32) (v2 : Int32) (h : AH) (x : Int32 × AH), HR_settleFork_L2 n v1 v2 h = some x → ∀ (r : Option AV) (h' : AH), r = some (vi x.1) ∧ h' = x.2 → Ev Γ m_HR_settleFork 2 [some (vr 2 0 3), some (vi v1), some (vi v2)] [] h r h' := by
  intro n
  induction n with
  | zero => intro v1 v2 h x hx; cases hx
  | succ n ih =>
    intro v1 v2 h x hx r h' hP
    replace hx : HR_settleFork_L2_b (HR_settleFork_L2 n) v1 v2 h = some x := hx
    unfold HR_settleFork_L2_b at hx
    refine Ev.blk (pc' := 5) (lv' := [some (vr 2 0 3), some (vi v1), some (vi v2)]) (st' := [vi (ii 6), vi v2]) (h' := h) 2 2 (Nat.le_of_ble_eq_true rfl) tk_HR_settleFork rfl rfl ⟨trivial, trivial, trivial⟩ ?_
    refine Ev.icmp_ge 4 30 tk_HR_settleFork rfl (by decide) (fun hc1 => ?_) (fun hc1 => ?_)
    · replace hx := ip hc1 hx
      refine Ev.blk (pc' := 38) (lv' := [some (vr 2 0 3), some (vi v1), some (vi v2)]) (st' := [vi (ii 3), vi v1, vi (ii 4), vr 2 0 3, vr 3 0 (h.2.2 3 4)]) (h' := h) 17 6 (Nat.le_of_ble_eq_true rfl) tk_HR_settleFork rfl rfl ⟨trivial, trivial, trivial, trivial, trivial, trivial, trivial⟩ ?_
      obtain ⟨q1, hq2, hx⟩ := bd hx
      refine Ev.callV (ν := m_HR_itemOf) (av := [vi (ii 4), vi v1, vi (ii 3)]) (rest := [vr 3 0 (h.2.2 3 4)]) (r1 := some (vi q1)) (h1 := h) (ci := 2) (nn := 0) (o := 3) 23 3 tk_HR_settleFork rfl bb_HR_itemOf vv_HR_itemOf lk_2_121 (by decide) rfl rfl (Or.inl rfl) (Nat.le_of_ble_eq_true rfl) (s_HR_itemOf Γ (ii 4) v1 (ii 3) h _ hq2) ?_
      show Ev Γ m_HR_settleFork 41 [some (vr 2 0 3), some (vi v1), some (vi v2)] [vi q1, vr 3 0 (h.2.2 3 4)] h r h'
      refine Ev.callV (ν := m_Heath_isCell) (av := [vi q1]) (rest := []) (r1 := some (vi (p_Heath_isCell (h.2.2 3 4) q1 h))) (h1 := h) (ci := 3) (nn := 0) (o := (h.2.2 3 4)) 24 1 tk_HR_settleFork rfl bb_Heath_isCell vv_Heath_isCell lk_2_143 (by decide) rfl rfl (Or.inl rfl) (Nat.le_of_ble_eq_true rfl) (s_Heath_isCell Γ (h.2.2 3 4) q1 h) ?_
      show Ev Γ m_HR_settleFork 44 [some (vr 2 0 3), some (vi v1), some (vi v2)] [vi (p_Heath_isCell (h.2.2 3 4) q1 h)] h r h'
      refine Ev.if_ne 25 57 tk_HR_settleFork rfl (by decide) (fun hc3 => ?_) (fun hc3 => ?_)
      · replace hx := ia hc3 hx
        refine Ev.blk (pc' := 65) (lv' := [some (vr 2 0 3), some (vi v1), some (vi v2)]) (st' := [vi (ii 0), vi v1, vi (ii 4), vr 2 0 3, vr 3 0 (h.2.2 3 4)]) (h' := h) 32 6 (Nat.le_of_ble_eq_true rfl) tk_HR_settleFork rfl rfl ⟨trivial, trivial, trivial, trivial, trivial, trivial, trivial⟩ ?_
        obtain ⟨q2, hq4, hx⟩ := bd hx
        refine Ev.callV (ν := m_HR_itemOf) (av := [vi (ii 4), vi v1, vi (ii 0)]) (rest := [vr 3 0 (h.2.2 3 4)]) (r1 := some (vi q2)) (h1 := h) (ci := 2) (nn := 0) (o := 3) 38 3 tk_HR_settleFork rfl bb_HR_itemOf vv_HR_itemOf lk_2_121 (by decide) rfl rfl (Or.inl rfl) (Nat.le_of_ble_eq_true rfl) (s_HR_itemOf Γ (ii 4) v1 (ii 0) h _ hq4) ?_
        show Ev Γ m_HR_settleFork 68 [some (vr 2 0 3), some (vi v1), some (vi v2)] [vi q2, vr 3 0 (h.2.2 3 4)] h r h'
        refine Ev.callV (ν := m_Heath_isCell) (av := [vi q2]) (rest := []) (r1 := some (vi (p_Heath_isCell (h.2.2 3 4) q2 h))) (h1 := h) (ci := 3) (nn := 0) (o := (h.2.2 3 4)) 39 1 tk_HR_settleFork rfl bb_Heath_isCell vv_Heath_isCell lk_2_143 (by decide) rfl rfl (Or.inl rfl) (Nat.le_of_ble_eq_true rfl) (s_Heath_isCell Γ (h.2.2 3 4) q2 h) ?_
        show Ev Γ m_HR_settleFork 71 [some (vr 2 0 3), some (vi v1), some (vi v2)] [vi (p_Heath_isCell (h.2.2 3 4) q2 h)] h r h'
        obtain ⟨hg5, hx⟩ := gd hx
        obtain rfl := Option.some.inj hx
        obtain ⟨rfl, rfl⟩ := hP
        exact Ev.zret 40 tk_HR_settleFork rfl rfl (nbool hg5)
      · replace hx := ip hc3 hx
        refine Ev.blk (pc' := 54) (lv' := [some (vr 2 0 3), some (vi v1), some (vi v2)]) (st' := [vi (ii (-1)), vi (ii 3), vi v1, vr 3 0 (h.2.2 3 4)]) (h' := h) 26 5 (Nat.le_of_ble_eq_true rfl) tk_HR_settleFork rfl rfl ⟨trivial, trivial, trivial, trivial, trivial, trivial⟩ ?_
        obtain ⟨q3, hq6, hx⟩ := bd hx
        refine Ev.callV (ν := m_Heath_setTrait) (av := [vi v1, vi (ii 3), vi (ii (-1))]) (rest := []) (r1 := none) (h1 := q3) (ci := 3) (nn := 0) (o := (h.2.2 3 4)) 31 3 tk_HR_settleFork rfl bb_Heath_setTrait vv_Heath_setTrait lk_2_157 (by decide) rfl rfl (Or.inl rfl) (Nat.le_of_ble_eq_true rfl) (s_Heath_setTrait Γ (h.2.2 3 4) v1 (ii 3) (ii (-1)) h _ hq6) ?_
        show Ev Γ m_HR_settleFork 57 [some (vr 2 0 3), some (vi v1), some (vi v2)] [] q3 r h'
        refine Ev.blk (pc' := 65) (lv' := [some (vr 2 0 3), some (vi v1), some (vi v2)]) (st' := [vi (ii 0), vi v1, vi (ii 4), vr 2 0 3, vr 3 0 (q3.2.2 3 4)]) (h' := q3) 32 6 (Nat.le_of_ble_eq_true rfl) tk_HR_settleFork rfl rfl ⟨trivial, trivial, trivial, trivial, trivial, trivial, trivial⟩ ?_
        obtain ⟨q4, hq7, hx⟩ := bd hx
        refine Ev.callV (ν := m_HR_itemOf) (av := [vi (ii 4), vi v1, vi (ii 0)]) (rest := [vr 3 0 (q3.2.2 3 4)]) (r1 := some (vi q4)) (h1 := q3) (ci := 2) (nn := 0) (o := 3) 38 3 tk_HR_settleFork rfl bb_HR_itemOf vv_HR_itemOf lk_2_121 (by decide) rfl rfl (Or.inl rfl) (Nat.le_of_ble_eq_true rfl) (s_HR_itemOf Γ (ii 4) v1 (ii 0) q3 _ hq7) ?_
        show Ev Γ m_HR_settleFork 68 [some (vr 2 0 3), some (vi v1), some (vi v2)] [vi q4, vr 3 0 (q3.2.2 3 4)] q3 r h'
        refine Ev.callV (ν := m_Heath_isCell) (av := [vi q4]) (rest := []) (r1 := some (vi (p_Heath_isCell (q3.2.2 3 4) q4 q3))) (h1 := q3) (ci := 3) (nn := 0) (o := (q3.2.2 3 4)) 39 1 tk_HR_settleFork rfl bb_Heath_isCell vv_Heath_isCell lk_2_143 (by decide) rfl rfl (Or.inl rfl) (Nat.le_of_ble_eq_true rfl) (s_Heath_isCell Γ (q3.2.2 3 4) q4 q3) ?_
        show Ev Γ m_HR_settleFork 71 [some (vr 2 0 3), some (vi v1), some (vi v2)] [vi (p_Heath_isCell (q3.2.2 3 4) q4 q3)] q3 r h'
        obtain ⟨hg8, hx⟩ := gd hx
        obtain rfl := Option.some.inj hx
        obtain ⟨rfl, rfl⟩ := hP
        exact Ev.zret 40 tk_HR_settleFork rfl rfl (nbool hg8)
    · replace hx := ia hc1 hx
      refine Ev.blk (pc' := 18) (lv' := [some (vr 2 0 3), some (vi v1), some (vi v2)]) (st' := [vi v2, vi v1, vi (ii 4), vr 2 0 3, vi v2, vi v1, vr 3 0 (h.2.2 3 4)]) (h' := h) 5 8 (Nat.le_of_ble_eq_true rfl) tk_HR_settleFork rfl rfl ⟨trivial, trivial, trivial, trivial, trivial, trivial, trivial, trivial, trivial⟩ ?_
      obtain ⟨q5, hq9, hx⟩ := bd hx
      refine Ev.callV (ν := m_HR_itemOf) (av := [vi (ii 4), vi v1, vi v2]) (rest := [vi v2, vi v1, vr 3 0 (h.2.2 3 4)]) (r1 := some (vi q5)) (h1 := h) (ci := 2) (nn := 0) (o := 3) 13 3 tk_HR_settleFork rfl bb_HR_itemOf vv_HR_itemOf lk_2_121 (by decide) rfl rfl (Or.inl rfl) (Nat.le_of_ble_eq_true rfl) (s_HR_itemOf Γ (ii 4) v1 v2 h _ hq9) ?_
      show Ev Γ m_HR_settleFork 21 [some (vr 2 0 3), some (vi v1), some (vi v2)] [vi q5, vi v2, vi v1, vr 3 0 (h.2.2 3 4)] h r h'
      obtain ⟨q6, hq10, hx⟩ := bd hx
      refine Ev.callV (ν := m_Heath_setTrait) (av := [vi v1, vi v2, vi q5]) (rest := []) (r1 := none) (h1 := q6) (ci := 3) (nn := 0) (o := (h.2.2 3 4)) 14 3 tk_HR_settleFork rfl bb_Heath_setTrait vv_Heath_setTrait lk_2_157 (by decide) rfl rfl (Or.inl rfl) (Nat.le_of_ble_eq_true rfl) (s_Heath_setTrait Γ (h.2.2 3 4) v1 v2 q5 h _ hq10) ?_
      show Ev Γ m_HR_settleFork 24 [some (vr 2 0 3), some (vi v1), some (vi v2)] [] q6 r h'
      refine Ev.blk (pc' := 2) (lv' := [some (vr 2 0 3), some (vi v1), some (vi (v2 + ii 1))]) (st' := []) (h' := q6) 15 2 (Nat.le_of_ble_eq_true rfl) tk_HR_settleFork rfl rfl ⟨trivial, trivial, trivial⟩ ?_
      exact Ev.msk [true, true, true] (ih v1 (v2 + ii 1) q6 _ hx r h' hP)
set_option maxRecDepth 4000 in
theorem s_HR_settleFork (Γ : AG) (a1 : Int32) (h : AH) (x : Int32 × AH) (hx : f_HR_settleFork a1 h = some x) : MetA Γ m_HR_settleFork [vr 2 0 3, vi a1] h (some (vi x.1)) x.2 := by
  refine Ev.met rfl rfl (Nat.le_of_ble_eq_true rfl) ?_
  show Ev Γ m_HR_settleFork 0 [some (vr 2 0 3), some (vi a1), none] [] h _ _
  obtain ⟨r, hr⟩ : ∃ r : Option AV, r = some (vi x.1) := ⟨_, rfl⟩
  obtain ⟨h', hh⟩ : ∃ h' : AH, h' = x.2 := ⟨_, rfl⟩
  have hP : r = some (vi x.1) ∧ h' = x.2 := ⟨hr, hh⟩
  suffices hS : Ev Γ m_HR_settleFork 0 [some (vr 2 0 3), some (vi a1), none] [] h r h' by rw [hr, hh] at hS; exact hS
  clear hr hh
  unfold f_HR_settleFork at hx
  refine Ev.blk (pc' := 2) (lv' := [some (vr 2 0 3), some (vi a1), some (vi (ii 0))]) (st' := []) (h' := h) 0 2 (Nat.le_of_ble_eq_true rfl) tk_HR_settleFork rfl rfl ⟨trivial, trivial, trivial⟩ ?_
  refine Ev.msk [true, true, true] ?_
  show Ev Γ m_HR_settleFork 2 [some (vr 2 0 3), some (vi a1), some (vi (ii 0))] [] h r h'
  exact l_HR_settleFork_L2 Γ FU a1 (ii 0) h _ hx r h' hP
set_option maxRecDepth 4000 in
theorem l_HR_settle_L171 (Γ : AG) : ∀ (n : Nat) (v1 : Int32) (h : AH) (x : Int32 × AH), HR_settle_L171 n v1 h = some x → ∀ (r : Option AV) (h' : AH), r = some (vi x.1) ∧ h' = x.2 → Ev Γ m_HR_settle 171 [some (vr 2 0 3), some (vi v1)] [] h r h' := by
  intro n
  induction n with
  | zero => intro v1 h x hx; cases hx
  | succ n ih =>
    intro v1 h x hx r h' hP
    replace hx : HR_settle_L171_b (HR_settle_L171 n) v1 h = some x := hx
    unfold HR_settle_L171_b at hx
    obtain ⟨hg1, hx⟩ := gd hx
    refine Ev.blk (pc' := 178) (lv' := [some (vr 2 0 3), some (vi v1)]) (st' := [vi (h.1 4 (ii 4).toNatClampNeg), vi v1]) (h' := h) 103 5 (Nat.le_of_ble_eq_true rfl) tk_HR_settle rfl rfl ⟨trivial, trivial, trivial, trivial, hg1, trivial⟩ ?_
    refine Ev.icmp_ge 108 197 tk_HR_settle rfl (by decide) (fun hc2 => ?_) (fun hc2 => ?_)
    · replace hx := ip hc2 hx
      refine Ev.blk (pc' := 198) (lv' := [some (vr 2 0 3), some (vi v1)]) (st' := [vi (ii 1)]) (h' := h) 117 1 (Nat.le_of_ble_eq_true rfl) tk_HR_settle rfl rfl ⟨trivial, trivial⟩ ?_
      obtain rfl := Option.some.inj hx
      obtain ⟨rfl, rfl⟩ := hP
      exact Ev.zret 118 tk_HR_settle rfl rfl rfl
    · replace hx := ia hc2 hx
      refine Ev.blk (pc' := 183) (lv' := [some (vr 2 0 3), some (vi v1)]) (st' := [vi v1, vr 2 0 3]) (h' := h) 109 2 (Nat.le_of_ble_eq_true rfl) tk_HR_settle rfl rfl ⟨trivial, trivial, trivial⟩ ?_
      obtain ⟨q1, hq3, hx⟩ := bd hx
      refine Ev.callV (ν := m_HR_settleFork) (av := [vi v1]) (rest := []) (r1 := some (vi q1.1)) (h1 := q1.2) (ci := 2) (nn := 0) (o := 3) 111 1 tk_HR_settle rfl bb_HR_settleFork vv_HR_settleFork lk_2_140 (by decide) rfl rfl (Or.inl rfl) (Nat.le_of_ble_eq_true rfl) (s_HR_settleFork Γ v1 h _ hq3) ?_
      show Ev Γ m_HR_settle 186 [some (vr 2 0 3), some (vi v1)] [vi q1.1] q1.2 r h'
      refine Ev.if_ne 112 191 tk_HR_settle rfl (by decide) (fun hc4 => ?_) (fun hc4 => ?_)
      · replace hx := ia hc4 hx
        refine Ev.blk (pc' := 171) (lv' := [some (vr 2 0 3), some (vi (v1 + ii 1))]) (st' := []) (h' := q1.2) 115 2 (Nat.le_of_ble_eq_true rfl) tk_HR_settle rfl rfl ⟨trivial, trivial, trivial⟩ ?_
        exact Ev.msk [true, true] (ih (v1 + ii 1) q1.2 _ hx r h' hP)
      · replace hx := ip hc4 hx
        refine Ev.blk (pc' := 190) (lv' := [some (vr 2 0 3), some (vi v1)]) (st' := [vi (ii 0)]) (h' := q1.2) 113 1 (Nat.le_of_ble_eq_true rfl) tk_HR_settle rfl rfl ⟨trivial, trivial⟩ ?_
        obtain rfl := Option.some.inj hx
        obtain ⟨rfl, rfl⟩ := hP
        exact Ev.zret 114 tk_HR_settle rfl rfl rfl
set_option maxRecDepth 4000 in
theorem l_HR_settle_L37 (Γ : AG) : ∀ (n : Nat) (v1 : Int32) (h : AH) (x : (Int32 × AH) ⊕ (AH)), HR_settle_L37 n v1 h = some x → ∀ (r : Option AV) (h' : AH), (∀ z, x = .inl z → r = some (vi z.1) ∧ h' = z.2) → (∀ z, x = .inr z → Ev Γ m_HR_settle 68 [some (vr 2 0 3), none] [] z r h') → Ev Γ m_HR_settle 37 [some (vr 2 0 3), some (vi v1)] [] h r h' := by
  intro n
  induction n with
  | zero => intro v1 h x hx; cases hx
  | succ n ih =>
    intro v1 h x hx r h' hI hP
    replace hx : HR_settle_L37_b (HR_settle_L37 n) v1 h = some x := hx
    unfold HR_settle_L37_b at hx
    obtain ⟨hg1, hx⟩ := gd hx
    refine Ev.blk (pc' := 44) (lv' := [some (vr 2 0 3), some (vi v1)]) (st' := [vi (h.1 4 (ii 1).toNatClampNeg), vi v1]) (h' := h) 25 5 (Nat.le_of_ble_eq_true rfl) tk_HR_settle rfl rfl ⟨trivial, trivial, trivial, trivial, hg1, trivial⟩ ?_
    refine Ev.icmp_ge 30 68 tk_HR_settle rfl (by decide) (fun hc2 => ?_) (fun hc2 => ?_)
    · replace hx := ip hc2 hx
      obtain rfl := Option.some.inj hx
      exact Ev.msk [true, false] (hP _ rfl)
    · replace hx := ia hc2 hx
      refine Ev.blk (pc' := 49) (lv' := [some (vr 2 0 3), some (vi v1)]) (st' := [vi (ii 4), vi v1]) (h' := h) 31 2 (Nat.le_of_ble_eq_true rfl) tk_HR_settle rfl rfl ⟨trivial, trivial, trivial⟩ ?_
      refine Ev.icmp_ge 33 68 tk_HR_settle rfl (by decide) (fun hc3 => ?_) (fun hc3 => ?_)
      · replace hx := ip hc3 hx
        obtain rfl := Option.some.inj hx
        exact Ev.msk [true, false] (hP _ rfl)
      · replace hx := ia hc3 hx
        refine Ev.blk (pc' := 54) (lv' := [some (vr 2 0 3), some (vi v1)]) (st' := [vi v1, vr 2 0 3]) (h' := h) 34 2 (Nat.le_of_ble_eq_true rfl) tk_HR_settle rfl rfl ⟨trivial, trivial, trivial⟩ ?_
        obtain ⟨q1, hq4, hx⟩ := bd hx
        refine Ev.callV (ν := m_HR_settleVein) (av := [vi v1]) (rest := []) (r1 := some (vi q1.1)) (h1 := q1.2) (ci := 2) (nn := 0) (o := 3) 36 1 tk_HR_settle rfl bb_HR_settleVein vv_HR_settleVein lk_2_128 (by decide) rfl rfl (Or.inl rfl) (Nat.le_of_ble_eq_true rfl) (s_HR_settleVein Γ v1 h _ hq4) ?_
        show Ev Γ m_HR_settle 57 [some (vr 2 0 3), some (vi v1)] [vi q1.1] q1.2 r h'
        refine Ev.if_ne 37 62 tk_HR_settle rfl (by decide) (fun hc5 => ?_) (fun hc5 => ?_)
        · replace hx := ia hc5 hx
          refine Ev.blk (pc' := 37) (lv' := [some (vr 2 0 3), some (vi (v1 + ii 1))]) (st' := []) (h' := q1.2) 40 2 (Nat.le_of_ble_eq_true rfl) tk_HR_settle rfl rfl ⟨trivial, trivial, trivial⟩ ?_
          exact Ev.msk [true, true] (ih (v1 + ii 1) q1.2 _ hx r h' hI hP)
        · replace hx := ip hc5 hx
          refine Ev.blk (pc' := 61) (lv' := [some (vr 2 0 3), some (vi v1)]) (st' := [vi (ii 0)]) (h' := q1.2) 38 1 (Nat.le_of_ble_eq_true rfl) tk_HR_settle rfl rfl ⟨trivial, trivial⟩ ?_
          obtain rfl := Option.some.inj hx
          obtain ⟨rfl, rfl⟩ := hI _ rfl
          exact Ev.zret 39 tk_HR_settle rfl rfl rfl
set_option maxRecDepth 4000 in
theorem l_HR_settle_L70 (Γ : AG) : ∀ (n : Nat) (v1 : Int32) (h : AH) (x : (Int32 × AH) ⊕ (AH)), HR_settle_L70 n v1 h = some x → ∀ (r : Option AV) (h' : AH), (∀ z, x = .inl z → r = some (vi z.1) ∧ h' = z.2) → (∀ z, x = .inr z → Ev Γ m_HR_settle 112 [some (vr 2 0 3), none] [] z r h') → Ev Γ m_HR_settle 70 [some (vr 2 0 3), some (vi v1)] [] h r h' := by
  intro n
  induction n with
  | zero => intro v1 h x hx; cases hx
  | succ n ih =>
    intro v1 h x hx r h' hI hP
    replace hx : HR_settle_L70_b (HR_settle_L70 n) v1 h = some x := hx
    unfold HR_settle_L70_b at hx
    obtain ⟨hg1, hx⟩ := gd hx
    refine Ev.blk (pc' := 77) (lv' := [some (vr 2 0 3), some (vi v1)]) (st' := [vi (h.1 4 (ii 2).toNatClampNeg), vi v1]) (h' := h) 44 5 (Nat.le_of_ble_eq_true rfl) tk_HR_settle rfl rfl ⟨trivial, trivial, trivial, trivial, hg1, trivial⟩ ?_
    refine Ev.icmp_ge 49 112 tk_HR_settle rfl (by decide) (fun hc2 => ?_) (fun hc2 => ?_)
    · replace hx := ip hc2 hx
      obtain rfl := Option.some.inj hx
      exact Ev.msk [true, false] (hP _ rfl)
    · replace hx := ia hc2 hx
      refine Ev.blk (pc' := 88) (lv' := [some (vr 2 0 3), some (vi v1)]) (st' := [vi (ii 0), vi v1, vi (ii 2), vr 2 0 3, vr 3 0 (h.2.2 3 4)]) (h' := h) 50 6 (Nat.le_of_ble_eq_true rfl) tk_HR_settle rfl rfl ⟨trivial, trivial, trivial, trivial, trivial, trivial, trivial⟩ ?_
      obtain ⟨q1, hq3, hx⟩ := bd hx
      refine Ev.callV (ν := m_HR_itemOf) (av := [vi (ii 2), vi v1, vi (ii 0)]) (rest := [vr 3 0 (h.2.2 3 4)]) (r1 := some (vi q1)) (h1 := h) (ci := 2) (nn := 0) (o := 3) 56 3 tk_HR_settle rfl bb_HR_itemOf vv_HR_itemOf lk_2_121 (by decide) rfl rfl (Or.inl rfl) (Nat.le_of_ble_eq_true rfl) (s_HR_itemOf Γ (ii 2) v1 (ii 0) h _ hq3) ?_
      show Ev Γ m_HR_settle 91 [some (vr 2 0 3), some (vi v1)] [vi q1, vr 3 0 (h.2.2 3 4)] h r h'
      refine Ev.blk (pc' := 95) (lv' := [some (vr 2 0 3), some (vi v1)]) (st' := [vi (ii 1), vi v1, vi (ii 2), vr 2 0 3, vi q1, vr 3 0 (h.2.2 3 4)]) (h' := h) 57 4 (Nat.le_of_ble_eq_true rfl) tk_HR_settle rfl rfl ⟨trivial, trivial, trivial, trivial, trivial⟩ ?_
      obtain ⟨q2, hq4, hx⟩ := bd hx
      refine Ev.callV (ν := m_HR_itemOf) (av := [vi (ii 2), vi v1, vi (ii 1)]) (rest := [vi q1, vr 3 0 (h.2.2 3 4)]) (r1 := some (vi q2)) (h1 := h) (ci := 2) (nn := 0) (o := 3) 61 3 tk_HR_settle rfl bb_HR_itemOf vv_HR_itemOf lk_2_121 (by decide) rfl rfl (Or.inl rfl) (Nat.le_of_ble_eq_true rfl) (s_HR_itemOf Γ (ii 2) v1 (ii 1) h _ hq4) ?_
      show Ev Γ m_HR_settle 98 [some (vr 2 0 3), some (vi v1)] [vi q2, vi q1, vr 3 0 (h.2.2 3 4)] h r h'
      obtain ⟨q3, hq5, hx⟩ := bd hx
      refine Ev.callV (ν := m_Heath_addIron) (av := [vi q1, vi q2]) (rest := []) (r1 := some (vi q3.1)) (h1 := q3.2) (ci := 3) (nn := 0) (o := (h.2.2 3 4)) 62 2 tk_HR_settle rfl bb_Heath_addIron vv_Heath_addIron lk_2_131 (by decide) rfl rfl (Or.inl rfl) (Nat.le_of_ble_eq_true rfl) (s_Heath_addIron Γ (h.2.2 3 4) q1 q2 h _ hq5) ?_
      show Ev Γ m_HR_settle 101 [some (vr 2 0 3), some (vi v1)] [vi q3.1] q3.2 r h'
      refine Ev.if_ne 63 106 tk_HR_settle rfl (by decide) (fun hc6 => ?_) (fun hc6 => ?_)
      · replace hx := ia hc6 hx
        refine Ev.blk (pc' := 70) (lv' := [some (vr 2 0 3), some (vi (v1 + ii 1))]) (st' := []) (h' := q3.2) 66 2 (Nat.le_of_ble_eq_true rfl) tk_HR_settle rfl rfl ⟨trivial, trivial, trivial⟩ ?_
        exact Ev.msk [true, true] (ih (v1 + ii 1) q3.2 _ hx r h' hI hP)
      · replace hx := ip hc6 hx
        refine Ev.blk (pc' := 105) (lv' := [some (vr 2 0 3), some (vi v1)]) (st' := [vi (ii 0)]) (h' := q3.2) 64 1 (Nat.le_of_ble_eq_true rfl) tk_HR_settle rfl rfl ⟨trivial, trivial⟩ ?_
        obtain rfl := Option.some.inj hx
        obtain ⟨rfl, rfl⟩ := hI _ rfl
        exact Ev.zret 65 tk_HR_settle rfl rfl rfl
set_option maxRecDepth 4000 in
theorem l_HR_settle_L114 (Γ : AG) : ∀ (n : Nat) (v1 : Int32) (h : AH) (x : (Int32 × AH) ⊕ (AH)), HR_settle_L114 n v1 h = some x → ∀ (r : Option AV) (h' : AH), (∀ z, x = .inl z → r = some (vi z.1) ∧ h' = z.2) → (∀ z, x = .inr z → Ev Γ m_HR_settle 156 [some (vr 2 0 3), none] [] z r h') → Ev Γ m_HR_settle 114 [some (vr 2 0 3), some (vi v1)] [] h r h' := by
  intro n
  induction n with
  | zero => intro v1 h x hx; cases hx
  | succ n ih =>
    intro v1 h x hx r h' hI hP
    replace hx : HR_settle_L114_b (HR_settle_L114 n) v1 h = some x := hx
    unfold HR_settle_L114_b at hx
    obtain ⟨hg1, hx⟩ := gd hx
    refine Ev.blk (pc' := 121) (lv' := [some (vr 2 0 3), some (vi v1)]) (st' := [vi (h.1 4 (ii 3).toNatClampNeg), vi v1]) (h' := h) 70 5 (Nat.le_of_ble_eq_true rfl) tk_HR_settle rfl rfl ⟨trivial, trivial, trivial, trivial, hg1, trivial⟩ ?_
    refine Ev.icmp_ge 75 156 tk_HR_settle rfl (by decide) (fun hc2 => ?_) (fun hc2 => ?_)
    · replace hx := ip hc2 hx
      obtain rfl := Option.some.inj hx
      exact Ev.msk [true, false] (hP _ rfl)
    · replace hx := ia hc2 hx
      refine Ev.blk (pc' := 132) (lv' := [some (vr 2 0 3), some (vi v1)]) (st' := [vi (ii 0), vi v1, vi (ii 3), vr 2 0 3, vr 3 0 (h.2.2 3 4)]) (h' := h) 76 6 (Nat.le_of_ble_eq_true rfl) tk_HR_settle rfl rfl ⟨trivial, trivial, trivial, trivial, trivial, trivial, trivial⟩ ?_
      obtain ⟨q1, hq3, hx⟩ := bd hx
      refine Ev.callV (ν := m_HR_itemOf) (av := [vi (ii 3), vi v1, vi (ii 0)]) (rest := [vr 3 0 (h.2.2 3 4)]) (r1 := some (vi q1)) (h1 := h) (ci := 2) (nn := 0) (o := 3) 82 3 tk_HR_settle rfl bb_HR_itemOf vv_HR_itemOf lk_2_121 (by decide) rfl rfl (Or.inl rfl) (Nat.le_of_ble_eq_true rfl) (s_HR_itemOf Γ (ii 3) v1 (ii 0) h _ hq3) ?_
      show Ev Γ m_HR_settle 135 [some (vr 2 0 3), some (vi v1)] [vi q1, vr 3 0 (h.2.2 3 4)] h r h'
      refine Ev.blk (pc' := 139) (lv' := [some (vr 2 0 3), some (vi v1)]) (st' := [vi (ii 1), vi v1, vi (ii 3), vr 2 0 3, vi q1, vr 3 0 (h.2.2 3 4)]) (h' := h) 83 4 (Nat.le_of_ble_eq_true rfl) tk_HR_settle rfl rfl ⟨trivial, trivial, trivial, trivial, trivial⟩ ?_
      obtain ⟨q2, hq4, hx⟩ := bd hx
      refine Ev.callV (ν := m_HR_itemOf) (av := [vi (ii 3), vi v1, vi (ii 1)]) (rest := [vi q1, vr 3 0 (h.2.2 3 4)]) (r1 := some (vi q2)) (h1 := h) (ci := 2) (nn := 0) (o := 3) 87 3 tk_HR_settle rfl bb_HR_itemOf vv_HR_itemOf lk_2_121 (by decide) rfl rfl (Or.inl rfl) (Nat.le_of_ble_eq_true rfl) (s_HR_itemOf Γ (ii 3) v1 (ii 1) h _ hq4) ?_
      show Ev Γ m_HR_settle 142 [some (vr 2 0 3), some (vi v1)] [vi q2, vi q1, vr 3 0 (h.2.2 3 4)] h r h'
      obtain ⟨q3, hq5, hx⟩ := bd hx
      refine Ev.callV (ν := m_Heath_addRock) (av := [vi q1, vi q2]) (rest := []) (r1 := some (vi q3.1)) (h1 := q3.2) (ci := 3) (nn := 0) (o := (h.2.2 3 4)) 88 2 tk_HR_settle rfl bb_Heath_addRock vv_Heath_addRock lk_2_134 (by decide) rfl rfl (Or.inl rfl) (Nat.le_of_ble_eq_true rfl) (s_Heath_addRock Γ (h.2.2 3 4) q1 q2 h _ hq5) ?_
      show Ev Γ m_HR_settle 145 [some (vr 2 0 3), some (vi v1)] [vi q3.1] q3.2 r h'
      refine Ev.if_ne 89 150 tk_HR_settle rfl (by decide) (fun hc6 => ?_) (fun hc6 => ?_)
      · replace hx := ia hc6 hx
        refine Ev.blk (pc' := 114) (lv' := [some (vr 2 0 3), some (vi (v1 + ii 1))]) (st' := []) (h' := q3.2) 92 2 (Nat.le_of_ble_eq_true rfl) tk_HR_settle rfl rfl ⟨trivial, trivial, trivial⟩ ?_
        exact Ev.msk [true, true] (ih (v1 + ii 1) q3.2 _ hx r h' hI hP)
      · replace hx := ip hc6 hx
        refine Ev.blk (pc' := 149) (lv' := [some (vr 2 0 3), some (vi v1)]) (st' := [vi (ii 0)]) (h' := q3.2) 90 1 (Nat.le_of_ble_eq_true rfl) tk_HR_settle rfl rfl ⟨trivial, trivial⟩ ?_
        obtain rfl := Option.some.inj hx
        obtain ⟨rfl, rfl⟩ := hI _ rfl
        exact Ev.zret 91 tk_HR_settle rfl rfl rfl
set_option maxRecDepth 4000 in
theorem s_HR_settle (Γ : AG) (h : AH) (x : Int32 × AH) (hx : f_HR_settle  h = some x) : MetA Γ m_HR_settle [vr 2 0 3] h (some (vi x.1)) x.2 := by
  refine Ev.met rfl rfl (Nat.le_of_ble_eq_true rfl) ?_
  show Ev Γ m_HR_settle 0 [some (vr 2 0 3), none] [] h _ _
  obtain ⟨r, hr⟩ : ∃ r : Option AV, r = some (vi x.1) := ⟨_, rfl⟩
  obtain ⟨h', hh⟩ : ∃ h' : AH, h' = x.2 := ⟨_, rfl⟩
  have hP : r = some (vi x.1) ∧ h' = x.2 := ⟨hr, hh⟩
  suffices hS : Ev Γ m_HR_settle 0 [some (vr 2 0 3), none] [] h r h' by rw [hr, hh] at hS; exact hS
  clear hr hh
  unfold f_HR_settle at hx
  refine Ev.blk (pc' := 8) (lv' := [some (vr 2 0 3), none]) (st' := [vi (ii 0), vi (ii 0), vi (ii 0), vr 2 0 3, vr 3 0 (h.2.2 3 4)]) (h' := h) 0 6 (Nat.le_of_ble_eq_true rfl) tk_HR_settle rfl rfl ⟨trivial, trivial, trivial, trivial, trivial, trivial, trivial⟩ ?_
  obtain ⟨q1, hq1, hx⟩ := bd hx
  refine Ev.callV (ν := m_HR_itemOf) (av := [vi (ii 0), vi (ii 0), vi (ii 0)]) (rest := [vr 3 0 (h.2.2 3 4)]) (r1 := some (vi q1)) (h1 := h) (ci := 2) (nn := 0) (o := 3) 6 3 tk_HR_settle rfl bb_HR_itemOf vv_HR_itemOf lk_2_121 (by decide) rfl rfl (Or.inl rfl) (Nat.le_of_ble_eq_true rfl) (s_HR_itemOf Γ (ii 0) (ii 0) (ii 0) h _ hq1) ?_
  show Ev Γ m_HR_settle 11 [some (vr 2 0 3), none] [vi q1, vr 3 0 (h.2.2 3 4)] h r h'
  refine Ev.blk (pc' := 15) (lv' := [some (vr 2 0 3), none]) (st' := [vi (ii 1), vi (ii 0), vi (ii 0), vr 2 0 3, vi q1, vr 3 0 (h.2.2 3 4)]) (h' := h) 7 4 (Nat.le_of_ble_eq_true rfl) tk_HR_settle rfl rfl ⟨trivial, trivial, trivial, trivial, trivial⟩ ?_
  obtain ⟨q2, hq2, hx⟩ := bd hx
  refine Ev.callV (ν := m_HR_itemOf) (av := [vi (ii 0), vi (ii 0), vi (ii 1)]) (rest := [vi q1, vr 3 0 (h.2.2 3 4)]) (r1 := some (vi q2)) (h1 := h) (ci := 2) (nn := 0) (o := 3) 11 3 tk_HR_settle rfl bb_HR_itemOf vv_HR_itemOf lk_2_121 (by decide) rfl rfl (Or.inl rfl) (Nat.le_of_ble_eq_true rfl) (s_HR_itemOf Γ (ii 0) (ii 0) (ii 1) h _ hq2) ?_
  show Ev Γ m_HR_settle 18 [some (vr 2 0 3), none] [vi q2, vi q1, vr 3 0 (h.2.2 3 4)] h r h'
  refine Ev.blk (pc' := 22) (lv' := [some (vr 2 0 3), none]) (st' := [vi (ii 2), vi (ii 0), vi (ii 0), vr 2 0 3, vi q2, vi q1, vr 3 0 (h.2.2 3 4)]) (h' := h) 12 4 (Nat.le_of_ble_eq_true rfl) tk_HR_settle rfl rfl ⟨trivial, trivial, trivial, trivial, trivial⟩ ?_
  obtain ⟨q3, hq3, hx⟩ := bd hx
  refine Ev.callV (ν := m_HR_itemOf) (av := [vi (ii 0), vi (ii 0), vi (ii 2)]) (rest := [vi q2, vi q1, vr 3 0 (h.2.2 3 4)]) (r1 := some (vi q3)) (h1 := h) (ci := 2) (nn := 0) (o := 3) 16 3 tk_HR_settle rfl bb_HR_itemOf vv_HR_itemOf lk_2_121 (by decide) rfl rfl (Or.inl rfl) (Nat.le_of_ble_eq_true rfl) (s_HR_itemOf Γ (ii 0) (ii 0) (ii 2) h _ hq3) ?_
  show Ev Γ m_HR_settle 25 [some (vr 2 0 3), none] [vi q3, vi q2, vi q1, vr 3 0 (h.2.2 3 4)] h r h'
  refine Ev.blk (pc' := 29) (lv' := [some (vr 2 0 3), none]) (st' := [vi (ii 3), vi (ii 0), vi (ii 0), vr 2 0 3, vi q3, vi q2, vi q1, vr 3 0 (h.2.2 3 4)]) (h' := h) 17 4 (Nat.le_of_ble_eq_true rfl) tk_HR_settle rfl rfl ⟨trivial, trivial, trivial, trivial, trivial⟩ ?_
  obtain ⟨q4, hq4, hx⟩ := bd hx
  refine Ev.callV (ν := m_HR_itemOf) (av := [vi (ii 0), vi (ii 0), vi (ii 3)]) (rest := [vi q3, vi q2, vi q1, vr 3 0 (h.2.2 3 4)]) (r1 := some (vi q4)) (h1 := h) (ci := 2) (nn := 0) (o := 3) 21 3 tk_HR_settle rfl bb_HR_itemOf vv_HR_itemOf lk_2_121 (by decide) rfl rfl (Or.inl rfl) (Nat.le_of_ble_eq_true rfl) (s_HR_itemOf Γ (ii 0) (ii 0) (ii 3) h _ hq4) ?_
  show Ev Γ m_HR_settle 32 [some (vr 2 0 3), none] [vi q4, vi q3, vi q2, vi q1, vr 3 0 (h.2.2 3 4)] h r h'
  obtain ⟨q5, hq5, hx⟩ := bd hx
  refine Ev.callV (ν := m_Heath_lay) (av := [vi q1, vi q2, vi q3, vi q4]) (rest := []) (r1 := none) (h1 := q5) (ci := 3) (nn := 0) (o := (h.2.2 3 4)) 22 4 tk_HR_settle rfl bb_Heath_lay vv_Heath_lay lk_2_125 (by decide) rfl rfl (Or.inl rfl) (Nat.le_of_ble_eq_true rfl) (s_Heath_lay Γ (h.2.2 3 4) q1 q2 q3 q4 h _ hq5) ?_
  show Ev Γ m_HR_settle 35 [some (vr 2 0 3), none] [] q5 r h'
  refine Ev.blk (pc' := 37) (lv' := [some (vr 2 0 3), some (vi (ii 0))]) (st' := []) (h' := q5) 23 2 (Nat.le_of_ble_eq_true rfl) tk_HR_settle rfl rfl ⟨trivial, trivial, trivial⟩ ?_
  obtain ⟨q6, hq6, hx⟩ := bd hx
  rcases q6 with w | q6
  · cases hx
    refine Ev.msk [true, true] ?_
    show Ev Γ m_HR_settle 37 [some (vr 2 0 3), some (vi (ii 0))] [] q5 r h'
    exact l_HR_settle_L37 Γ FU (ii 0) q5 _ hq6 r h' (fun z hz => by cases hz; exact hP) (fun z hz => by cases hz)
  · refine Ev.msk [true, true] ?_
    show Ev Γ m_HR_settle 37 [some (vr 2 0 3), some (vi (ii 0))] [] q5 r h'
    refine l_HR_settle_L37 Γ FU (ii 0) q5 _ hq6 r h' (fun z hz => by cases hz) (fun z hz => ?_)
    cases hz
    replace hx := smr hx
    show Ev Γ m_HR_settle 68 [some (vr 2 0 3), none] [] q6 r h'
    refine Ev.blk (pc' := 70) (lv' := [some (vr 2 0 3), some (vi (ii 0))]) (st' := []) (h' := q6) 42 2 (Nat.le_of_ble_eq_true rfl) tk_HR_settle rfl rfl ⟨trivial, trivial, trivial⟩ ?_
    obtain ⟨q7, hq7, hx⟩ := bd hx
    rcases q7 with w | q7
    · cases hx
      refine Ev.msk [true, true] ?_
      show Ev Γ m_HR_settle 70 [some (vr 2 0 3), some (vi (ii 0))] [] q6 r h'
      exact l_HR_settle_L70 Γ FU (ii 0) q6 _ hq7 r h' (fun z hz => by cases hz; exact hP) (fun z hz => by cases hz)
    · refine Ev.msk [true, true] ?_
      show Ev Γ m_HR_settle 70 [some (vr 2 0 3), some (vi (ii 0))] [] q6 r h'
      refine l_HR_settle_L70 Γ FU (ii 0) q6 _ hq7 r h' (fun z hz => by cases hz) (fun z hz => ?_)
      cases hz
      replace hx := smr hx
      show Ev Γ m_HR_settle 112 [some (vr 2 0 3), none] [] q7 r h'
      refine Ev.blk (pc' := 114) (lv' := [some (vr 2 0 3), some (vi (ii 0))]) (st' := []) (h' := q7) 68 2 (Nat.le_of_ble_eq_true rfl) tk_HR_settle rfl rfl ⟨trivial, trivial, trivial⟩ ?_
      obtain ⟨q8, hq8, hx⟩ := bd hx
      rcases q8 with w | q8
      · cases hx
        refine Ev.msk [true, true] ?_
        show Ev Γ m_HR_settle 114 [some (vr 2 0 3), some (vi (ii 0))] [] q7 r h'
        exact l_HR_settle_L114 Γ FU (ii 0) q7 _ hq8 r h' (fun z hz => by cases hz; exact hP) (fun z hz => by cases hz)
      · refine Ev.msk [true, true] ?_
        show Ev Γ m_HR_settle 114 [some (vr 2 0 3), some (vi (ii 0))] [] q7 r h'
        refine l_HR_settle_L114 Γ FU (ii 0) q7 _ hq8 r h' (fun z hz => by cases hz) (fun z hz => ?_)
        cases hz
        replace hx := smr hx
        show Ev Γ m_HR_settle 156 [some (vr 2 0 3), none] [] q8 r h'
        obtain ⟨hg9, hx⟩ := gd hx
        refine Ev.blk (pc' := 171) (lv' := [some (vr 2 0 3), some (vi (ii 0))]) (st' := []) (h' := (wI q8 (q8.2.2 3 4) 10 (q8.1 4 (ii 4).toNatClampNeg))) 94 9 (Nat.le_of_ble_eq_true rfl) tk_HR_settle rfl rfl ⟨trivial, trivial, trivial, trivial, trivial, hg9, trivial, trivial, trivial, trivial⟩ ?_
        refine Ev.msk [true, true] ?_
        show Ev Γ m_HR_settle 171 [some (vr 2 0 3), some (vi (ii 0))] [] (wI q8 (q8.2.2 3 4) 10 (q8.1 4 (ii 4).toNatClampNeg)) r h'
        exact l_HR_settle_L171 Γ FU (ii 0) (wI q8 (q8.2.2 3 4) 10 (q8.1 4 (ii 4).toNatClampNeg)) _ hx r h' hP
