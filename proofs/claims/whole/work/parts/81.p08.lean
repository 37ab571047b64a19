set_option maxRecDepth 4000 in
theorem s_HF_trail (Γ : AG) (a1 : Int32) (a2 : Int32) (h : AH) (x : Int32) (hx : f_HF_trail a1 a2 h = some x) : MetA Γ m_HF_trail [vr 0 0 0, vi a1, vi a2] h (some (vi x)) h := by
  refine Ev.met rfl rfl (Nat.le_of_ble_eq_true rfl) ?_
  show Ev Γ m_HF_trail 0 [some (vr 0 0 0), some (vi a1), some (vi a2)] [] h _ _
  obtain ⟨r, hr⟩ : ∃ r : Option AV, r = some (vi x) := ⟨_, rfl⟩
  obtain ⟨h', hh⟩ : ∃ h' : AH, h' = h := ⟨_, rfl⟩
  have hP : r = some (vi x) ∧ h' = h := ⟨hr, hh⟩
  suffices hS : Ev Γ m_HF_trail 0 [some (vr 0 0 0), some (vi a1), some (vi a2)] [] h r h' by rw [hr, hh] at hS; exact hS
  clear hr hh
  unfold f_HF_trail at hx
  refine Ev.blk (pc' := 1) (lv' := [some (vr 0 0 0), some (vi a1), some (vi a2)]) (st' := [vr 0 0 0]) (h' := h) 0 1 (Nat.le_of_ble_eq_true rfl) tk_HF_trail rfl rfl ⟨trivial, trivial⟩ ?_
  refine Ev.callV (ν := m_HF_hasHeath) (av := []) (rest := []) (r1 := some (vi (p_HF_hasHeath h))) (h1 := h) (ci := 0) (nn := 0) (o := 0) 1 0 tk_HF_trail rfl bb_HF_hasHeath vv_HF_hasHeath lk_0_137 (by decide) rfl rfl (Or.inl rfl) (Nat.le_of_ble_eq_true rfl) (s_HF_hasHeath Γ h) ?_
  show Ev Γ m_HF_trail 4 [some (vr 0 0 0), some (vi a1), some (vi a2)] [vi (p_HF_hasHeath h)] h r h'
  refine Ev.if_eq 2 16 tk_HF_trail rfl (by decide) (fun hc1 => ?_) (fun hc1 => ?_)
  · replace hx := ip hc1 hx
    refine Ev.blk (pc' := 17) (lv' := [some (vr 0 0 0), some (vi a1), some (vi a2)]) (st' := [vi (ii (-1))]) (h' := h) 8 1 (Nat.le_of_ble_eq_true rfl) tk_HF_trail rfl rfl ⟨trivial, trivial⟩ ?_
    obtain rfl := Option.some.inj hx
    obtain ⟨rfl, rfl⟩ := hP
    exact Ev.iret 9 tk_HF_trail rfl rfl
  · replace hx := ia hc1 hx
    refine Ev.blk (pc' := 8) (lv' := [some (vr 0 0 0), some (vi a1), some (vi a2)]) (st' := [vi a1]) (h' := h) 3 1 (Nat.le_of_ble_eq_true rfl) tk_HF_trail rfl rfl ⟨trivial, trivial⟩ ?_
    refine Ev.if_lt 4 16 tk_HF_trail rfl (by decide) (fun hc2 => ?_) (fun hc2 => ?_)
    · replace hx := ip hc2 hx
      refine Ev.blk (pc' := 17) (lv' := [some (vr 0 0 0), some (vi a1), some (vi a2)]) (st' := [vi (ii (-1))]) (h' := h) 8 1 (Nat.le_of_ble_eq_true rfl) tk_HF_trail rfl rfl ⟨trivial, trivial⟩ ?_
      obtain rfl := Option.some.inj hx
      obtain ⟨rfl, rfl⟩ := hP
      exact Ev.iret 9 tk_HF_trail rfl rfl
    · replace hx := ia hc2 hx
      refine Ev.blk (pc' := 13) (lv' := [some (vr 0 0 0), some (vi a1), some (vi a2)]) (st' := [vi (ii 1), vi a1]) (h' := h) 5 2 (Nat.le_of_ble_eq_true rfl) tk_HF_trail rfl rfl ⟨trivial, trivial, trivial⟩ ?_
      refine Ev.icmp_le 7 18 tk_HF_trail rfl (by decide) (fun hc3 => ?_) (fun hc3 => ?_)
      · replace hx := ip hc3 hx
        refine Ev.blk (pc' := 19) (lv' := [some (vr 0 0 0), some (vi a1), some (vi a2)]) (st' := [vi a2]) (h' := h) 10 1 (Nat.le_of_ble_eq_true rfl) tk_HF_trail rfl rfl ⟨trivial, trivial⟩ ?_
        refine Ev.if_ne 11 31 tk_HF_trail rfl (by decide) (fun hc4 => ?_) (fun hc4 => ?_)
        · replace hx := ia hc4 hx
          refine Ev.blk (pc' := 33) (lv' := [some (vr 0 0 0), some (vi a1), some (vi a2)]) (st' := [vi (ii 1), vi a2]) (h' := h) 17 2 (Nat.le_of_ble_eq_true rfl) tk_HF_trail rfl rfl ⟨trivial, trivial, trivial⟩ ?_
          refine Ev.icmp_ne 19 44 tk_HF_trail rfl (by decide) (fun hc5 => ?_) (fun hc5 => ?_)
          · replace hx := ia hc5 hx
            refine Ev.blk (pc' := 45) (lv' := [some (vr 0 0 0), some (vi a1), some (vi a2)]) (st' := [vi (ii (-1))]) (h' := h) 24 1 (Nat.le_of_ble_eq_true rfl) tk_HF_trail rfl rfl ⟨trivial, trivial⟩ ?_
            obtain rfl := Option.some.inj hx
            obtain ⟨rfl, rfl⟩ := hP
            exact Ev.iret 25 tk_HF_trail rfl rfl
          · replace hx := ip hc5 hx
            refine Ev.blk (pc' := 38) (lv' := [some (vr 0 0 0), some (vi a1), some (vi a2)]) (st' := [vi a1, vr 0 0 0]) (h' := h) 20 2 (Nat.le_of_ble_eq_true rfl) tk_HF_trail rfl rfl ⟨trivial, trivial, trivial⟩ ?_
            obtain ⟨q1, hq6, hx⟩ := bd hx
            refine Ev.callV (ν := m_HF_freeOf) (av := [vi a1]) (rest := []) (r1 := some (vi q1)) (h1 := h) (ci := 0) (nn := 0) (o := 0) 22 1 tk_HF_trail rfl bb_HF_freeOf vv_HF_freeOf lk_0_324 (by decide) rfl rfl (Or.inl rfl) (Nat.le_of_ble_eq_true rfl) (s_HF_freeOf Γ a1 h _ hq6) ?_
            show Ev Γ m_HF_trail 41 [some (vr 0 0 0), some (vi a1), some (vi a2)] [vi q1] h r h'
            refine Ev.blk (pc' := 45) (lv' := [some (vr 0 0 0), some (vi a1), some (vi a2)]) (st' := [vi q1]) (h' := h) 23 1 (Nat.le_of_ble_eq_true rfl) tk_HF_trail rfl rfl ⟨trivial, trivial⟩ ?_
            obtain rfl := Option.some.inj hx
            obtain ⟨rfl, rfl⟩ := hP
            exact Ev.iret 25 tk_HF_trail rfl rfl
        · replace hx := ip hc4 hx
          refine Ev.blk (pc' := 27) (lv' := [some (vr 0 0 0), some (vi a1), some (vi a2)]) (st' := [vi a1, vr 8 0 13]) (h' := h) 12 3 (Nat.le_of_ble_eq_true rfl) tk_HF_trail rfl rfl ⟨trivial, trivial, trivial, trivial⟩ ?_
          obtain ⟨q2, hq7, hx⟩ := bd hx
          refine Ev.callV (ν := m_Moor_trailOf) (av := [vi a1]) (rest := []) (r1 := some (vi q2)) (h1 := h) (ci := 8) (nn := 0) (o := 13) 15 1 tk_HF_trail rfl bb_Moor_trailOf vv_Moor_trailOf lk_0_336 (by decide) rfl rfl (Or.inl rfl) (Nat.le_of_ble_eq_true rfl) (s_Moor_trailOf Γ 13 a1 h _ hq7) ?_
          show Ev Γ m_HF_trail 30 [some (vr 0 0 0), some (vi a1), some (vi a2)] [vi q2] h r h'
          obtain rfl := Option.some.inj hx
          obtain ⟨rfl, rfl⟩ := hP
          exact Ev.iret 16 tk_HF_trail rfl rfl
      · replace hx := ia hc3 hx
        refine Ev.blk (pc' := 17) (lv' := [some (vr 0 0 0), some (vi a1), some (vi a2)]) (st' := [vi (ii (-1))]) (h' := h) 8 1 (Nat.le_of_ble_eq_true rfl) tk_HF_trail rfl rfl ⟨trivial, trivial⟩ ?_
        obtain rfl := Option.some.inj hx
        obtain ⟨rfl, rfl⟩ := hP
        exact Ev.iret 9 tk_HF_trail rfl rfl
set_option maxRecDepth 4000 in
theorem s_Heard_add (Γ : AG) (a1 : Int32) (a2 : Int32) (a3 : Int32) (h : AH) (x : AH) (hx : f_Heard_add a1 a2 a3 h = some x) : MetA Γ m_Heard_add [vr 10 0 33, vi a1, vi a2, vi a3] h (none) x := by
  refine Ev.met rfl rfl (Nat.le_of_ble_eq_true rfl) ?_
  show Ev Γ m_Heard_add 0 [some (vr 10 0 33), some (vi a1), some (vi a2), some (vi a3)] [] h _ _
  obtain ⟨r, hr⟩ : ∃ r : Option AV, r = none := ⟨_, rfl⟩
  obtain ⟨h', hh⟩ : ∃ h' : AH, h' = x := ⟨_, rfl⟩
  have hP : r = none ∧ h' = x := ⟨hr, hh⟩
  suffices hS : Ev Γ m_Heard_add 0 [some (vr 10 0 33), some (vi a1), some (vi a2), some (vi a3)] [] h r h' by rw [hr, hh] at hS; exact hS
  clear hr hh
  unfold f_Heard_add at hx
  refine Ev.blk (pc' := 4) (lv' := [some (vr 10 0 33), some (vi a1), some (vi a2), some (vi a3)]) (st' := [vi (h.1 33 5)]) (h' := h) 0 2 (Nat.le_of_ble_eq_true rfl) tk_Heard_add rfl rfl ⟨trivial, trivial, trivial⟩ ?_
  refine Ev.if_lt 2 56 tk_Heard_add rfl (by decide) (fun hc1 => ?_) (fun hc1 => ?_)
  · replace hx := ip hc1 hx
    obtain rfl := Option.some.inj hx
    obtain ⟨rfl, rfl⟩ := hP
    exact Ev.vret 31 tk_Heard_add rfl rfl
  · replace hx := ia hc1 hx
    refine Ev.blk (pc' := 13) (lv' := [some (vr 10 0 33), some (vi a1), some (vi a2), some (vi a3)]) (st' := [vi (ii 12), vi (h.1 33 5)]) (h' := h) 3 3 (Nat.le_of_ble_eq_true rfl) tk_Heard_add rfl rfl ⟨trivial, trivial, trivial, trivial⟩ ?_
    refine Ev.icmp_ge 6 56 tk_Heard_add rfl (by decide) (fun hc2 => ?_) (fun hc2 => ?_)
    · replace hx := ip hc2 hx
      obtain rfl := Option.some.inj hx
      obtain ⟨rfl, rfl⟩ := hP
      exact Ev.vret 31 tk_Heard_add rfl rfl
    · replace hx := ia hc2 hx
      obtain ⟨hg3, hx⟩ := gd hx
      obtain ⟨hg4, hx⟩ := gd hx
      obtain ⟨hg5, hx⟩ := gd hx
      refine Ev.blk (pc' := 56) (lv' := [some (vr 10 0 33), some (vi a1), some (vi a2), some (vi a3)]) (st' := []) (h' := (wI (wI (wI (wI h 34 (h.1 33 5).toNatClampNeg a1) 35 ((wI h 34 (h.1 33 5).toNatClampNeg a1).1 33 5).toNatClampNeg a2) 36 ((wI (wI h 34 (h.1 33 5).toNatClampNeg a1) 35 ((wI h 34 (h.1 33 5).toNatClampNeg a1).1 33 5).toNatClampNeg a2).1 33 5).toNatClampNeg (vp_nar .boolean a3)) 33 5 (((wI (wI (wI h 34 (h.1 33 5).toNatClampNeg a1) 35 ((wI h 34 (h.1 33 5).toNatClampNeg a1).1 33 5).toNatClampNeg a2) 36 ((wI (wI h 34 (h.1 33 5).toNatClampNeg a1) 35 ((wI h 34 (h.1 33 5).toNatClampNeg a1).1 33 5).toNatClampNeg a2).1 33 5).toNatClampNeg (vp_nar .boolean a3)).1 33 5) + (ii 1)))) 7 24 (Nat.le_of_ble_eq_true rfl) tk_Heard_add rfl rfl ⟨trivial, trivial, trivial, trivial, trivial, hg3, trivial, trivial, trivial, trivial, trivial, hg4, trivial, trivial, trivial, trivial, trivial, hg5, trivial, trivial, trivial, trivial, trivial, trivial, trivial⟩ ?_
      obtain ⟨q1, hq6, hx⟩ := bd hx
      rw [Option.some.inj hq6]
      show Ev Γ m_Heard_add 56 [some (vr 10 0 33), some (vi a1), some (vi a2), some (vi a3)] [] q1 r h'
      obtain rfl := Option.some.inj hx
      obtain ⟨rfl, rfl⟩ := hP
      exact Ev.vret 31 tk_Heard_add rfl rfl
set_option maxRecDepth 4000 in
theorem s_HF_hear (Γ : AG) (a1 : Int32) (a2 : Int32) (a3 : Int32) (h : AH) (x : Int32 × AH) (hx : f_HF_hear a1 a2 a3 h = some x) : MetA Γ m_HF_hear [vr 0 0 0, vi a1, vi a2, vi a3] h (some (vi x.1)) x.2 := by
  refine Ev.met rfl rfl (Nat.le_of_ble_eq_true rfl) ?_
  show Ev Γ m_HF_hear 0 [some (vr 0 0 0), some (vi a1), some (vi a2), some (vi a3)] [] h _ _
  obtain ⟨r, hr⟩ : ∃ r : Option AV, r = some (vi x.1) := ⟨_, rfl⟩
  obtain ⟨h', hh⟩ : ∃ h' : AH, h' = x.2 := ⟨_, rfl⟩
  have hP : r = some (vi x.1) ∧ h' = x.2 := ⟨hr, hh⟩
  suffices hS : Ev Γ m_HF_hear 0 [some (vr 0 0 0), some (vi a1), some (vi a2), some (vi a3)] [] h r h' by rw [hr, hh] at hS; exact hS
  clear hr hh
  unfold f_HF_hear at hx
  refine Ev.blk (pc' := 5) (lv' := [some (vr 0 0 0), some (vi a1), some (vi a2), some (vi a3)]) (st' := [vi a1, vr 3 0 (h.2.2 0 13)]) (h' := h) 0 3 (Nat.le_of_ble_eq_true rfl) tk_HF_hear rfl rfl ⟨trivial, trivial, trivial, trivial⟩ ?_
  refine Ev.callV (ν := m_Heath_isFork) (av := [vi a1]) (rest := []) (r1 := some (vi (p_Heath_isFork (h.2.2 0 13) a1 h))) (h1 := h) (ci := 3) (nn := 0) (o := (h.2.2 0 13)) 3 1 tk_HF_hear rfl bb_Heath_isFork vv_Heath_isFork lk_0_180 (by decide) rfl rfl (Or.inl rfl) (Nat.le_of_ble_eq_true rfl) (s_Heath_isFork Γ (h.2.2 0 13) a1 h) ?_
  show Ev Γ m_HF_hear 8 [some (vr 0 0 0), some (vi a1), some (vi a2), some (vi a3)] [vi (p_Heath_isFork (h.2.2 0 13) a1 h)] h r h'
  refine Ev.if_eq 4 34 tk_HF_hear rfl (by decide) (fun hc1 => ?_) (fun hc1 => ?_)
  · replace hx := ip hc1 hx
    refine Ev.blk (pc' := 35) (lv' := [some (vr 0 0 0), some (vi a1), some (vi a2), some (vi a3)]) (st' := [vi (ii (-1))]) (h' := h) 15 1 (Nat.le_of_ble_eq_true rfl) tk_HF_hear rfl rfl ⟨trivial, trivial⟩ ?_
    obtain rfl := Option.some.inj hx
    obtain ⟨rfl, rfl⟩ := hP
    exact Ev.iret 16 tk_HF_hear rfl rfl
  · replace hx := ia hc1 hx
    refine Ev.blk (pc' := 16) (lv' := [some (vr 0 0 0), some (vi a1), some (vi a2), some (vi a3)]) (st' := [vi a2, vr 3 0 (h.2.2 0 13)]) (h' := h) 5 3 (Nat.le_of_ble_eq_true rfl) tk_HF_hear rfl rfl ⟨trivial, trivial, trivial, trivial⟩ ?_
    refine Ev.callV (ν := m_Heath_isCell) (av := [vi a2]) (rest := []) (r1 := some (vi (p_Heath_isCell (h.2.2 0 13) a2 h))) (h1 := h) (ci := 3) (nn := 0) (o := (h.2.2 0 13)) 8 1 tk_HF_hear rfl bb_Heath_isCell vv_Heath_isCell lk_0_153 (by decide) rfl rfl (Or.inl rfl) (Nat.le_of_ble_eq_true rfl) (s_Heath_isCell Γ (h.2.2 0 13) a2 h) ?_
    show Ev Γ m_HF_hear 19 [some (vr 0 0 0), some (vi a1), some (vi a2), some (vi a3)] [vi (p_Heath_isCell (h.2.2 0 13) a2 h)] h r h'
    refine Ev.if_eq 9 34 tk_HF_hear rfl (by decide) (fun hc2 => ?_) (fun hc2 => ?_)
    · replace hx := ip hc2 hx
      refine Ev.blk (pc' := 35) (lv' := [some (vr 0 0 0), some (vi a1), some (vi a2), some (vi a3)]) (st' := [vi (ii (-1))]) (h' := h) 15 1 (Nat.le_of_ble_eq_true rfl) tk_HF_hear rfl rfl ⟨trivial, trivial⟩ ?_
      obtain rfl := Option.some.inj hx
      obtain ⟨rfl, rfl⟩ := hP
      exact Ev.iret 16 tk_HF_hear rfl rfl
    · replace hx := ia hc2 hx
      refine Ev.blk (pc' := 31) (lv' := [some (vr 0 0 0), some (vi a1), some (vi a2), some (vi a3)]) (st' := [vi (ii 12), vi (h.1 33 5)]) (h' := h) 10 4 (Nat.le_of_ble_eq_true rfl) tk_HF_hear rfl rfl ⟨trivial, trivial, trivial, trivial, trivial⟩ ?_
      refine Ev.icmp_lt 14 36 tk_HF_hear rfl (by decide) (fun hc3 => ?_) (fun hc3 => ?_)
      · replace hx := ip hc3 hx
        refine Ev.blk (pc' := 43) (lv' := [some (vr 0 0 0), some (vi a1), some (vi a2), some (vi a3)]) (st' := [vi a3, vi a2, vi a1, vr 10 0 33]) (h' := h) 17 5 (Nat.le_of_ble_eq_true rfl) tk_HF_hear rfl rfl ⟨trivial, trivial, trivial, trivial, trivial, trivial⟩ ?_
        obtain ⟨q1, hq4, hx⟩ := bd hx
        refine Ev.callV (ν := m_Heard_add) (av := [vi a1, vi a2, vi a3]) (rest := []) (r1 := none) (h1 := q1) (ci := 10) (nn := 0) (o := 33) 22 3 tk_HF_hear rfl bb_Heard_add vv_Heard_add lk_0_340 (by decide) rfl rfl (Or.inl rfl) (Nat.le_of_ble_eq_true rfl) (s_Heard_add Γ a1 a2 a3 h _ hq4) ?_
        show Ev Γ m_HF_hear 46 [some (vr 0 0 0), some (vi a1), some (vi a2), some (vi a3)] [] q1 r h'
        refine Ev.blk (pc' := 53) (lv' := [some (vr 0 0 0), some (vi a1), some (vi a2), some (vi a3)]) (st' := [vi (q1.1 33 5)]) (h' := q1) 23 3 (Nat.le_of_ble_eq_true rfl) tk_HF_hear rfl rfl ⟨trivial, trivial, trivial, trivial⟩ ?_
        obtain rfl := Option.some.inj hx
        obtain ⟨rfl, rfl⟩ := hP
        exact Ev.iret 26 tk_HF_hear rfl rfl
      · replace hx := ia hc3 hx
        refine Ev.blk (pc' := 35) (lv' := [some (vr 0 0 0), some (vi a1), some (vi a2), some (vi a3)]) (st' := [vi (ii (-1))]) (h' := h) 15 1 (Nat.le_of_ble_eq_true rfl) tk_HF_hear rfl rfl ⟨trivial, trivial⟩ ?_
        obtain rfl := Option.some.inj hx
        obtain ⟨rfl, rfl⟩ := hP
        exact Ev.iret 16 tk_HF_hear rfl rfl
theorem s_HF_canScan (Γ : AG) (a1 : Int32) (h : AH) : MetA Γ m_HF_canScan [vr 0 0 0, vi a1] h (some (vi (p_HF_canScan a1 h))) h := by
  refine Ev.met rfl rfl (Nat.le_of_ble_eq_true rfl) ?_
  generalize hx : p_HF_canScan a1 h = x
  show Ev Γ m_HF_canScan 0 [some (vr 0 0 0), some (vi a1)] [] h _ _
  obtain ⟨r, hr⟩ : ∃ r : Option AV, r = some (vi x) := ⟨_, rfl⟩
  obtain ⟨h', hh⟩ : ∃ h' : AH, h' = h := ⟨_, rfl⟩
  have hP : r = some (vi x) ∧ h' = h := ⟨hr, hh⟩
  suffices hS : Ev Γ m_HF_canScan 0 [some (vr 0 0 0), some (vi a1)] [] h r h' by rw [hr, hh] at hS; exact hS
  clear hr hh
  unfold p_HF_canScan at hx
  refine Ev.blk (pc' := 1) (lv' := [some (vr 0 0 0), some (vi a1)]) (st' := [vr 0 0 0]) (h' := h) 0 1 (Nat.le_of_ble_eq_true rfl) tk_HF_canScan rfl rfl ⟨trivial, trivial⟩ ?_
  refine Ev.callV (ν := m_HF_hasHeath) (av := []) (rest := []) (r1 := some (vi (p_HF_hasHeath h))) (h1 := h) (ci := 0) (nn := 0) (o := 0) 1 0 tk_HF_canScan rfl bb_HF_hasHeath vv_HF_hasHeath lk_0_137 (by decide) rfl rfl (Or.inl rfl) (Nat.le_of_ble_eq_true rfl) (s_HF_hasHeath Γ h) ?_
  show Ev Γ m_HF_canScan 4 [some (vr 0 0 0), some (vi a1)] [vi (p_HF_hasHeath h)] h r h'
  refine Ev.if_eq 2 21 tk_HF_canScan rfl (by decide) (fun hc1 => ?_) (fun hc1 => ?_)
  · replace hx := ip hc1 hx
    refine Ev.blk (pc' := 22) (lv' := [some (vr 0 0 0), some (vi a1)]) (st' := [vi (ii 0)]) (h' := h) 11 1 (Nat.le_of_ble_eq_true rfl) tk_HF_canScan rfl rfl ⟨trivial, trivial⟩ ?_
    subst hx
    obtain ⟨rfl, rfl⟩ := hP
    exact Ev.zret 12 tk_HF_canScan rfl rfl rfl
  · replace hx := ia hc1 hx
    refine Ev.blk (pc' := 9) (lv' := [some (vr 0 0 0), some (vi a1)]) (st' := [vi (ii 2), vi a1]) (h' := h) 3 2 (Nat.le_of_ble_eq_true rfl) tk_HF_canScan rfl rfl ⟨trivial, trivial, trivial⟩ ?_
    refine Ev.icmp_lt 5 21 tk_HF_canScan rfl (by decide) (fun hc2 => ?_) (fun hc2 => ?_)
    · replace hx := ip hc2 hx
      refine Ev.blk (pc' := 22) (lv' := [some (vr 0 0 0), some (vi a1)]) (st' := [vi (ii 0)]) (h' := h) 11 1 (Nat.le_of_ble_eq_true rfl) tk_HF_canScan rfl rfl ⟨trivial, trivial⟩ ?_
      subst hx
      obtain ⟨rfl, rfl⟩ := hP
      exact Ev.zret 12 tk_HF_canScan rfl rfl rfl
    · replace hx := ia hc2 hx
      refine Ev.blk (pc' := 14) (lv' := [some (vr 0 0 0), some (vi a1)]) (st' := [vi (ii 5), vi a1]) (h' := h) 6 2 (Nat.le_of_ble_eq_true rfl) tk_HF_canScan rfl rfl ⟨trivial, trivial, trivial⟩ ?_
      refine Ev.icmp_gt 8 21 tk_HF_canScan rfl (by decide) (fun hc3 => ?_) (fun hc3 => ?_)
      · replace hx := ip hc3 hx
        refine Ev.blk (pc' := 22) (lv' := [some (vr 0 0 0), some (vi a1)]) (st' := [vi (ii 0)]) (h' := h) 11 1 (Nat.le_of_ble_eq_true rfl) tk_HF_canScan rfl rfl ⟨trivial, trivial⟩ ?_
        subst hx
        obtain ⟨rfl, rfl⟩ := hP
        exact Ev.zret 12 tk_HF_canScan rfl rfl rfl
      · replace hx := ia hc3 hx
        refine Ev.blk (pc' := 22) (lv' := [some (vr 0 0 0), some (vi a1)]) (st' := [vi (ii 1)]) (h' := h) 9 2 (Nat.le_of_ble_eq_true rfl) tk_HF_canScan rfl rfl ⟨trivial, trivial, trivial⟩ ?_
        subst hx
        obtain ⟨rfl, rfl⟩ := hP
        exact Ev.zret 12 tk_HF_canScan rfl rfl rfl
set_option maxRecDepth 4000 in
theorem l_Heard_gather_L12 (Γ : AG) : ∀ (n : Nat) (v1 : Int32) (v2 : Int32) (h : AH) (x : AH), Heard_gather_L12 n v1 v2 h = some x → ∀ (r : Option AV) (h' : AH), r = none ∧ h' = x → Ev Γ m_Heard_gather 12 [some (vr 10 0 33), some (vi v1), some (vi v2)] [] h r h' := by
  intro n
  induction n with
  | zero => intro v1 v2 h x hx; cases hx
  | succ n ih =>
    intro v1 v2 h x hx r h' hP
    replace hx : Heard_gather_L12_b (Heard_gather_L12 n) v1 v2 h = some x := hx
    unfold Heard_gather_L12_b at hx
    refine Ev.blk (pc' := 17) (lv' := [some (vr 10 0 33), some (vi v1), some (vi v2)]) (st' := [vi (h.1 33 5), vi v2]) (h' := h) 8 3 (Nat.le_of_ble_eq_true rfl) tk_Heard_gather rfl rfl ⟨trivial, trivial, trivial, trivial⟩ ?_
    refine Ev.icmp_ge 11 100 tk_Heard_gather rfl (by decide) (fun hc1 => ?_) (fun hc1 => ?_)
    · replace hx := ip hc1 hx
      obtain rfl := Option.some.inj hx
      obtain ⟨rfl, rfl⟩ := hP
      exact Ev.vret 55 tk_Heard_gather rfl rfl
    · replace hx := ia hc1 hx
      refine Ev.blk (pc' := 23) (lv' := [some (vr 10 0 33), some (vi v1), some (vi v2)]) (st' := [vi (ii 12), vi v2]) (h' := h) 12 2 (Nat.le_of_ble_eq_true rfl) tk_Heard_gather rfl rfl ⟨trivial, trivial, trivial⟩ ?_
      refine Ev.icmp_ge 14 100 tk_Heard_gather rfl (by decide) (fun hc2 => ?_) (fun hc2 => ?_)
      · replace hx := ip hc2 hx
        obtain rfl := Option.some.inj hx
        obtain ⟨rfl, rfl⟩ := hP
        exact Ev.vret 55 tk_Heard_gather rfl rfl
      · replace hx := ia hc2 hx
        obtain ⟨hg3, hx⟩ := gd hx
        refine Ev.blk (pc' := 33) (lv' := [some (vr 10 0 33), some (vi v1), some (vi v2)]) (st' := [vi v1, vi (h.1 34 (v2).toNatClampNeg)]) (h' := h) 15 5 (Nat.le_of_ble_eq_true rfl) tk_Heard_gather rfl rfl ⟨trivial, trivial, trivial, hg3, trivial, trivial⟩ ?_
        obtain ⟨q1, hq4, hx⟩ := bd hx
        have K5 : Ev Γ m_Heard_gather 94 [some (vr 10 0 33), some (vi v1), some (vi v2)] [] q1 r h' := by
          refine Ev.blk (pc' := 12) (lv' := [some (vr 10 0 33), some (vi v1), some (vi (v2 + ii 1))]) (st' := []) (h' := q1) 53 2 (Nat.le_of_ble_eq_true rfl) tk_Heard_gather rfl rfl ⟨trivial, trivial, trivial⟩ ?_
          exact Ev.msk [true, true, true] (ih v1 (v2 + ii 1) q1 _ hx r h' hP)
        clear hx
        refine Ev.icmp_eq 20 66 tk_Heard_gather rfl (by decide) (fun hc6 => ?_) (fun hc6 => ?_)
        · replace hq4 := ip hc6 hq4
          obtain ⟨hg7, hq4⟩ := gd hq4
          refine Ev.blk (pc' := 73) (lv' := [some (vr 10 0 33), some (vi v1), some (vi v2)]) (st' := [vi v1, vi (h.1 34 (v2).toNatClampNeg)]) (h' := h) 37 5 (Nat.le_of_ble_eq_true rfl) tk_Heard_gather rfl rfl ⟨trivial, trivial, trivial, hg7, trivial, trivial⟩ ?_
          refine Ev.icmp_eq 42 94 tk_Heard_gather rfl (by decide) (fun hc8 => ?_) (fun hc8 => ?_)
          · replace hq4 := ip hc8 hq4
            obtain rfl := Option.some.inj hq4
            exact Ev.msk [true, true, true] K5
          · replace hq4 := ia hc8 hq4
            obtain ⟨hg9, hq4⟩ := gd hq4
            refine Ev.blk (pc' := 87) (lv' := [some (vr 10 0 33), some (vi v1), some (vi v2)]) (st' := [vi (h.1 35 (v2).toNatClampNeg), vi (h.1 33 7), vr 10 0 33]) (h' := h) 43 7 (Nat.le_of_ble_eq_true rfl) tk_Heard_gather rfl rfl ⟨trivial, trivial, trivial, trivial, trivial, trivial, hg9, trivial⟩ ?_
            refine Ev.callSN (ν := m_HF_bit) (av := [vi (h.1 35 (v2).toNatClampNeg)]) (rest := [vi (h.1 33 7), vr 10 0 33]) (r1 := some (vi (p_HF_bit (h.1 35 (v2).toNatClampNeg)))) (h1 := h) 50 1 tk_Heard_gather rfl bb_HF_bit vv_HF_bit lk_10_56 (by decide) rfl rfl (Nat.le_of_ble_eq_true rfl) (s_HF_bit Γ (h.1 35 (v2).toNatClampNeg) h) ?_
            show Ev Γ m_Heard_gather 90 [some (vr 10 0 33), some (vi v1), some (vi v2)] [vi (p_HF_bit (h.1 35 (v2).toNatClampNeg)), vi (h.1 33 7), vr 10 0 33] h r h'
            refine Ev.blk (pc' := 94) (lv' := [some (vr 10 0 33), some (vi v1), some (vi v2)]) (st' := []) (h' := (wI h 33 7 ((h.1 33 7) ||| (p_HF_bit (h.1 35 (v2).toNatClampNeg))))) 51 2 (Nat.le_of_ble_eq_true rfl) tk_Heard_gather rfl rfl ⟨trivial, trivial, trivial⟩ ?_
            obtain rfl := Option.some.inj hq4
            exact Ev.msk [true, true, true] K5
        · replace hq4 := ia hc6 hq4
          obtain ⟨hg10, hq4⟩ := gd hq4
          refine Ev.blk (pc' := 42) (lv' := [some (vr 10 0 33), some (vi v1), some (vi v2)]) (st' := [vi (h.1 36 (v2).toNatClampNeg)]) (h' := h) 21 4 (Nat.le_of_ble_eq_true rfl) tk_Heard_gather rfl rfl ⟨trivial, trivial, trivial, hg10, trivial⟩ ?_
          refine Ev.if_eq 25 66 tk_Heard_gather rfl (by decide) (fun hc11 => ?_) (fun hc11 => ?_)
          · replace hq4 := ip hc11 hq4
            obtain ⟨hg12, hq4⟩ := gd hq4
            refine Ev.blk (pc' := 73) (lv' := [some (vr 10 0 33), some (vi v1), some (vi v2)]) (st' := [vi v1, vi (h.1 34 (v2).toNatClampNeg)]) (h' := h) 37 5 (Nat.le_of_ble_eq_true rfl) tk_Heard_gather rfl rfl ⟨trivial, trivial, trivial, hg12, trivial, trivial⟩ ?_
            refine Ev.icmp_eq 42 94 tk_Heard_gather rfl (by decide) (fun hc13 => ?_) (fun hc13 => ?_)
            · replace hq4 := ip hc13 hq4
              obtain rfl := Option.some.inj hq4
              exact Ev.msk [true, true, true] K5
            · replace hq4 := ia hc13 hq4
              obtain ⟨hg14, hq4⟩ := gd hq4
              refine Ev.blk (pc' := 87) (lv' := [some (vr 10 0 33), some (vi v1), some (vi v2)]) (st' := [vi (h.1 35 (v2).toNatClampNeg), vi (h.1 33 7), vr 10 0 33]) (h' := h) 43 7 (Nat.le_of_ble_eq_true rfl) tk_Heard_gather rfl rfl ⟨trivial, trivial, trivial, trivial, trivial, trivial, hg14, trivial⟩ ?_
              refine Ev.callSN (ν := m_HF_bit) (av := [vi (h.1 35 (v2).toNatClampNeg)]) (rest := [vi (h.1 33 7), vr 10 0 33]) (r1 := some (vi (p_HF_bit (h.1 35 (v2).toNatClampNeg)))) (h1 := h) 50 1 tk_Heard_gather rfl bb_HF_bit vv_HF_bit lk_10_56 (by decide) rfl rfl (Nat.le_of_ble_eq_true rfl) (s_HF_bit Γ (h.1 35 (v2).toNatClampNeg) h) ?_
              show Ev Γ m_Heard_gather 90 [some (vr 10 0 33), some (vi v1), some (vi v2)] [vi (p_HF_bit (h.1 35 (v2).toNatClampNeg)), vi (h.1 33 7), vr 10 0 33] h r h'
              refine Ev.blk (pc' := 94) (lv' := [some (vr 10 0 33), some (vi v1), some (vi v2)]) (st' := []) (h' := (wI h 33 7 ((h.1 33 7) ||| (p_HF_bit (h.1 35 (v2).toNatClampNeg))))) 51 2 (Nat.le_of_ble_eq_true rfl) tk_Heard_gather rfl rfl ⟨trivial, trivial, trivial⟩ ?_
              obtain rfl := Option.some.inj hq4
              exact Ev.msk [true, true, true] K5
          · replace hq4 := ia hc11 hq4
            obtain ⟨hg15, hq4⟩ := gd hq4
            refine Ev.blk (pc' := 56) (lv' := [some (vr 10 0 33), some (vi v1), some (vi v2)]) (st' := [vi (h.1 35 (v2).toNatClampNeg), vi (h.1 33 6), vr 10 0 33]) (h' := h) 26 7 (Nat.le_of_ble_eq_true rfl) tk_Heard_gather rfl rfl ⟨trivial, trivial, trivial, trivial, trivial, trivial, hg15, trivial⟩ ?_
            refine Ev.callSN (ν := m_HF_bit) (av := [vi (h.1 35 (v2).toNatClampNeg)]) (rest := [vi (h.1 33 6), vr 10 0 33]) (r1 := some (vi (p_HF_bit (h.1 35 (v2).toNatClampNeg)))) (h1 := h) 33 1 tk_Heard_gather rfl bb_HF_bit vv_HF_bit lk_10_56 (by decide) rfl rfl (Nat.le_of_ble_eq_true rfl) (s_HF_bit Γ (h.1 35 (v2).toNatClampNeg) h) ?_
            show Ev Γ m_Heard_gather 59 [some (vr 10 0 33), some (vi v1), some (vi v2)] [vi (p_HF_bit (h.1 35 (v2).toNatClampNeg)), vi (h.1 33 6), vr 10 0 33] h r h'
            refine Ev.blk (pc' := 94) (lv' := [some (vr 10 0 33), some (vi v1), some (vi v2)]) (st' := []) (h' := (wI h 33 6 ((h.1 33 6) ||| (p_HF_bit (h.1 35 (v2).toNatClampNeg))))) 34 3 (Nat.le_of_ble_eq_true rfl) tk_Heard_gather rfl rfl ⟨trivial, trivial, trivial, trivial⟩ ?_
            obtain rfl := Option.some.inj hq4
            exact Ev.msk [true, true, true] K5
set_option maxRecDepth 4000 in
theorem s_Heard_gather (Γ : AG) (a1 : Int32) (h : AH) (x : AH) (hx : f_Heard_gather a1 h = some x) : MetA Γ m_Heard_gather [vr 10 0 33, vi a1] h (none) x := by
  refine Ev.met rfl rfl (Nat.le_of_ble_eq_true rfl) ?_
  show Ev Γ m_Heard_gather 0 [some (vr 10 0 33), some (vi a1), none] [] h _ _
  obtain ⟨r, hr⟩ : ∃ r : Option AV, r = none := ⟨_, rfl⟩
  obtain ⟨h', hh⟩ : ∃ h' : AH, h' = x := ⟨_, rfl⟩
  have hP : r = none ∧ h' = x := ⟨hr, hh⟩
  suffices hS : Ev Γ m_Heard_gather 0 [some (vr 10 0 33), some (vi a1), none] [] h r h' by rw [hr, hh] at hS; exact hS
  clear hr hh
  unfold f_Heard_gather at hx
  refine Ev.blk (pc' := 12) (lv' := [some (vr 10 0 33), some (vi a1), some (vi (ii 0))]) (st' := []) (h' := (wI (wI h 33 6 (ii 0)) 33 7 (ii 0))) 0 8 (Nat.le_of_ble_eq_true rfl) tk_Heard_gather rfl rfl ⟨trivial, trivial, trivial, trivial, trivial, trivial, trivial, trivial, trivial⟩ ?_
  refine Ev.msk [true, true, true] ?_
  show Ev Γ m_Heard_gather 12 [some (vr 10 0 33), some (vi a1), some (vi (ii 0))] [] (wI (wI h 33 6 (ii 0)) 33 7 (ii 0)) r h'
  exact l_Heard_gather_L12 Γ FU a1 (ii 0) (wI (wI h 33 6 (ii 0)) 33 7 (ii 0)) _ hx r h' hP
set_option maxRecDepth 4000 in
theorem l_Heard_veinBits_L14 (Γ : AG) : ∀ (n : Nat) (o0 : Nat) (v3 : Int32) (v4 : Int32) (v5 : Int32) (v6 : Int32) (h : AH) (x : Int32), Heard_veinBits_L14 n o0 v3 v4 v5 v6 h = some x → ∀ (r : Option AV) (h' : AH), r = some (vi x) ∧ h' = h → Ev Γ m_Heard_veinBits 14 [some (vr 3 0 o0), none, none, some (vi v3), some (vi v4), some (vi v5), some (vi v6)] [] h r h' := by
  intro n
  induction n with
  | zero => intro o0 v3 v4 v5 v6 h x hx; cases hx
  | succ n ih =>
    intro o0 v3 v4 v5 v6 h x hx r h' hP
    replace hx : Heard_veinBits_L14_b (Heard_veinBits_L14 n) o0 v3 v4 v5 v6 h = some x := hx
    unfold Heard_veinBits_L14_b at hx
    refine Ev.blk (pc' := 16) (lv' := [some (vr 3 0 o0), none, none, some (vi v3), some (vi v4), some (vi v5), some (vi v6)]) (st' := [vi v6]) (h' := h) 9 1 (Nat.le_of_ble_eq_true rfl) tk_Heard_veinBits rfl rfl ⟨trivial, trivial⟩ ?_
    refine Ev.if_lt 10 57 tk_Heard_veinBits rfl (by decide) (fun hc1 => ?_) (fun hc1 => ?_)
    · replace hx := ip hc1 hx
      refine Ev.blk (pc' := 59) (lv' := [some (vr 3 0 o0), none, none, some (vi v3), some (vi v4), some (vi v5), some (vi v6)]) (st' := [vi v4]) (h' := h) 32 1 (Nat.le_of_ble_eq_true rfl) tk_Heard_veinBits rfl rfl ⟨trivial, trivial⟩ ?_
      obtain rfl := Option.some.inj hx
      obtain ⟨rfl, rfl⟩ := hP
      exact Ev.iret 33 tk_Heard_veinBits rfl rfl
    · replace hx := ia hc1 hx
      refine Ev.blk (pc' := 28) (lv' := [some (vr 3 0 o0), none, none, some (vi v3), some (vi v4), some (vi v5), some (vi v6)]) (st' := [vi ((shrI v3 v6) &&& (ii 1)), vi v5, vr 3 0 o0]) (h' := h) 11 7 (Nat.le_of_ble_eq_true rfl) tk_Heard_veinBits rfl rfl ⟨trivial, trivial, trivial, trivial, trivial, trivial, trivial, trivial⟩ ?_
      obtain ⟨q1, hq2, hx⟩ := bd hx
      refine Ev.callV (ν := m_Heath_beyond) (av := [vi v5, vi ((shrI v3 v6) &&& (ii 1))]) (rest := []) (r1 := some (vi q1)) (h1 := h) (ci := 3) (nn := 0) (o := o0) 18 2 tk_Heard_veinBits rfl bb_Heath_beyond vv_Heath_beyond lk_10_68 (by decide) rfl rfl (Or.inl rfl) (Nat.le_of_ble_eq_true rfl) (s_Heath_beyond Γ o0 v5 ((shrI v3 v6) &&& (ii 1)) h _ hq2) ?_
      show Ev Γ m_Heard_veinBits 31 [some (vr 3 0 o0), none, none, some (vi v3), some (vi v4), some (vi v5), some (vi v6)] [vi q1] h r h'
      refine Ev.blk (pc' := 36) (lv' := [some (vr 3 0 o0), none, none, some (vi v3), some (vi v4), some (vi q1), some (vi v6)]) (st' := [vi (ii (-1)), vi q1]) (h' := h) 19 3 (Nat.le_of_ble_eq_true rfl) tk_Heard_veinBits rfl rfl ⟨trivial, trivial, trivial, trivial⟩ ?_
      refine Ev.icmp_ne 22 41 tk_Heard_veinBits rfl (by decide) (fun hc3 => ?_) (fun hc3 => ?_)
      · replace hx := ia hc3 hx
        refine Ev.blk (pc' := 45) (lv' := [some (vr 3 0 o0), none, none, some (vi v3), some (vi v4), some (vi q1), some (vi v6)]) (st' := [vi q1, vi v4]) (h' := h) 25 2 (Nat.le_of_ble_eq_true rfl) tk_Heard_veinBits rfl rfl ⟨trivial, trivial, trivial⟩ ?_
        refine Ev.callSN (ν := m_HF_bit) (av := [vi q1]) (rest := [vi v4]) (r1 := some (vi (p_HF_bit q1))) (h1 := h) 27 1 tk_Heard_veinBits rfl bb_HF_bit vv_HF_bit lk_10_56 (by decide) rfl rfl (Nat.le_of_ble_eq_true rfl) (s_HF_bit Γ q1 h) ?_
        show Ev Γ m_Heard_veinBits 48 [some (vr 3 0 o0), none, none, some (vi v3), some (vi v4), some (vi q1), some (vi v6)] [vi (p_HF_bit q1), vi v4] h r h'
        refine Ev.blk (pc' := 14) (lv' := [some (vr 3 0 o0), none, none, some (vi v3), some (vi (v4 ||| (p_HF_bit q1))), some (vi q1), some (vi (v6 + ii (-1)))]) (st' := []) (h' := h) 28 4 (Nat.le_of_ble_eq_true rfl) tk_Heard_veinBits rfl rfl ⟨trivial, trivial, trivial, trivial, trivial⟩ ?_
        exact Ev.msk [true, false, false, true, true, true, true] (ih o0 v3 (v4 ||| (p_HF_bit q1)) q1 (v6 + ii (-1)) h _ hx r h' hP)
      · replace hx := ip hc3 hx
        refine Ev.blk (pc' := 40) (lv' := [some (vr 3 0 o0), none, none, some (vi v3), some (vi v4), some (vi q1), some (vi v6)]) (st' := [vi (ii 0)]) (h' := h) 23 1 (Nat.le_of_ble_eq_true rfl) tk_Heard_veinBits rfl rfl ⟨trivial, trivial⟩ ?_
        obtain rfl := Option.some.inj hx
        obtain ⟨rfl, rfl⟩ := hP
        exact Ev.iret 24 tk_Heard_veinBits rfl rfl
set_option maxRecDepth 4000 in
theorem s_Heard_veinBits (Γ : AG) (o0 : Nat) (a1 : Int32) (a2 : Int32) (a3 : Int32) (h : AH) (x : Int32) (hx : f_Heard_veinBits o0 a1 a2 a3 h = some x) : MetA Γ m_Heard_veinBits [vr 3 0 o0, vi a1, vi a2, vi a3] h (some (vi x)) h := by
  refine Ev.met rfl rfl (Nat.le_of_ble_eq_true rfl) ?_
  show Ev Γ m_Heard_veinBits 0 [some (vr 3 0 o0), some (vi a1), some (vi a2), some (vi a3), none, none, none] [] h _ _
  obtain ⟨r, hr⟩ : ∃ r : Option AV, r = some (vi x) := ⟨_, rfl⟩
  obtain ⟨h', hh⟩ : ∃ h' : AH, h' = h := ⟨_, rfl⟩
  have hP : r = some (vi x) ∧ h' = h := ⟨hr, hh⟩
  suffices hS : Ev Γ m_Heard_veinBits 0 [some (vr 3 0 o0), some (vi a1), some (vi a2), some (vi a3), none, none, none] [] h r h' by rw [hr, hh] at hS; exact hS
  clear hr hh
  unfold f_Heard_veinBits at hx
  refine Ev.blk (pc' := 1) (lv' := [some (vr 3 0 o0), some (vi a1), some (vi a2), some (vi a3), none, none, none]) (st' := [vi a1]) (h' := h) 0 1 (Nat.le_of_ble_eq_true rfl) tk_Heard_veinBits rfl rfl ⟨trivial, trivial⟩ ?_
  refine Ev.callSN (ν := m_HF_bit) (av := [vi a1]) (rest := []) (r1 := some (vi (p_HF_bit a1))) (h1 := h) 1 1 tk_Heard_veinBits rfl bb_HF_bit vv_HF_bit lk_10_56 (by decide) rfl rfl (Nat.le_of_ble_eq_true rfl) (s_HF_bit Γ a1 h) ?_
  show Ev Γ m_Heard_veinBits 4 [some (vr 3 0 o0), some (vi a1), some (vi a2), some (vi a3), none, none, none] [vi (p_HF_bit a1)] h r h'
  refine Ev.blk (pc' := 14) (lv' := [some (vr 3 0 o0), some (vi a1), some (vi a2), some (vi a3), some (vi (p_HF_bit a1)), some (vi a1), some (vi (a2 - (ii 2)))]) (st' := []) (h' := h) 2 7 (Nat.le_of_ble_eq_true rfl) tk_Heard_veinBits rfl rfl ⟨trivial, trivial, trivial, trivial, trivial, trivial, trivial, trivial⟩ ?_
  refine Ev.msk [true, false, false, true, true, true, true] ?_
  show Ev Γ m_Heard_veinBits 14 [some (vr 3 0 o0), none, none, some (vi a3), some (vi (p_HF_bit a1)), some (vi a1), some (vi (a2 - (ii 2)))] [] h r h'
  exact l_Heard_veinBits_L14 Γ FU o0 a3 (p_HF_bit a1) a1 (a2 - (ii 2)) h _ hx r h' hP
set_option maxRecDepth 4000 in
theorem l_Heard_addFit_L50 (Γ : AG) : ∀ (n : Nat) (v2 : Int32) (v3 : Int32) (h : AH) (x : AH), Heard_addFit_L50 n v2 v3 h = some x → ∀ (r : Option AV) (h' : AH), r = none ∧ h' = x → Ev Γ m_Heard_addFit 50 [some (vr 10 0 33), none, some (vi v2), some (vi v3)] [] h r h' := by
  intro n
  induction n with
  | zero => intro v2 v3 h x hx; cases hx
  | succ n ih =>
    intro v2 v3 h x hx r h' hP
    replace hx : Heard_addFit_L50_b (Heard_addFit_L50 n) v2 v3 h = some x := hx
    unfold Heard_addFit_L50_b at hx
    refine Ev.blk (pc' := 53) (lv' := [some (vr 10 0 33), none, some (vi v2), some (vi v3)]) (st' := [vi (ii 30), vi v3]) (h' := h) 28 2 (Nat.le_of_ble_eq_true rfl) tk_Heard_addFit rfl rfl ⟨trivial, trivial, trivial⟩ ?_
    refine Ev.icmp_ge 30 76 tk_Heard_addFit rfl (by decide) (fun hc1 => ?_) (fun hc1 => ?_)
    · replace hx := ip hc1 hx
      obtain rfl := Option.some.inj hx
      obtain ⟨rfl, rfl⟩ := hP
      exact Ev.vret 45 tk_Heard_addFit rfl rfl
    · replace hx := ia hc1 hx
      obtain ⟨hg2, hx⟩ := gd hx
      obtain ⟨hg3, hx⟩ := gd hx
      refine Ev.blk (pc' := 50) (lv' := [some (vr 10 0 33), none, some (vi v2), some (vi (v3 + ii 1))]) (st' := []) (h' := (wI h 38 v3.toNatClampNeg ((h.1 38 (v3).toNatClampNeg) + ((shrI v2 v3) &&& (ii 1))))) 31 14 (Nat.le_of_ble_eq_true rfl) tk_Heard_addFit rfl rfl ⟨trivial, trivial, trivial, trivial, hg2, trivial, trivial, trivial, trivial, trivial, trivial, hg3, trivial, trivial, trivial⟩ ?_
      exact Ev.msk [true, false, true, true] (ih v2 (v3 + ii 1) (wI h 38 v3.toNatClampNeg ((h.1 38 (v3).toNatClampNeg) + ((shrI v2 v3) &&& (ii 1)))) _ hx r h' hP)
set_option maxRecDepth 4000 in
theorem s_Heard_addFit (Γ : AG) (a1 : Int32) (a2 : Int32) (h : AH) (x : AH) (hx : f_Heard_addFit a1 a2 h = some x) : MetA Γ m_Heard_addFit [vr 10 0 33, vi a1, vi a2] h (none) x := by
  refine Ev.met rfl rfl (Nat.le_of_ble_eq_true rfl) ?_
  show Ev Γ m_Heard_addFit 0 [some (vr 10 0 33), some (vi a1), some (vi a2), none] [] h _ _
  obtain ⟨r, hr⟩ : ∃ r : Option AV, r = none := ⟨_, rfl⟩
  obtain ⟨h', hh⟩ : ∃ h' : AH, h' = x := ⟨_, rfl⟩
  have hP : r = none ∧ h' = x := ⟨hr, hh⟩
  suffices hS : Ev Γ m_Heard_addFit 0 [some (vr 10 0 33), some (vi a1), some (vi a2), none] [] h r h' by rw [hr, hh] at hS; exact hS
  clear hr hh
  unfold f_Heard_addFit at hx
  refine Ev.blk (pc' := 4) (lv' := [some (vr 10 0 33), some (vi a1), some (vi a2), none]) (st' := [vi (h.1 33 8)]) (h' := h) 0 2 (Nat.le_of_ble_eq_true rfl) tk_Heard_addFit rfl rfl ⟨trivial, trivial, trivial⟩ ?_
  refine Ev.if_lt 2 17 tk_Heard_addFit rfl (by decide) (fun hc1 => ?_) (fun hc1 => ?_)
  · replace hx := ip hc1 hx
    obtain rfl := Option.some.inj hx
    obtain ⟨rfl, rfl⟩ := hP
    exact Ev.vret 7 tk_Heard_addFit rfl rfl
  · replace hx := ia hc1 hx
    refine Ev.blk (pc' := 14) (lv' := [some (vr 10 0 33), some (vi a1), some (vi a2), none]) (st' := [vi (ii 480), vi (h.1 33 8)]) (h' := h) 3 3 (Nat.le_of_ble_eq_true rfl) tk_Heard_addFit rfl rfl ⟨trivial, trivial, trivial, trivial⟩ ?_
    refine Ev.icmp_lt 6 18 tk_Heard_addFit rfl (by decide) (fun hc2 => ?_) (fun hc2 => ?_)
    · replace hx := ip hc2 hx
      obtain ⟨hg3, hx⟩ := gd hx
      refine Ev.blk (pc' := 50) (lv' := [some (vr 10 0 33), some (vi a1), some (vi a2), some (vi (ii 0))]) (st' := []) (h' := (wI (wI (wI h 37 (h.1 33 8).toNatClampNeg a1) 33 8 (((wI h 37 (h.1 33 8).toNatClampNeg a1).1 33 8) + (ii 1))) 33 9 (((wI (wI h 37 (h.1 33 8).toNatClampNeg a1) 33 8 (((wI h 37 (h.1 33 8).toNatClampNeg a1).1 33 8) + (ii 1))).1 33 9) &&& a2))) 8 20 (Nat.le_of_ble_eq_true rfl) tk_Heard_addFit rfl rfl ⟨trivial, trivial, trivial, trivial, trivial, hg3, trivial, trivial, trivial, trivial, trivial, trivial, trivial, trivial, trivial, trivial, trivial, trivial, trivial, trivial, trivial⟩ ?_
      refine Ev.msk [true, false, true, true] ?_
      show Ev Γ m_Heard_addFit 50 [some (vr 10 0 33), none, some (vi a2), some (vi (ii 0))] [] (wI (wI (wI h 37 (h.1 33 8).toNatClampNeg a1) 33 8 (((wI h 37 (h.1 33 8).toNatClampNeg a1).1 33 8) + (ii 1))) 33 9 (((wI (wI h 37 (h.1 33 8).toNatClampNeg a1) 33 8 (((wI h 37 (h.1 33 8).toNatClampNeg a1).1 33 8) + (ii 1))).1 33 9) &&& a2)) r h'
      exact l_Heard_addFit_L50 Γ FU a2 (ii 0) (wI (wI (wI h 37 (h.1 33 8).toNatClampNeg a1) 33 8 (((wI h 37 (h.1 33 8).toNatClampNeg a1).1 33 8) + (ii 1))) 33 9 (((wI (wI h 37 (h.1 33 8).toNatClampNeg a1) 33 8 (((wI h 37 (h.1 33 8).toNatClampNeg a1).1 33 8) + (ii 1))).1 33 9) &&& a2)) _ hx r h' hP
    · replace hx := ia hc2 hx
      obtain rfl := Option.some.inj hx
      obtain ⟨rfl, rfl⟩ := hP
      exact Ev.vret 7 tk_Heard_addFit rfl rfl
set_option maxRecDepth 4000 in
theorem l_Heard_scan_L21 (Γ : AG) : ∀ (n : Nat) (o1 : Nat) (v2 : Int32) (v4 : Int32) (h : AH) (x : AH), Heard_scan_L21 n o1 v2 v4 h = some x → ∀ (r : Option AV) (h' : AH), Ev Γ m_Heard_scan 42 [some (vr 10 0 33), some (vr 3 0 o1), some (vi v2), none, none, none, none] [] x r h' → Ev Γ m_Heard_scan 21 [some (vr 10 0 33), some (vr 3 0 o1), some (vi v2), none, some (vi v4), none, none] [] h r h' := by
  intro n
  induction n with
  | zero => intro o1 v2 v4 h x hx; cases hx
  | succ n ih =>
    intro o1 v2 v4 h x hx r h' hP
    replace hx : Heard_scan_L21_b (Heard_scan_L21 n) o1 v2 v4 h = some x := hx
    unfold Heard_scan_L21_b at hx
    refine Ev.blk (pc' := 25) (lv' := [some (vr 10 0 33), some (vr 3 0 o1), some (vi v2), none, some (vi v4), none, none]) (st' := [vi (ii 30), vi v4]) (h' := h) 12 2 (Nat.le_of_ble_eq_true rfl) tk_Heard_scan rfl rfl ⟨trivial, trivial, trivial⟩ ?_
    refine Ev.icmp_ge 14 42 tk_Heard_scan rfl (by decide) (fun hc1 => ?_) (fun hc1 => ?_)
    · replace hx := ip hc1 hx
      obtain rfl := Option.some.inj hx
      exact Ev.msk [true, true, true, false, false, false, false] hP
    · replace hx := ia hc1 hx
      obtain ⟨hg2, hx⟩ := gd hx
      refine Ev.blk (pc' := 21) (lv' := [some (vr 10 0 33), some (vr 3 0 o1), some (vi v2), none, some (vi (v4 + ii 1)), none, none]) (st' := []) (h' := (wI h 38 v4.toNatClampNeg (ii 0))) 15 7 (Nat.le_of_ble_eq_true rfl) tk_Heard_scan rfl rfl ⟨trivial, trivial, trivial, trivial, hg2, trivial, trivial, trivial⟩ ?_
      exact Ev.msk [true, true, true, false, true, false, false] (ih o1 v2 (v4 + ii 1) (wI h 38 v4.toNatClampNeg (ii 0)) _ hx r h' hP)
set_option maxRecDepth 4000 in
theorem l_Heard_scan_L57 (Γ : AG) : ∀ (n : Nat) (o1 : Nat) (v2 : Int32) (v4 : Int32) (v5 : Int32) (h : AH) (x : AH), Heard_scan_L57 n o1 v2 v4 v5 h = some x → ∀ (r : Option AV) (h' : AH), Ev Γ m_Heard_scan 128 [some (vr 10 0 33), some (vr 3 0 o1), some (vi v2), none, some (vi v4), none, none] [] x r h' → Ev Γ m_Heard_scan 57 [some (vr 10 0 33), some (vr 3 0 o1), some (vi v2), none, some (vi v4), some (vi v5), none] [] h r h' := by
  intro n
  induction n with
  | zero => intro o1 v2 v4 v5 h x hx; cases hx
  | succ n ih =>
    intro o1 v2 v4 v5 h x hx r h' hP
    replace hx : Heard_scan_L57_b (Heard_scan_L57 n) o1 v2 v4 v5 h = some x := hx
    unfold Heard_scan_L57_b at hx
    refine Ev.blk (pc' := 62) (lv' := [some (vr 10 0 33), some (vr 3 0 o1), some (vi v2), none, some (vi v4), some (vi v5), none]) (st' := [vi (v2 - (ii 1)), vi v5]) (h' := h) 30 4 (Nat.le_of_ble_eq_true rfl) tk_Heard_scan rfl rfl ⟨trivial, trivial, trivial, trivial, trivial⟩ ?_
    refine Ev.callSN (ν := m_HF_bit) (av := [vi (v2 - (ii 1))]) (rest := [vi v5]) (r1 := some (vi (p_HF_bit (v2 - (ii 1))))) (h1 := h) 34 1 tk_Heard_scan rfl bb_HF_bit vv_HF_bit lk_10_56 (by decide) rfl rfl (Nat.le_of_ble_eq_true rfl) (s_HF_bit Γ (v2 - (ii 1)) h) ?_
    show Ev Γ m_Heard_scan 65 [some (vr 10 0 33), some (vr 3 0 o1), some (vi v2), none, some (vi v4), some (vi v5), none] [vi (p_HF_bit (v2 - (ii 1))), vi v5] h r h'
    refine Ev.icmp_ge 35 128 tk_Heard_scan rfl (by decide) (fun hc1 => ?_) (fun hc1 => ?_)
    · replace hx := ip hc1 hx
      obtain rfl := Option.some.inj hx
      exact Ev.msk [true, true, true, false, true, false, false] hP
    · replace hx := ia hc1 hx
      refine Ev.blk (pc' := 74) (lv' := [some (vr 10 0 33), some (vr 3 0 o1), some (vi v2), none, some (vi v4), some (vi v5), none]) (st' := [vi v5, vi v2, vi v4, vr 3 0 o1]) (h' := h) 36 4 (Nat.le_of_ble_eq_true rfl) tk_Heard_scan rfl rfl ⟨trivial, trivial, trivial, trivial, trivial⟩ ?_
      obtain ⟨q1, hq2, hx⟩ := bd hx
      refine Ev.callS (ν := m_Heard_veinBits) (av := [vr 3 0 o1, vi v4, vi v2, vi v5]) (rest := []) (r1 := some (vi q1)) (h1 := h) 40 4 tk_Heard_scan rfl bb_Heard_veinBits vv_Heard_veinBits lk_10_60 (by decide) rfl rfl (Nat.le_of_ble_eq_true rfl) (s_Heard_veinBits Γ o1 v4 v2 v5 h _ hq2) ?_
      show Ev Γ m_Heard_scan 77 [some (vr 10 0 33), some (vr 3 0 o1), some (vi v2), none, some (vi v4), some (vi v5), none] [vi q1] h r h'
      refine Ev.blk (pc' := 81) (lv' := [some (vr 10 0 33), some (vr 3 0 o1), some (vi v2), none, some (vi v4), some (vi v5), some (vi q1)]) (st' := [vi q1]) (h' := h) 41 2 (Nat.le_of_ble_eq_true rfl) tk_Heard_scan rfl rfl ⟨trivial, trivial, trivial⟩ ?_
      obtain ⟨q3, hq3, hx⟩ := bd hx
      have K4 : Ev Γ m_Heard_scan 122 [some (vr 10 0 33), some (vr 3 0 o1), some (vi v2), none, some (vi v4), some (vi v5), none] [] q3 r h' := by
        refine Ev.blk (pc' := 57) (lv' := [some (vr 10 0 33), some (vr 3 0 o1), some (vi v2), none, some (vi v4), some (vi (v5 + ii 1)), none]) (st' := []) (h' := q3) 64 2 (Nat.le_of_ble_eq_true rfl) tk_Heard_scan rfl rfl ⟨trivial, trivial, trivial⟩ ?_
        exact Ev.msk [true, true, true, false, true, true, false] (ih o1 v2 v4 (v5 + ii 1) q3 _ hx r h' hP)
      clear hx
      refine Ev.if_eq 43 122 tk_Heard_scan rfl (by decide) (fun hc5 => ?_) (fun hc5 => ?_)
      · replace hq3 := ip hc5 hq3
        obtain rfl := Option.some.inj hq3
        exact Ev.msk [true, true, true, false, true, true, false] K4
      · replace hq3 := ia hc5 hq3
        refine Ev.blk (pc' := 95) (lv' := [some (vr 10 0 33), some (vr 3 0 o1), some (vi v2), none, some (vi v4), some (vi v5), some (vi q1)]) (st' := [vi (h.1 33 6), vi (q1 &&& (h.1 33 6))]) (h' := h) 44 6 (Nat.le_of_ble_eq_true rfl) tk_Heard_scan rfl rfl ⟨trivial, trivial, trivial, trivial, trivial, trivial, trivial⟩ ?_
        refine Ev.icmp_ne 50 122 tk_Heard_scan rfl (by decide) (fun hc6 => ?_) (fun hc6 => ?_)
        · replace hq3 := ia hc6 hq3
          obtain rfl := Option.some.inj hq3
          exact Ev.msk [true, true, true, false, true, true, false] K4
        · replace hq3 := ip hc6 hq3
          refine Ev.blk (pc' := 105) (lv' := [some (vr 10 0 33), some (vr 3 0 o1), some (vi v2), none, some (vi v4), some (vi v5), some (vi q1)]) (st' := [vi (q1 &&& (h.1 33 7))]) (h' := h) 51 4 (Nat.le_of_ble_eq_true rfl) tk_Heard_scan rfl rfl ⟨trivial, trivial, trivial, trivial, trivial⟩ ?_
          refine Ev.if_ne 55 122 tk_Heard_scan rfl (by decide) (fun hc7 => ?_) (fun hc7 => ?_)
          · replace hq3 := ia hc7 hq3
            obtain rfl := Option.some.inj hq3
            exact Ev.msk [true, true, true, false, true, true, false] K4
          · replace hq3 := ip hc7 hq3
            refine Ev.blk (pc' := 119) (lv' := [some (vr 10 0 33), some (vr 3 0 o1), some (vi v2), none, some (vi v4), some (vi v5), some (vi q1)]) (st' := [vi q1, vi ((v4 * (ii 100)) + v5), vr 10 0 33]) (h' := h) 56 7 (Nat.le_of_ble_eq_true rfl) tk_Heard_scan rfl rfl ⟨trivial, trivial, trivial, trivial, trivial, trivial, trivial, trivial⟩ ?_
            obtain ⟨q2, hq8, hq3⟩ := bd hq3
            refine Ev.callV (ν := m_Heard_addFit) (av := [vi ((v4 * (ii 100)) + v5), vi q1]) (rest := []) (r1 := none) (h1 := q2) (ci := 10) (nn := 0) (o := 33) 63 2 tk_Heard_scan rfl bb_Heard_addFit vv_Heard_addFit lk_10_64 (by decide) rfl rfl (Or.inl rfl) (Nat.le_of_ble_eq_true rfl) (s_Heard_addFit Γ ((v4 * (ii 100)) + v5) q1 h _ hq8) ?_
            show Ev Γ m_Heard_scan 122 [some (vr 10 0 33), some (vr 3 0 o1), some (vi v2), none, some (vi v4), some (vi v5), some (vi q1)] [] q2 r h'
            obtain rfl := Option.some.inj hq3
            exact Ev.msk [true, true, true, false, true, true, false] K4
set_option maxRecDepth 4000 in
theorem l_Heard_scan_L45 (Γ : AG) : ∀ (n : Nat) (o1 : Nat) (v2 : Int32) (v4 : Int32) (h : AH) (x : AH), Heard_scan_L45 n o1 v2 v4 h = some x → ∀ (r : Option AV) (h' : AH), r = none ∧ h' = x → Ev Γ m_Heard_scan 45 [some (vr 10 0 33), some (vr 3 0 o1), some (vi v2), none, some (vi v4), none, none] [] h r h' := by
  intro n
  induction n with
  | zero => intro o1 v2 v4 h x hx; cases hx
  | succ n ih =>
    intro o1 v2 v4 h x hx r h' hP
    replace hx : Heard_scan_L45_b (Heard_scan_L45 n) o1 v2 v4 h = some x := hx
    unfold Heard_scan_L45_b at hx
    refine Ev.blk (pc' := 51) (lv' := [some (vr 10 0 33), some (vr 3 0 o1), some (vi v2), none, some (vi v4), none, none]) (st' := [vi (h.1 o1 9), vi v4]) (h' := h) 24 3 (Nat.le_of_ble_eq_true rfl) tk_Heard_scan rfl rfl ⟨trivial, trivial, trivial, trivial⟩ ?_
    refine Ev.icmp_ge 27 134 tk_Heard_scan rfl (by decide) (fun hc1 => ?_) (fun hc1 => ?_)
    · replace hx := ip hc1 hx
      obtain rfl := Option.some.inj hx
      obtain ⟨rfl, rfl⟩ := hP
      exact Ev.vret 68 tk_Heard_scan rfl rfl
    · replace hx := ia hc1 hx
      refine Ev.blk (pc' := 57) (lv' := [some (vr 10 0 33), some (vr 3 0 o1), some (vi v2), none, some (vi v4), some (vi (ii 0)), none]) (st' := []) (h' := h) 28 2 (Nat.le_of_ble_eq_true rfl) tk_Heard_scan rfl rfl ⟨trivial, trivial, trivial⟩ ?_
      obtain ⟨q1, hq2, hx⟩ := bd hx
      refine Ev.msk [true, true, true, false, true, true, false] ?_
      show Ev Γ m_Heard_scan 57 [some (vr 10 0 33), some (vr 3 0 o1), some (vi v2), none, some (vi v4), some (vi (ii 0)), none] [] h r h'
      refine l_Heard_scan_L57 Γ FU o1 v2 v4 (ii 0) h _ hq2 r h' ?_
      show Ev Γ m_Heard_scan 128 [some (vr 10 0 33), some (vr 3 0 o1), some (vi v2), none, some (vi v4), none, none] [] q1 r h'
      refine Ev.blk (pc' := 45) (lv' := [some (vr 10 0 33), some (vr 3 0 o1), some (vi v2), none, some (vi (v4 + ii 1)), none, none]) (st' := []) (h' := q1) 66 2 (Nat.le_of_ble_eq_true rfl) tk_Heard_scan rfl rfl ⟨trivial, trivial, trivial⟩ ?_
      exact Ev.msk [true, true, true, false, true, false, false] (ih o1 v2 (v4 + ii 1) q1 _ hx r h' hP)
set_option maxRecDepth 4000 in
theorem s_Heard_scan (Γ : AG) (o1 : Nat) (a2 : Int32) (a3 : Int32) (h : AH) (x : AH) (hx : f_Heard_scan o1 a2 a3 h = some x) : MetA Γ m_Heard_scan [vr 10 0 33, vr 3 0 o1, vi a2, vi a3] h (none) x := by
  refine Ev.met rfl rfl (Nat.le_of_ble_eq_true rfl) ?_
  show Ev Γ m_Heard_scan 0 [some (vr 10 0 33), some (vr 3 0 o1), some (vi a2), some (vi a3), none, none, none] [] h _ _
  obtain ⟨r, hr⟩ : ∃ r : Option AV, r = none := ⟨_, rfl⟩
  obtain ⟨h', hh⟩ : ∃ h' : AH, h' = x := ⟨_, rfl⟩
  have hP : r = none ∧ h' = x := ⟨hr, hh⟩
  suffices hS : Ev Γ m_Heard_scan 0 [some (vr 10 0 33), some (vr 3 0 o1), some (vi a2), some (vi a3), none, none, none] [] h r h' by rw [hr, hh] at hS; exact hS
  clear hr hh
  unfold f_Heard_scan at hx
  refine Ev.blk (pc' := 2) (lv' := [some (vr 10 0 33), some (vr 3 0 o1), some (vi a2), some (vi a3), none, none, none]) (st' := [vi a3, vr 10 0 33]) (h' := h) 0 2 (Nat.le_of_ble_eq_true rfl) tk_Heard_scan rfl rfl ⟨trivial, trivial, trivial⟩ ?_
  obtain ⟨q1, hq1, hx⟩ := bd hx
  refine Ev.callV (ν := m_Heard_gather) (av := [vi a3]) (rest := []) (r1 := none) (h1 := q1) (ci := 10) (nn := 0) (o := 33) 2 1 tk_Heard_scan rfl bb_Heard_gather vv_Heard_gather lk_10_44 (by decide) rfl rfl (Or.inl rfl) (Nat.le_of_ble_eq_true rfl) (s_Heard_gather Γ a3 h _ hq1) ?_
  show Ev Γ m_Heard_scan 5 [some (vr 10 0 33), some (vr 3 0 o1), some (vi a2), some (vi a3), none, none, none] [] q1 r h'
  refine Ev.blk (pc' := 12) (lv' := [some (vr 10 0 33), some (vr 3 0 o1), some (vi a2), some (vi a3), none, none, none]) (st' := [vr 3 0 o1, vr 10 0 33]) (h' := (wI q1 33 8 (ii 0))) 3 5 (Nat.le_of_ble_eq_true rfl) tk_Heard_scan rfl rfl ⟨trivial, trivial, trivial, trivial, trivial, trivial⟩ ?_
  refine Ev.callV (ν := m_Heath_allCells) (av := []) (rest := [vr 10 0 33]) (r1 := some (vi (p_Heath_allCells o1 (wI q1 33 8 (ii 0))))) (h1 := (wI q1 33 8 (ii 0))) (ci := 3) (nn := 0) (o := o1) 8 0 tk_Heard_scan rfl bb_Heath_allCells vv_Heath_allCells lk_10_48 (by decide) rfl rfl (Or.inl rfl) (Nat.le_of_ble_eq_true rfl) (s_Heath_allCells Γ o1 (wI q1 33 8 (ii 0))) ?_
  show Ev Γ m_Heard_scan 15 [some (vr 10 0 33), some (vr 3 0 o1), some (vi a2), some (vi a3), none, none, none] [vi (p_Heath_allCells o1 (wI q1 33 8 (ii 0))), vr 10 0 33] (wI q1 33 8 (ii 0)) r h'
  refine Ev.blk (pc' := 21) (lv' := [some (vr 10 0 33), some (vr 3 0 o1), some (vi a2), some (vi a3), some (vi (ii 0)), none, none]) (st' := []) (h' := (wI (wI q1 33 8 (ii 0)) 33 9 (p_Heath_allCells o1 (wI q1 33 8 (ii 0))))) 9 3 (Nat.le_of_ble_eq_true rfl) tk_Heard_scan rfl rfl ⟨trivial, trivial, trivial, trivial⟩ ?_
  obtain ⟨q2, hq2, hx⟩ := bd hx
  refine Ev.msk [true, true, true, false, true, false, false] ?_
  show Ev Γ m_Heard_scan 21 [some (vr 10 0 33), some (vr 3 0 o1), some (vi a2), none, some (vi (ii 0)), none, none] [] (wI (wI q1 33 8 (ii 0)) 33 9 (p_Heath_allCells o1 (wI q1 33 8 (ii 0)))) r h'
  refine l_Heard_scan_L21 Γ FU o1 a2 (ii 0) (wI (wI q1 33 8 (ii 0)) 33 9 (p_Heath_allCells o1 (wI q1 33 8 (ii 0)))) _ hq2 r h' ?_
  show Ev Γ m_Heard_scan 42 [some (vr 10 0 33), some (vr 3 0 o1), some (vi a2), none, none, none, none] [] q2 r h'
  refine Ev.blk (pc' := 45) (lv' := [some (vr 10 0 33), some (vr 3 0 o1), some (vi a2), none, some (vi (ii 0)), none, none]) (st' := []) (h' := q2) 22 2 (Nat.le_of_ble_eq_true rfl) tk_Heard_scan rfl rfl ⟨trivial, trivial, trivial⟩ ?_
  refine Ev.msk [true, true, true, false, true, false, false] ?_
  show Ev Γ m_Heard_scan 45 [some (vr 10 0 33), some (vr 3 0 o1), some (vi a2), none, some (vi (ii 0)), none, none] [] q2 r h'
  exact l_Heard_scan_L45 Γ FU o1 a2 (ii 0) q2 _ hx r h' hP
set_option maxRecDepth 4000 in
theorem s_Heard_codeAt (Γ : AG) (a1 : Int32) (h : AH) (x : Int32) (hx : f_Heard_codeAt a1 h = some x) : MetA Γ m_Heard_codeAt [vr 10 0 33, vi a1] h (some (vi x)) h := by
  refine Ev.met rfl rfl (Nat.le_of_ble_eq_true rfl) ?_
  show Ev Γ m_Heard_codeAt 0 [some (vr 10 0 33), some (vi a1)] [] h _ _
  obtain ⟨r, hr⟩ : ∃ r : Option AV, r = some (vi x) := ⟨_, rfl⟩
  obtain ⟨h', hh⟩ : ∃ h' : AH, h' = h := ⟨_, rfl⟩
  have hP : r = some (vi x) ∧ h' = h := ⟨hr, hh⟩
  suffices hS : Ev Γ m_Heard_codeAt 0 [some (vr 10 0 33), some (vi a1)] [] h r h' by rw [hr, hh] at hS; exact hS
  clear hr hh
  unfold f_Heard_codeAt at hx
  refine Ev.blk (pc' := 1) (lv' := [some (vr 10 0 33), some (vi a1)]) (st' := [vi a1]) (h' := h) 0 1 (Nat.le_of_ble_eq_true rfl) tk_Heard_codeAt rfl rfl ⟨trivial, trivial⟩ ?_
  refine Ev.if_lt 1 28 tk_Heard_codeAt rfl (by decide) (fun hc1 => ?_) (fun hc1 => ?_)
  · replace hx := ip hc1 hx
    refine Ev.blk (pc' := 29) (lv' := [some (vr 10 0 33), some (vi a1)]) (st' := [vi (ii (-1))]) (h' := h) 14 1 (Nat.le_of_ble_eq_true rfl) tk_Heard_codeAt rfl rfl ⟨trivial, trivial⟩ ?_
    obtain rfl := Option.some.inj hx
    obtain ⟨rfl, rfl⟩ := hP
    exact Ev.iret 15 tk_Heard_codeAt rfl rfl
  · replace hx := ia hc1 hx
    refine Ev.blk (pc' := 9) (lv' := [some (vr 10 0 33), some (vi a1)]) (st' := [vi (h.1 33 8), vi a1]) (h' := h) 2 3 (Nat.le_of_ble_eq_true rfl) tk_Heard_codeAt rfl rfl ⟨trivial, trivial, trivial, trivial⟩ ?_
    refine Ev.icmp_ge 5 28 tk_Heard_codeAt rfl (by decide) (fun hc2 => ?_) (fun hc2 => ?_)
    · replace hx := ip hc2 hx
      refine Ev.blk (pc' := 29) (lv' := [some (vr 10 0 33), some (vi a1)]) (st' := [vi (ii (-1))]) (h' := h) 14 1 (Nat.le_of_ble_eq_true rfl) tk_Heard_codeAt rfl rfl ⟨trivial, trivial⟩ ?_
      obtain rfl := Option.some.inj hx
      obtain ⟨rfl, rfl⟩ := hP
      exact Ev.iret 15 tk_Heard_codeAt rfl rfl
    · replace hx := ia hc2 hx
      refine Ev.blk (pc' := 16) (lv' := [some (vr 10 0 33), some (vi a1)]) (st' := [vi (ii 480), vi a1]) (h' := h) 6 2 (Nat.le_of_ble_eq_true rfl) tk_Heard_codeAt rfl rfl ⟨trivial, trivial, trivial⟩ ?_
      refine Ev.icmp_ge 8 28 tk_Heard_codeAt rfl (by decide) (fun hc3 => ?_) (fun hc3 => ?_)
      · replace hx := ip hc3 hx
        refine Ev.blk (pc' := 29) (lv' := [some (vr 10 0 33), some (vi a1)]) (st' := [vi (ii (-1))]) (h' := h) 14 1 (Nat.le_of_ble_eq_true rfl) tk_Heard_codeAt rfl rfl ⟨trivial, trivial⟩ ?_
        obtain rfl := Option.some.inj hx
        obtain ⟨rfl, rfl⟩ := hP
        exact Ev.iret 15 tk_Heard_codeAt rfl rfl
      · replace hx := ia hc3 hx
        obtain ⟨hg4, hx⟩ := gd hx
        refine Ev.blk (pc' := 29) (lv' := [some (vr 10 0 33), some (vi a1)]) (st' := [vi (h.1 37 (a1).toNatClampNeg)]) (h' := h) 9 5 (Nat.le_of_ble_eq_true rfl) tk_Heard_codeAt rfl rfl ⟨trivial, trivial, trivial, hg4, trivial, trivial⟩ ?_
        obtain rfl := Option.some.inj hx
        obtain ⟨rfl, rfl⟩ := hP
        exact Ev.iret 15 tk_Heard_codeAt rfl rfl
set_option maxRecDepth 4000 in
theorem s_HF_fits (Γ : AG) (a1 : Int32) (a2 : Int32) (h : AH) (x : Int32 × AH) (hx : f_HF_fits a1 a2 h = some x) : MetA Γ m_HF_fits [vr 0 0 0, vi a1, vi a2] h (some (vi x.1)) x.2 := by
  refine Ev.met rfl rfl (Nat.le_of_ble_eq_true rfl) ?_
  show Ev Γ m_HF_fits 0 [some (vr 0 0 0), some (vi a1), some (vi a2)] [] h _ _
  obtain ⟨r, hr⟩ : ∃ r : Option AV, r = some (vi x.1) := ⟨_, rfl⟩
  obtain ⟨h', hh⟩ : ∃ h' : AH, h' = x.2 := ⟨_, rfl⟩
  have hP : r = some (vi x.1) ∧ h' = x.2 := ⟨hr, hh⟩
  suffices hS : Ev Γ m_HF_fits 0 [some (vr 0 0 0), some (vi a1), some (vi a2)] [] h r h' by rw [hr, hh] at hS; exact hS
  clear hr hh
  unfold f_HF_fits at hx
  refine Ev.blk (pc' := 2) (lv' := [some (vr 0 0 0), some (vi a1), some (vi a2)]) (st' := [vi a1, vr 0 0 0]) (h' := h) 0 2 (Nat.le_of_ble_eq_true rfl) tk_HF_fits rfl rfl ⟨trivial, trivial, trivial⟩ ?_
  refine Ev.callV (ν := m_HF_canScan) (av := [vi a1]) (rest := []) (r1 := some (vi (p_HF_canScan a1 h))) (h1 := h) (ci := 0) (nn := 0) (o := 0) 2 1 tk_HF_fits rfl bb_HF_canScan vv_HF_canScan lk_0_343 (by decide) rfl rfl (Or.inl rfl) (Nat.le_of_ble_eq_true rfl) (s_HF_canScan Γ a1 h) ?_
  show Ev Γ m_HF_fits 5 [some (vr 0 0 0), some (vi a1), some (vi a2)] [vi (p_HF_canScan a1 h)] h r h'
  refine Ev.if_ne 3 10 tk_HF_fits rfl (by decide) (fun hc1 => ?_) (fun hc1 => ?_)
  · replace hx := ia hc1 hx
    refine Ev.blk (pc' := 20) (lv' := [some (vr 0 0 0), some (vi a1), some (vi a2)]) (st' := [vi (ii (-1)), vi a1, vr 3 0 (h.2.2 0 13), vr 10 0 33]) (h' := h) 6 6 (Nat.le_of_ble_eq_true rfl) tk_HF_fits rfl rfl ⟨trivial, trivial, trivial, trivial, trivial, trivial, trivial⟩ ?_
    obtain ⟨q1, hq2, hx⟩ := bd hx
    refine Ev.callV (ν := m_Heard_scan) (av := [vr 3 0 (h.2.2 0 13), vi a1, vi (ii (-1))]) (rest := []) (r1 := none) (h1 := q1) (ci := 10) (nn := 0) (o := 33) 12 3 tk_HF_fits rfl bb_Heard_scan vv_Heard_scan lk_0_346 (by decide) rfl rfl (Or.inl rfl) (Nat.le_of_ble_eq_true rfl) (s_Heard_scan Γ (h.2.2 0 13) a1 (ii (-1)) h _ hq2) ?_
    show Ev Γ m_HF_fits 23 [some (vr 0 0 0), some (vi a1), some (vi a2)] [] q1 r h'
    refine Ev.blk (pc' := 25) (lv' := [some (vr 0 0 0), some (vi a1), some (vi a2)]) (st' := [vi (ii (-1)), vi a2]) (h' := q1) 13 2 (Nat.le_of_ble_eq_true rfl) tk_HF_fits rfl rfl ⟨trivial, trivial, trivial⟩ ?_
    refine Ev.icmp_ne 15 38 tk_HF_fits rfl (by decide) (fun hc3 => ?_) (fun hc3 => ?_)
    · replace hx := ia hc3 hx
      refine Ev.blk (pc' := 43) (lv' := [some (vr 0 0 0), some (vi a1), some (vi a2)]) (st' := [vi a2, vr 10 0 33]) (h' := q1) 20 3 (Nat.le_of_ble_eq_true rfl) tk_HF_fits rfl rfl ⟨trivial, trivial, trivial, trivial⟩ ?_
      obtain ⟨q2, hq4, hx⟩ := bd hx
      refine Ev.callV (ν := m_Heard_codeAt) (av := [vi a2]) (rest := []) (r1 := some (vi q2)) (h1 := q1) (ci := 10) (nn := 0) (o := 33) 23 1 tk_HF_fits rfl bb_Heard_codeAt vv_Heard_codeAt lk_0_353 (by decide) rfl rfl (Or.inl rfl) (Nat.le_of_ble_eq_true rfl) (s_Heard_codeAt Γ a2 q1 _ hq4) ?_
      show Ev Γ m_HF_fits 46 [some (vr 0 0 0), some (vi a1), some (vi a2)] [vi q2] q1 r h'
      obtain rfl := Option.some.inj hx
      obtain ⟨rfl, rfl⟩ := hP
      exact Ev.iret 24 tk_HF_fits rfl rfl
    · replace hx := ip hc3 hx
      refine Ev.blk (pc' := 46) (lv' := [some (vr 0 0 0), some (vi a1), some (vi a2)]) (st' := [vi (q1.1 33 8)]) (h' := q1) 16 4 (Nat.le_of_ble_eq_true rfl) tk_HF_fits rfl rfl ⟨trivial, trivial, trivial, trivial, trivial⟩ ?_
      obtain rfl := Option.some.inj hx
      obtain ⟨rfl, rfl⟩ := hP
      exact Ev.iret 24 tk_HF_fits rfl rfl
  · replace hx := ip hc1 hx
    refine Ev.blk (pc' := 9) (lv' := [some (vr 0 0 0), some (vi a1), some (vi a2)]) (st' := [vi (ii (-1))]) (h' := h) 4 1 (Nat.le_of_ble_eq_true rfl) tk_HF_fits rfl rfl ⟨trivial, trivial⟩ ?_
    obtain rfl := Option.some.inj hx
    obtain ⟨rfl, rfl⟩ := hP
    exact Ev.iret 5 tk_HF_fits rfl rfl
set_option maxRecDepth 4000 in
theorem s_HF_sure (Γ : AG) (a1 : Int32) (h : AH) (x : Int32 × AH) (hx : f_HF_sure a1 h = some x) : MetA Γ m_HF_sure [vr 0 0 0, vi a1] h (some (vi x.1)) x.2 := by
  refine Ev.met rfl rfl (Nat.le_of_ble_eq_true rfl) ?_
  show Ev Γ m_HF_sure 0 [some (vr 0 0 0), some (vi a1)] [] h _ _
  obtain ⟨r, hr⟩ : ∃ r : Option AV, r = some (vi x.1) := ⟨_, rfl⟩
  obtain ⟨h', hh⟩ : ∃ h' : AH, h' = x.2 := ⟨_, rfl⟩
  have hP : r = some (vi x.1) ∧ h' = x.2 := ⟨hr, hh⟩
  suffices hS : Ev Γ m_HF_sure 0 [some (vr 0 0 0), some (vi a1)] [] h r h' by rw [hr, hh] at hS; exact hS
  clear hr hh
  unfold f_HF_sure at hx
  refine Ev.blk (pc' := 2) (lv' := [some (vr 0 0 0), some (vi a1)]) (st' := [vi a1, vr 0 0 0]) (h' := h) 0 2 (Nat.le_of_ble_eq_true rfl) tk_HF_sure rfl rfl ⟨trivial, trivial, trivial⟩ ?_
  refine Ev.callV (ν := m_HF_canScan) (av := [vi a1]) (rest := []) (r1 := some (vi (p_HF_canScan a1 h))) (h1 := h) (ci := 0) (nn := 0) (o := 0) 2 1 tk_HF_sure rfl bb_HF_canScan vv_HF_canScan lk_0_343 (by decide) rfl rfl (Or.inl rfl) (Nat.le_of_ble_eq_true rfl) (s_HF_canScan Γ a1 h) ?_
  show Ev Γ m_HF_sure 5 [some (vr 0 0 0), some (vi a1)] [vi (p_HF_canScan a1 h)] h r h'
  refine Ev.if_ne 3 10 tk_HF_sure rfl (by decide) (fun hc1 => ?_) (fun hc1 => ?_)
  · replace hx := ia hc1 hx
    refine Ev.blk (pc' := 20) (lv' := [some (vr 0 0 0), some (vi a1)]) (st' := [vi (ii (-1)), vi a1, vr 3 0 (h.2.2 0 13), vr 10 0 33]) (h' := h) 6 6 (Nat.le_of_ble_eq_true rfl) tk_HF_sure rfl rfl ⟨trivial, trivial, trivial, trivial, trivial, trivial, trivial⟩ ?_
    obtain ⟨q1, hq2, hx⟩ := bd hx
    refine Ev.callV (ν := m_Heard_scan) (av := [vr 3 0 (h.2.2 0 13), vi a1, vi (ii (-1))]) (rest := []) (r1 := none) (h1 := q1) (ci := 10) (nn := 0) (o := 33) 12 3 tk_HF_sure rfl bb_Heard_scan vv_Heard_scan lk_0_346 (by decide) rfl rfl (Or.inl rfl) (Nat.le_of_ble_eq_true rfl) (s_Heard_scan Γ (h.2.2 0 13) a1 (ii (-1)) h _ hq2) ?_
    show Ev Γ m_HF_sure 23 [some (vr 0 0 0), some (vi a1)] [] q1 r h'
    refine Ev.blk (pc' := 30) (lv' := [some (vr 0 0 0), some (vi a1)]) (st' := [vi (q1.1 33 8)]) (h' := q1) 13 3 (Nat.le_of_ble_eq_true rfl) tk_HF_sure rfl rfl ⟨trivial, trivial, trivial, trivial⟩ ?_
    refine Ev.if_ne 16 37 tk_HF_sure rfl (by decide) (fun hc3 => ?_) (fun hc3 => ?_)
    · replace hx := ia hc3 hx
      refine Ev.blk (pc' := 44) (lv' := [some (vr 0 0 0), some (vi a1)]) (st' := [vi (q1.1 33 9)]) (h' := q1) 19 3 (Nat.le_of_ble_eq_true rfl) tk_HF_sure rfl rfl ⟨trivial, trivial, trivial, trivial⟩ ?_
      obtain rfl := Option.some.inj hx
      obtain ⟨rfl, rfl⟩ := hP
      exact Ev.iret 22 tk_HF_sure rfl rfl
    · replace hx := ip hc3 hx
      refine Ev.blk (pc' := 44) (lv' := [some (vr 0 0 0), some (vi a1)]) (st' := [vi (ii (-1))]) (h' := q1) 17 2 (Nat.le_of_ble_eq_true rfl) tk_HF_sure rfl rfl ⟨trivial, trivial, trivial⟩ ?_
      obtain rfl := Option.some.inj hx
      obtain ⟨rfl, rfl⟩ := hP
      exact Ev.iret 22 tk_HF_sure rfl rfl
  · replace hx := ip hc1 hx
    refine Ev.blk (pc' := 9) (lv' := [some (vr 0 0 0), some (vi a1)]) (st' := [vi (ii (-1))]) (h' := h) 4 1 (Nat.le_of_ble_eq_true rfl) tk_HF_sure rfl rfl ⟨trivial, trivial⟩ ?_
    obtain rfl := Option.some.inj hx
    obtain ⟨rfl, rfl⟩ := hP
    exact Ev.iret 5 tk_HF_sure rfl rfl
set_option maxRecDepth 4000 in
theorem l_Heard_mostTelling_L9 (Γ : AG) : ∀ (n : Nat) (v1 : Int32) (v2 : Int32) (v3 : Int32) (v4 : Int32) (h : AH) (x : Int32), Heard_mostTelling_L9 n v1 v2 v3 v4 h = some x → ∀ (r : Option AV) (h' : AH), r = some (vi x) ∧ h' = h → Ev Γ m_Heard_mostTelling 9 [some (vr 10 0 33), some (vi v1), some (vi v2), some (vi v3), some (vi v4), none] [] h r h' := by
  intro n
  induction n with
  | zero => intro v1 v2 v3 v4 h x hx; cases hx
  | succ n ih =>
    intro v1 v2 v3 v4 h x hx r h' hP
    replace hx : Heard_mostTelling_L9_b (Heard_mostTelling_L9 n) v1 v2 v3 v4 h = some x := hx
    unfold Heard_mostTelling_L9_b at hx
    refine Ev.blk (pc' := 12) (lv' := [some (vr 10 0 33), some (vi v1), some (vi v2), some (vi v3), some (vi v4), none]) (st' := [vi v1, vi v4]) (h' := h) 6 2 (Nat.le_of_ble_eq_true rfl) tk_Heard_mostTelling rfl rfl ⟨trivial, trivial, trivial⟩ ?_
    refine Ev.icmp_ge 8 59 tk_Heard_mostTelling rfl (by decide) (fun hc1 => ?_) (fun hc1 => ?_)
    · replace hx := ip hc1 hx
      refine Ev.blk (pc' := 60) (lv' := [some (vr 10 0 33), some (vi v1), some (vi v2), some (vi v3), some (vi v4), none]) (st' := [vi v2]) (h' := h) 32 1 (Nat.le_of_ble_eq_true rfl) tk_Heard_mostTelling rfl rfl ⟨trivial, trivial⟩ ?_
      obtain rfl := Option.some.inj hx
      obtain ⟨rfl, rfl⟩ := hP
      exact Ev.iret 33 tk_Heard_mostTelling rfl rfl
    · replace hx := ia hc1 hx
      refine Ev.blk (pc' := 19) (lv' := [some (vr 10 0 33), some (vi v1), some (vi v2), some (vi v3), some (vi v4), none]) (st' := [vi (ii 30), vi v4]) (h' := h) 9 2 (Nat.le_of_ble_eq_true rfl) tk_Heard_mostTelling rfl rfl ⟨trivial, trivial, trivial⟩ ?_
      refine Ev.icmp_ge 11 59 tk_Heard_mostTelling rfl (by decide) (fun hc2 => ?_) (fun hc2 => ?_)
      · replace hx := ip hc2 hx
        refine Ev.blk (pc' := 60) (lv' := [some (vr 10 0 33), some (vi v1), some (vi v2), some (vi v3), some (vi v4), none]) (st' := [vi v2]) (h' := h) 32 1 (Nat.le_of_ble_eq_true rfl) tk_Heard_mostTelling rfl rfl ⟨trivial, trivial⟩ ?_
        obtain rfl := Option.some.inj hx
        obtain ⟨rfl, rfl⟩ := hP
        exact Ev.iret 33 tk_Heard_mostTelling rfl rfl
      · replace hx := ia hc2 hx
        obtain ⟨hg3, hx⟩ := gd hx
        refine Ev.blk (pc' := 36) (lv' := [some (vr 10 0 33), some (vi v1), some (vi v2), some (vi v3), some (vi v4), none]) (st' := [vi ((h.1 33 8) - ((ii 2) * (h.1 38 (v4).toNatClampNeg)))]) (h' := h) 12 9 (Nat.le_of_ble_eq_true rfl) tk_Heard_mostTelling rfl rfl ⟨trivial, trivial, trivial, trivial, trivial, trivial, hg3, trivial, trivial, trivial⟩ ?_
        refine Ev.mabs (rest := []) 21 tk_Heard_mostTelling rfl lk_10_72 (by decide) (Nat.le_of_ble_eq_true rfl) ?_
        show Ev Γ m_Heard_mostTelling 39 [some (vr 10 0 33), some (vi v1), some (vi v2), some (vi v3), some (vi v4), none] [vi (p_Math_abs ((h.1 33 8) - ((ii 2) * (h.1 38 (v4).toNatClampNeg))))] h r h'
        refine Ev.blk (pc' := 44) (lv' := [some (vr 10 0 33), some (vi v1), some (vi v2), some (vi v3), some (vi v4), some (vi (p_Math_abs ((h.1 33 8) - ((ii 2) * (h.1 38 (v4).toNatClampNeg)))))]) (st' := [vi v3, vi (p_Math_abs ((h.1 33 8) - ((ii 2) * (h.1 38 (v4).toNatClampNeg))))]) (h' := h) 22 3 (Nat.le_of_ble_eq_true rfl) tk_Heard_mostTelling rfl rfl ⟨trivial, trivial, trivial, trivial⟩ ?_
        have K4 : ∀ v4_0 : Int32, ∀ v4_1 : Int32, v4_0 = (if v3 ≤ (p_Math_abs ((h.1 33 8) - ((ii 2) * (h.1 38 (v4).toNatClampNeg)))) then v2 else v4) → v4_1 = (if v3 ≤ (p_Math_abs ((h.1 33 8) - ((ii 2) * (h.1 38 (v4).toNatClampNeg)))) then v3 else (p_Math_abs ((h.1 33 8) - ((ii 2) * (h.1 38 (v4).toNatClampNeg))))) → Ev Γ m_Heard_mostTelling 53 [some (vr 10 0 33), some (vi v1), some (vi v4_0), some (vi v4_1), some (vi v4), none] [] h r h' := by
          intro v4_0 v4_1 e5 e6
          subst e5
          subst e6
          refine Ev.blk (pc' := 9) (lv' := [some (vr 10 0 33), some (vi v1), some (vi (if v3 ≤ (p_Math_abs ((h.1 33 8) - ((ii 2) * (h.1 38 (v4).toNatClampNeg)))) then v2 else v4)), some (vi (if v3 ≤ (p_Math_abs ((h.1 33 8) - ((ii 2) * (h.1 38 (v4).toNatClampNeg)))) then v3 else (p_Math_abs ((h.1 33 8) - ((ii 2) * (h.1 38 (v4).toNatClampNeg)))))), some (vi (v4 + ii 1)), none]) (st' := []) (h' := h) 30 2 (Nat.le_of_ble_eq_true rfl) tk_Heard_mostTelling rfl rfl ⟨trivial, trivial, trivial⟩ ?_
          exact Ev.msk [true, true, true, true, true, false] (ih v1 (if v3 ≤ (p_Math_abs ((h.1 33 8) - ((ii 2) * (h.1 38 (v4).toNatClampNeg)))) then v2 else v4) (if v3 ≤ (p_Math_abs ((h.1 33 8) - ((ii 2) * (h.1 38 (v4).toNatClampNeg)))) then v3 else (p_Math_abs ((h.1 33 8) - ((ii 2) * (h.1 38 (v4).toNatClampNeg))))) (v4 + ii 1) h _ hx r h' hP)
        refine Ev.icmp_ge 25 53 tk_Heard_mostTelling rfl (by decide) (fun hc7 => ?_) (fun hc7 => ?_)
        · exact Ev.msk [true, true, true, true, true, false] (K4 _ _ (by first | rfl | simp only [if_pos hc7]) (by first | rfl | simp only [if_pos hc7]))
        · refine Ev.blk (pc' := 53) (lv' := [some (vr 10 0 33), some (vi v1), some (vi v4), some (vi (p_Math_abs ((h.1 33 8) - ((ii 2) * (h.1 38 (v4).toNatClampNeg))))), some (vi v4), some (vi (p_Math_abs ((h.1 33 8) - ((ii 2) * (h.1 38 (v4).toNatClampNeg)))))]) (st' := []) (h' := h) 26 4 (Nat.le_of_ble_eq_true rfl) tk_Heard_mostTelling rfl rfl ⟨trivial, trivial, trivial, trivial, trivial⟩ ?_
          exact Ev.msk [true, true, true, true, true, false] (K4 _ _ (by first | rfl | simp only [if_neg hc7]) (by first | rfl | simp only [if_neg hc7]))
set_option maxRecDepth 4000 in
theorem s_Heard_mostTelling (Γ : AG) (a1 : Int32) (h : AH) (x : Int32) (hx : f_Heard_mostTelling a1 h = some x) : MetA Γ m_Heard_mostTelling [vr 10 0 33, vi a1] h (some (vi x)) h := by
  refine Ev.met rfl rfl (Nat.le_of_ble_eq_true rfl) ?_
  show Ev Γ m_Heard_mostTelling 0 [some (vr 10 0 33), some (vi a1), none, none, none, none] [] h _ _
  obtain ⟨r, hr⟩ : ∃ r : Option AV, r = some (vi x) := ⟨_, rfl⟩
  obtain ⟨h', hh⟩ : ∃ h' : AH, h' = h := ⟨_, rfl⟩
  have hP : r = some (vi x) ∧ h' = h := ⟨hr, hh⟩
  suffices hS : Ev Γ m_Heard_mostTelling 0 [some (vr 10 0 33), some (vi a1), none, none, none, none] [] h r h' by rw [hr, hh] at hS; exact hS
  clear hr hh
  unfold f_Heard_mostTelling at hx
  refine Ev.blk (pc' := 9) (lv' := [some (vr 10 0 33), some (vi a1), some (vi (ii 0)), some (vi (ii 481)), some (vi (ii 0)), none]) (st' := []) (h' := h) 0 6 (Nat.le_of_ble_eq_true rfl) tk_Heard_mostTelling rfl rfl ⟨trivial, trivial, trivial, trivial, trivial, trivial, trivial⟩ ?_
  refine Ev.msk [true, true, true, true, true, false] ?_
  show Ev Γ m_Heard_mostTelling 9 [some (vr 10 0 33), some (vi a1), some (vi (ii 0)), some (vi (ii 481)), some (vi (ii 0)), none] [] h r h'
  exact l_Heard_mostTelling_L9 Γ FU a1 (ii 0) (ii 481) (ii 0) h _ hx r h' hP
set_option maxRecDepth 4000 in
theorem s_HF_ask (Γ : AG) (a1 : Int32) (h : AH) (x : Int32 × AH) (hx : f_HF_ask a1 h = some x) : MetA Γ m_HF_ask [vr 0 0 0, vi a1] h (some (vi x.1)) x.2 := by
  refine Ev.met rfl rfl (Nat.le_of_ble_eq_true rfl) ?_
  show Ev Γ m_HF_ask 0 [some (vr 0 0 0), some (vi a1)] [] h _ _
  obtain ⟨r, hr⟩ : ∃ r : Option AV, r = some (vi x.1) := ⟨_, rfl⟩
  obtain ⟨h', hh⟩ : ∃ h' : AH, h' = x.2 := ⟨_, rfl⟩
  have hP : r = some (vi x.1) ∧ h' = x.2 := ⟨hr, hh⟩
  suffices hS : Ev Γ m_HF_ask 0 [some (vr 0 0 0), some (vi a1)] [] h r h' by rw [hr, hh] at hS; exact hS
  clear hr hh
  unfold f_HF_ask at hx
  refine Ev.blk (pc' := 2) (lv' := [some (vr 0 0 0), some (vi a1)]) (st' := [vi a1, vr 0 0 0]) (h' := h) 0 2 (Nat.le_of_ble_eq_true rfl) tk_HF_ask rfl rfl ⟨trivial, trivial, trivial⟩ ?_
  refine Ev.callV (ν := m_HF_canScan) (av := [vi a1]) (rest := []) (r1 := some (vi (p_HF_canScan a1 h))) (h1 := h) (ci := 0) (nn := 0) (o := 0) 2 1 tk_HF_ask rfl bb_HF_canScan vv_HF_canScan lk_0_343 (by decide) rfl rfl (Or.inl rfl) (Nat.le_of_ble_eq_true rfl) (s_HF_canScan Γ a1 h) ?_
  show Ev Γ m_HF_ask 5 [some (vr 0 0 0), some (vi a1)] [vi (p_HF_canScan a1 h)] h r h'
  refine Ev.if_ne 3 10 tk_HF_ask rfl (by decide) (fun hc1 => ?_) (fun hc1 => ?_)
  · replace hx := ia hc1 hx
    refine Ev.blk (pc' := 20) (lv' := [some (vr 0 0 0), some (vi a1)]) (st' := [vi (ii (-1)), vi a1, vr 3 0 (h.2.2 0 13), vr 10 0 33]) (h' := h) 6 6 (Nat.le_of_ble_eq_true rfl) tk_HF_ask rfl rfl ⟨trivial, trivial, trivial, trivial, trivial, trivial, trivial⟩ ?_
    obtain ⟨q1, hq2, hx⟩ := bd hx
    refine Ev.callV (ν := m_Heard_scan) (av := [vr 3 0 (h.2.2 0 13), vi a1, vi (ii (-1))]) (rest := []) (r1 := none) (h1 := q1) (ci := 10) (nn := 0) (o := 33) 12 3 tk_HF_ask rfl bb_Heard_scan vv_Heard_scan lk_0_346 (by decide) rfl rfl (Or.inl rfl) (Nat.le_of_ble_eq_true rfl) (s_Heard_scan Γ (h.2.2 0 13) a1 (ii (-1)) h _ hq2) ?_
    show Ev Γ m_HF_ask 23 [some (vr 0 0 0), some (vi a1)] [] q1 r h'
    refine Ev.blk (pc' := 30) (lv' := [some (vr 0 0 0), some (vi a1)]) (st' := [vi (q1.1 33 8)]) (h' := q1) 13 3 (Nat.le_of_ble_eq_true rfl) tk_HF_ask rfl rfl ⟨trivial, trivial, trivial, trivial⟩ ?_
    refine Ev.if_ne 16 37 tk_HF_ask rfl (by decide) (fun hc3 => ?_) (fun hc3 => ?_)
    · replace hx := ia hc3 hx
      refine Ev.blk (pc' := 48) (lv' := [some (vr 0 0 0), some (vi a1)]) (st' := [vi (q1.1 (q1.2.2 0 13) 9), vr 10 0 33]) (h' := q1) 19 5 (Nat.le_of_ble_eq_true rfl) tk_HF_ask rfl rfl ⟨trivial, trivial, trivial, trivial, trivial, trivial⟩ ?_
      obtain ⟨q2, hq4, hx⟩ := bd hx
      refine Ev.callV (ν := m_Heard_mostTelling) (av := [vi (q1.1 (q1.2.2 0 13) 9)]) (rest := []) (r1 := some (vi q2)) (h1 := q1) (ci := 10) (nn := 0) (o := 33) 24 1 tk_HF_ask rfl bb_Heard_mostTelling vv_Heard_mostTelling lk_0_362 (by decide) rfl rfl (Or.inl rfl) (Nat.le_of_ble_eq_true rfl) (s_Heard_mostTelling Γ (q1.1 (q1.2.2 0 13) 9) q1 _ hq4) ?_
      show Ev Γ m_HF_ask 51 [some (vr 0 0 0), some (vi a1)] [vi q2] q1 r h'
      obtain rfl := Option.some.inj hx
      obtain ⟨rfl, rfl⟩ := hP
      exact Ev.iret 25 tk_HF_ask rfl rfl
    · replace hx := ip hc3 hx
      refine Ev.blk (pc' := 51) (lv' := [some (vr 0 0 0), some (vi a1)]) (st' := [vi (ii (-1))]) (h' := q1) 17 2 (Nat.le_of_ble_eq_true rfl) tk_HF_ask rfl rfl ⟨trivial, trivial, trivial⟩ ?_
      obtain rfl := Option.some.inj hx
      obtain ⟨rfl, rfl⟩ := hP
      exact Ev.iret 25 tk_HF_ask rfl rfl
  · replace hx := ip hc1 hx
    refine Ev.blk (pc' := 9) (lv' := [some (vr 0 0 0), some (vi a1)]) (st' := [vi (ii (-1))]) (h' := h) 4 1 (Nat.le_of_ble_eq_true rfl) tk_HF_ask rfl rfl ⟨trivial, trivial⟩ ?_
    obtain rfl := Option.some.inj hx
    obtain ⟨rfl, rfl⟩ := hP
    exact Ev.iret 5 tk_HF_ask rfl rfl
set_option maxRecDepth 4000 in
theorem l_HF_wrong_L39 (Γ : AG) : ∀ (n : Nat) (v1 : Int32) (v2 : Int32) (v3 : Int32) (h : AH) (x : Int32 × AH), HF_wrong_L39 n v1 v2 v3 h = some x → ∀ (r : Option AV) (h' : AH), r = some (vi x.1) ∧ h' = x.2 → Ev Γ m_HF_wrong 39 [some (vr 0 0 0), some (vi v1), some (vi v2), some (vi v3)] [] h r h' := by
  intro n
  induction n with
  | zero => intro v1 v2 v3 h x hx; cases hx
  | succ n ih =>
    intro v1 v2 v3 h x hx r h' hP
    replace hx : HF_wrong_L39_b (HF_wrong_L39 n) v1 v2 v3 h = some x := hx
    unfold HF_wrong_L39_b at hx
    refine Ev.blk (pc' := 47) (lv' := [some (vr 0 0 0), some (vi v1), some (vi v2), some (vi v3)]) (st' := [vi (h.1 (h.2.2 0 13) 10), vi v3]) (h' := h) 23 4 (Nat.le_of_ble_eq_true rfl) tk_HF_wrong rfl rfl ⟨trivial, trivial, trivial, trivial, trivial⟩ ?_
    refine Ev.icmp_ge 27 86 tk_HF_wrong rfl (by decide) (fun hc1 => ?_) (fun hc1 => ?_)
    · replace hx := ip hc1 hx
      refine Ev.blk (pc' := 87) (lv' := [some (vr 0 0 0), some (vi v1), some (vi v2), some (vi v3)]) (st' := [vi v2]) (h' := h) 46 1 (Nat.le_of_ble_eq_true rfl) tk_HF_wrong rfl rfl ⟨trivial, trivial⟩ ?_
      obtain rfl := Option.some.inj hx
      obtain ⟨rfl, rfl⟩ := hP
      exact Ev.iret 47 tk_HF_wrong rfl rfl
    · replace hx := ia hc1 hx
      refine Ev.blk (pc' := 60) (lv' := [some (vr 0 0 0), some (vi v1), some (vi v2), some (vi v3)]) (st' := [vi v3, vi v1, vr 3 0 (h.2.2 0 13), vr 10 0 33]) (h' := h) 28 6 (Nat.le_of_ble_eq_true rfl) tk_HF_wrong rfl rfl ⟨trivial, trivial, trivial, trivial, trivial, trivial, trivial⟩ ?_
      obtain ⟨q1, hq2, hx⟩ := bd hx
      refine Ev.callV (ν := m_Heard_scan) (av := [vr 3 0 (h.2.2 0 13), vi v1, vi v3]) (rest := []) (r1 := none) (h1 := q1) (ci := 10) (nn := 0) (o := 33) 34 3 tk_HF_wrong rfl bb_Heard_scan vv_Heard_scan lk_0_346 (by decide) rfl rfl (Or.inl rfl) (Nat.le_of_ble_eq_true rfl) (s_Heard_scan Γ (h.2.2 0 13) v1 v3 h _ hq2) ?_
      show Ev Γ m_HF_wrong 63 [some (vr 0 0 0), some (vi v1), some (vi v2), some (vi v3)] [] q1 r h'
      refine Ev.blk (pc' := 70) (lv' := [some (vr 0 0 0), some (vi v1), some (vi v2), some (vi v3)]) (st' := [vi (q1.1 33 8)]) (h' := q1) 35 3 (Nat.le_of_ble_eq_true rfl) tk_HF_wrong rfl rfl ⟨trivial, trivial, trivial, trivial⟩ ?_
      have K3 : ∀ v3_0 : Int32, v3_0 = (if (q1.1 33 8) ≤ 0 then v2 else (v2 ||| (p_HF_bit v3))) → Ev Γ m_HF_wrong 80 [some (vr 0 0 0), some (vi v1), some (vi v3_0), some (vi v3)] [] q1 r h' := by
        intro v3_0 e4
        subst e4
        refine Ev.blk (pc' := 39) (lv' := [some (vr 0 0 0), some (vi v1), some (vi (if (q1.1 33 8) ≤ 0 then v2 else (v2 ||| (p_HF_bit v3)))), some (vi (v3 + ii 1))]) (st' := []) (h' := q1) 44 2 (Nat.le_of_ble_eq_true rfl) tk_HF_wrong rfl rfl ⟨trivial, trivial, trivial⟩ ?_
        exact Ev.msk [true, true, true, true] (ih v1 (if (q1.1 33 8) ≤ 0 then v2 else (v2 ||| (p_HF_bit v3))) (v3 + ii 1) q1 _ hx r h' hP)
      refine Ev.if_le 38 80 tk_HF_wrong rfl (by decide) (fun hc5 => ?_) (fun hc5 => ?_)
      · exact Ev.msk [true, true, true, true] (K3 _ (by first | rfl | simp only [if_pos hc5]))
      · refine Ev.blk (pc' := 75) (lv' := [some (vr 0 0 0), some (vi v1), some (vi v2), some (vi v3)]) (st' := [vi v3, vi v2]) (h' := q1) 39 2 (Nat.le_of_ble_eq_true rfl) tk_HF_wrong rfl rfl ⟨trivial, trivial, trivial⟩ ?_
        refine Ev.callS (ν := m_HF_bit) (av := [vi v3]) (rest := [vi v2]) (r1 := some (vi (p_HF_bit v3))) (h1 := q1) 41 1 tk_HF_wrong rfl bb_HF_bit vv_HF_bit lk_0_327 (by decide) rfl rfl (Nat.le_of_ble_eq_true rfl) (s_HF_bit Γ v3 q1) ?_
        show Ev Γ m_HF_wrong 78 [some (vr 0 0 0), some (vi v1), some (vi v2), some (vi v3)] [vi (p_HF_bit v3), vi v2] q1 r h'
        refine Ev.blk (pc' := 80) (lv' := [some (vr 0 0 0), some (vi v1), some (vi (v2 ||| (p_HF_bit v3))), some (vi v3)]) (st' := []) (h' := q1) 42 2 (Nat.le_of_ble_eq_true rfl) tk_HF_wrong rfl rfl ⟨trivial, trivial, trivial⟩ ?_
        exact Ev.msk [true, true, true, true] (K3 _ (by first | rfl | simp only [if_neg hc5]))
set_option maxRecDepth 4000 in
theorem s_HF_wrong (Γ : AG) (a1 : Int32) (h : AH) (x : Int32 × AH) (hx : f_HF_wrong a1 h = some x) : MetA Γ m_HF_wrong [vr 0 0 0, vi a1] h (some (vi x.1)) x.2 := by
  refine Ev.met rfl rfl (Nat.le_of_ble_eq_true rfl) ?_
  show Ev Γ m_HF_wrong 0 [some (vr 0 0 0), some (vi a1), none, none] [] h _ _
  obtain ⟨r, hr⟩ : ∃ r : Option AV, r = some (vi x.1) := ⟨_, rfl⟩
  obtain ⟨h', hh⟩ : ∃ h' : AH, h' = x.2 := ⟨_, rfl⟩
  have hP : r = some (vi x.1) ∧ h' = x.2 := ⟨hr, hh⟩
  suffices hS : Ev Γ m_HF_wrong 0 [some (vr 0 0 0), some (vi a1), none, none] [] h r h' by rw [hr, hh] at hS; exact hS
  clear hr hh
  unfold f_HF_wrong at hx
  refine Ev.blk (pc' := 2) (lv' := [some (vr 0 0 0), some (vi a1), none, none]) (st' := [vi a1, vr 0 0 0]) (h' := h) 0 2 (Nat.le_of_ble_eq_true rfl) tk_HF_wrong rfl rfl ⟨trivial, trivial, trivial⟩ ?_
  refine Ev.callV (ν := m_HF_canScan) (av := [vi a1]) (rest := []) (r1 := some (vi (p_HF_canScan a1 h))) (h1 := h) (ci := 0) (nn := 0) (o := 0) 2 1 tk_HF_wrong rfl bb_HF_canScan vv_HF_canScan lk_0_343 (by decide) rfl rfl (Or.inl rfl) (Nat.le_of_ble_eq_true rfl) (s_HF_canScan Γ a1 h) ?_
  show Ev Γ m_HF_wrong 5 [some (vr 0 0 0), some (vi a1), none, none] [vi (p_HF_canScan a1 h)] h r h'
  refine Ev.if_ne 3 10 tk_HF_wrong rfl (by decide) (fun hc1 => ?_) (fun hc1 => ?_)
  · replace hx := ia hc1 hx
    refine Ev.blk (pc' := 20) (lv' := [some (vr 0 0 0), some (vi a1), none, none]) (st' := [vi (ii (-1)), vi a1, vr 3 0 (h.2.2 0 13), vr 10 0 33]) (h' := h) 6 6 (Nat.le_of_ble_eq_true rfl) tk_HF_wrong rfl rfl ⟨trivial, trivial, trivial, trivial, trivial, trivial, trivial⟩ ?_
    obtain ⟨q1, hq2, hx⟩ := bd hx
    refine Ev.callV (ν := m_Heard_scan) (av := [vr 3 0 (h.2.2 0 13), vi a1, vi (ii (-1))]) (rest := []) (r1 := none) (h1 := q1) (ci := 10) (nn := 0) (o := 33) 12 3 tk_HF_wrong rfl bb_Heard_scan vv_Heard_scan lk_0_346 (by decide) rfl rfl (Or.inl rfl) (Nat.le_of_ble_eq_true rfl) (s_Heard_scan Γ (h.2.2 0 13) a1 (ii (-1)) h _ hq2) ?_
    show Ev Γ m_HF_wrong 23 [some (vr 0 0 0), some (vi a1), none, none] [] q1 r h'
    refine Ev.blk (pc' := 30) (lv' := [some (vr 0 0 0), some (vi a1), none, none]) (st' := [vi (q1.1 33 8)]) (h' := q1) 13 3 (Nat.le_of_ble_eq_true rfl) tk_HF_wrong rfl rfl ⟨trivial, trivial, trivial, trivial⟩ ?_
    refine Ev.if_le 16 35 tk_HF_wrong rfl (by decide) (fun hc3 => ?_) (fun hc3 => ?_)
    · replace hx := ip hc3 hx
      refine Ev.blk (pc' := 39) (lv' := [some (vr 0 0 0), some (vi a1), some (vi (ii 0)), some (vi (ii 0))]) (st' := []) (h' := q1) 19 4 (Nat.le_of_ble_eq_true rfl) tk_HF_wrong rfl rfl ⟨trivial, trivial, trivial, trivial, trivial⟩ ?_
      refine Ev.msk [true, true, true, true] ?_
      show Ev Γ m_HF_wrong 39 [some (vr 0 0 0), some (vi a1), some (vi (ii 0)), some (vi (ii 0))] [] q1 r h'
      exact l_HF_wrong_L39 Γ FU a1 (ii 0) (ii 0) q1 _ hx r h' hP
    · replace hx := ia hc3 hx
      refine Ev.blk (pc' := 34) (lv' := [some (vr 0 0 0), some (vi a1), none, none]) (st' := [vi (ii 0)]) (h' := q1) 17 1 (Nat.le_of_ble_eq_true rfl) tk_HF_wrong rfl rfl ⟨trivial, trivial⟩ ?_
      obtain rfl := Option.some.inj hx
      obtain ⟨rfl, rfl⟩ := hP
      exact Ev.iret 18 tk_HF_wrong rfl rfl
  · replace hx := ip hc1 hx
    refine Ev.blk (pc' := 9) (lv' := [some (vr 0 0 0), some (vi a1), none, none]) (st' := [vi (ii (-1))]) (h' := h) 4 1 (Nat.le_of_ble_eq_true rfl) tk_HF_wrong rfl rfl ⟨trivial, trivial⟩ ?_
    obtain rfl := Option.some.inj hx
    obtain ⟨rfl, rfl⟩ := hP
    exact Ev.iret 5 tk_HF_wrong rfl rfl
set_option maxRecDepth 4000 in
theorem l_Moor_latestTwitch_L2 (Γ : AG) : ∀ (n : Nat) (o0 : Nat) (v1 : Int32) (v2 : Int32) (v3 : Int32) (h : AH) (x : Int32), Moor_latestTwitch_L2 n o0 v1 v2 v3 h = some x → ∀ (r : Option AV) (h' : AH), r = some (vi x) ∧ h' = h → Ev Γ m_Moor_latestTwitch 2 [some (vr 8 0 o0), some (vi v1), some (vi v2), some (vi v3)] [] h r h' := by
  intro n
  induction n with
  | zero => intro o0 v1 v2 v3 h x hx; cases hx
  | succ n ih =>
    intro o0 v1 v2 v3 h x hx r h' hP
    replace hx : Moor_latestTwitch_L2_b (Moor_latestTwitch_L2 n) o0 v1 v2 v3 h = some x := hx
    unfold Moor_latestTwitch_L2_b at hx
    refine Ev.blk (pc' := 4) (lv' := [some (vr 8 0 o0), some (vi v1), some (vi v2), some (vi v3)]) (st' := [vr 8 0 o0, vi v3]) (h' := h) 2 2 (Nat.le_of_ble_eq_true rfl) tk_Moor_latestTwitch rfl rfl ⟨trivial, trivial, trivial⟩ ?_
    refine Ev.callV (ν := m_Moor_bookLength) (av := []) (rest := [vi v3]) (r1 := some (vi (p_Moor_bookLength o0 h))) (h1 := h) (ci := 8) (nn := 0) (o := o0) 4 0 tk_Moor_latestTwitch rfl bb_Moor_bookLength vv_Moor_bookLength lk_8_78 (by decide) rfl rfl (Or.inl rfl) (Nat.le_of_ble_eq_true rfl) (s_Moor_bookLength Γ o0 h) ?_
    show Ev Γ m_Moor_latestTwitch 7 [some (vr 8 0 o0), some (vi v1), some (vi v2), some (vi v3)] [vi (p_Moor_bookLength o0 h), vi v3] h r h'
    refine Ev.icmp_ge 5 40 tk_Moor_latestTwitch rfl (by decide) (fun hc1 => ?_) (fun hc1 => ?_)
    · replace hx := ip hc1 hx
      refine Ev.blk (pc' := 41) (lv' := [some (vr 8 0 o0), some (vi v1), some (vi v2), some (vi v3)]) (st' := [vi (ii (-1))]) (h' := h) 22 1 (Nat.le_of_ble_eq_true rfl) tk_Moor_latestTwitch rfl rfl ⟨trivial, trivial⟩ ?_
      obtain rfl := Option.some.inj hx
      obtain ⟨rfl, rfl⟩ := hP
      exact Ev.iret 23 tk_Moor_latestTwitch rfl rfl
    · replace hx := ia hc1 hx
      refine Ev.blk (pc' := 12) (lv' := [some (vr 8 0 o0), some (vi v1), some (vi v2), some (vi v3)]) (st' := [vi v3, vr 8 0 o0]) (h' := h) 6 2 (Nat.le_of_ble_eq_true rfl) tk_Moor_latestTwitch rfl rfl ⟨trivial, trivial, trivial⟩ ?_
      obtain ⟨q1, hq2, hx⟩ := bd hx
      refine Ev.callV (ν := m_Moor_forkOn) (av := [vi v3]) (rest := []) (r1 := some (vi q1)) (h1 := h) (ci := 8) (nn := 0) (o := o0) 8 1 tk_Moor_latestTwitch rfl bb_Moor_forkOn vv_Moor_forkOn lk_8_88 (by decide) rfl rfl (Or.inl rfl) (Nat.le_of_ble_eq_true rfl) (s_Moor_forkOn Γ o0 v3 h _ hq2) ?_
      show Ev Γ m_Moor_latestTwitch 15 [some (vr 8 0 o0), some (vi v1), some (vi v2), some (vi v3)] [vi q1] h r h'
      refine Ev.blk (pc' := 16) (lv' := [some (vr 8 0 o0), some (vi v1), some (vi v2), some (vi v3)]) (st' := [vi v1, vi q1]) (h' := h) 9 1 (Nat.le_of_ble_eq_true rfl) tk_Moor_latestTwitch rfl rfl ⟨trivial, trivial⟩ ?_
      refine Ev.icmp_ne 10 34 tk_Moor_latestTwitch rfl (by decide) (fun hc3 => ?_) (fun hc3 => ?_)
      · replace hx := ia hc3 hx
        refine Ev.blk (pc' := 2) (lv' := [some (vr 8 0 o0), some (vi v1), some (vi v2), some (vi (v3 + ii 1))]) (st' := []) (h' := h) 20 2 (Nat.le_of_ble_eq_true rfl) tk_Moor_latestTwitch rfl rfl ⟨trivial, trivial, trivial⟩ ?_
        exact Ev.msk [true, true, true, true] (ih o0 v1 v2 (v3 + ii 1) h _ hx r h' hP)
      · replace hx := ip hc3 hx
        refine Ev.blk (pc' := 21) (lv' := [some (vr 8 0 o0), some (vi v1), some (vi v2), some (vi v3)]) (st' := [vi v3, vr 8 0 o0]) (h' := h) 11 2 (Nat.le_of_ble_eq_true rfl) tk_Moor_latestTwitch rfl rfl ⟨trivial, trivial, trivial⟩ ?_
        obtain ⟨q2, hq4, hx⟩ := bd hx
        refine Ev.callV (ν := m_Moor_cellOn) (av := [vi v3]) (rest := []) (r1 := some (vi q2)) (h1 := h) (ci := 8) (nn := 0) (o := o0) 13 1 tk_Moor_latestTwitch rfl bb_Moor_cellOn vv_Moor_cellOn lk_8_82 (by decide) rfl rfl (Or.inl rfl) (Nat.le_of_ble_eq_true rfl) (s_Moor_cellOn Γ o0 v3 h _ hq4) ?_
        show Ev Γ m_Moor_latestTwitch 24 [some (vr 8 0 o0), some (vi v1), some (vi v2), some (vi v3)] [vi q2] h r h'
        refine Ev.blk (pc' := 25) (lv' := [some (vr 8 0 o0), some (vi v1), some (vi v2), some (vi v3)]) (st' := [vi v2, vi q2]) (h' := h) 14 1 (Nat.le_of_ble_eq_true rfl) tk_Moor_latestTwitch rfl rfl ⟨trivial, trivial⟩ ?_
        refine Ev.icmp_ne 15 34 tk_Moor_latestTwitch rfl (by decide) (fun hc5 => ?_) (fun hc5 => ?_)
        · replace hx := ia hc5 hx
          refine Ev.blk (pc' := 2) (lv' := [some (vr 8 0 o0), some (vi v1), some (vi v2), some (vi (v3 + ii 1))]) (st' := []) (h' := h) 20 2 (Nat.le_of_ble_eq_true rfl) tk_Moor_latestTwitch rfl rfl ⟨trivial, trivial, trivial⟩ ?_
          exact Ev.msk [true, true, true, true] (ih o0 v1 v2 (v3 + ii 1) h _ hx r h' hP)
        · replace hx := ip hc5 hx
          refine Ev.blk (pc' := 30) (lv' := [some (vr 8 0 o0), some (vi v1), some (vi v2), some (vi v3)]) (st' := [vi v3, vr 8 0 o0]) (h' := h) 16 2 (Nat.le_of_ble_eq_true rfl) tk_Moor_latestTwitch rfl rfl ⟨trivial, trivial, trivial⟩ ?_
          obtain ⟨q3, hq6, hx⟩ := bd hx
          refine Ev.callV (ν := m_Moor_twitchOn) (av := [vi v3]) (rest := []) (r1 := some (vi q3)) (h1 := h) (ci := 8) (nn := 0) (o := o0) 18 1 tk_Moor_latestTwitch rfl bb_Moor_twitchOn vv_Moor_twitchOn lk_8_85 (by decide) rfl rfl (Or.inl rfl) (Nat.le_of_ble_eq_true rfl) (s_Moor_twitchOn Γ o0 v3 h _ hq6) ?_
          show Ev Γ m_Moor_latestTwitch 33 [some (vr 8 0 o0), some (vi v1), some (vi v2), some (vi v3)] [vi q3] h r h'
          obtain rfl := Option.some.inj hx
          obtain ⟨rfl, rfl⟩ := hP
          exact Ev.iret 19 tk_Moor_latestTwitch rfl rfl
set_option maxRecDepth 4000 in
theorem s_Moor_latestTwitch (Γ : AG) (o0 : Nat) (a1 : Int32) (a2 : Int32) (h : AH) (x : Int32) (hx : f_Moor_latestTwitch o0 a1 a2 h = some x) : MetA Γ m_Moor_latestTwitch [vr 8 0 o0, vi a1, vi a2] h (some (vi x)) h := by
  refine Ev.met rfl rfl (Nat.le_of_ble_eq_true rfl) ?_
  show Ev Γ m_Moor_latestTwitch 0 [some (vr 8 0 o0), some (vi a1), some (vi a2), none] [] h _ _
  obtain ⟨r, hr⟩ : ∃ r : Option AV, r = some (vi x) := ⟨_, rfl⟩
  obtain ⟨h', hh⟩ : ∃ h' : AH, h' = h := ⟨_, rfl⟩
  have hP : r = some (vi x) ∧ h' = h := ⟨hr, hh⟩
  suffices hS : Ev Γ m_Moor_latestTwitch 0 [some (vr 8 0 o0), some (vi a1), some (vi a2), none] [] h r h' by rw [hr, hh] at hS; exact hS
  clear hr hh
  unfold f_Moor_latestTwitch at hx
  refine Ev.blk (pc' := 2) (lv' := [some (vr 8 0 o0), some (vi a1), some (vi a2), some (vi (ii 0))]) (st' := []) (h' := h) 0 2 (Nat.le_of_ble_eq_true rfl) tk_Moor_latestTwitch rfl rfl ⟨trivial, trivial, trivial⟩ ?_
  refine Ev.msk [true, true, true, true] ?_
  show Ev Γ m_Moor_latestTwitch 2 [some (vr 8 0 o0), some (vi a1), some (vi a2), some (vi (ii 0))] [] h r h'
  exact l_Moor_latestTwitch_L2 Γ FU o0 a1 a2 (ii 0) h _ hx r h' hP
set_option maxRecDepth 4000 in
theorem l_HF_chance_L21 (Γ : AG) : ∀ (n : Nat) (v1 : Int32) (v2 : Int64) (v4 : Int64) (v6 : Int32) (h : AH) (x : Int32), HF_chance_L21 n v1 v2 v4 v6 h = some x → ∀ (r : Option AV) (h' : AH), r = some (vi x) ∧ h' = h → Ev Γ m_HF_chance 21 [some (vr 0 0 0), some (vi v1), some (vl v2), none, some (vl v4), none, some (vi v6), none, none] [] h r h' := by
  intro n
  induction n with
  | zero => intro v1 v2 v4 v6 h x hx; cases hx
  | succ n ih =>
    intro v1 v2 v4 v6 h x hx r h' hP
    replace hx : HF_chance_L21_b (HF_chance_L21 n) v1 v2 v4 v6 h = some x := hx
    unfold HF_chance_L21_b at hx
    refine Ev.blk (pc' := 30) (lv' := [some (vr 0 0 0), some (vi v1), some (vl v2), none, some (vl v4), none, some (vi v6), none, none]) (st' := [vi (h.1 (h.2.2 0 13) 10), vi v6]) (h' := h) 13 4 (Nat.le_of_ble_eq_true rfl) tk_HF_chance rfl rfl ⟨trivial, trivial, trivial, trivial, trivial⟩ ?_
    refine Ev.icmp_ge 17 111 tk_HF_chance rfl (by decide) (fun hc1 => ?_) (fun hc1 => ?_)
    · replace hx := ip hc1 hx
      refine Ev.blk (pc' := 121) (lv' := [some (vr 0 0 0), some (vi v1), some (vl v2), none, some (vl v4), none, some (vl (v2 + v4)), none, none]) (st' := [vi (lg_cmp (v2 + v4) (Int64.ofNat 0))]) (h' := h) 59 7 (Nat.le_of_ble_eq_true rfl) tk_HF_chance rfl rfl ⟨trivial, trivial, trivial, trivial, trivial, trivial, trivial, trivial⟩ ?_
      refine Ev.if_gt 66 128 tk_HF_chance rfl (by decide) (fun hc2 => ?_) (fun hc2 => ?_)
      · replace hx := ip hc2 hx
        obtain ⟨hg3, hx⟩ := gd hx
        refine Ev.blk (pc' := 137) (lv' := [some (vr 0 0 0), some (vi v1), some (vl v2), none, some (vl v4), none, some (vl (v2 + v4)), none, none]) (st' := [vi (((v2 * (Int64.ofInt 1000000)) / (v2 + v4)).toInt32)]) (h' := h) 69 6 (Nat.le_of_ble_eq_true rfl) tk_HF_chance rfl rfl ⟨trivial, trivial, trivial, trivial, hg3, trivial, trivial⟩ ?_
        obtain rfl := Option.some.inj hx
        obtain ⟨rfl, rfl⟩ := hP
        exact Ev.iret 75 tk_HF_chance rfl rfl
      · replace hx := ia hc2 hx
        refine Ev.blk (pc' := 137) (lv' := [some (vr 0 0 0), some (vi v1), some (vl v2), none, some (vl v4), none, some (vl (v2 + v4)), none, none]) (st' := [vi (ii (-1))]) (h' := h) 67 2 (Nat.le_of_ble_eq_true rfl) tk_HF_chance rfl rfl ⟨trivial, trivial, trivial⟩ ?_
        obtain rfl := Option.some.inj hx
        obtain ⟨rfl, rfl⟩ := hP
        exact Ev.iret 75 tk_HF_chance rfl rfl
    · replace hx := ia hc1 hx
      refine Ev.blk (pc' := 40) (lv' := [some (vr 0 0 0), some (vi v1), some (vl v2), none, some (vl v4), none, some (vi v6), none, none]) (st' := [vi v1, vi v6, vr 8 0 13]) (h' := h) 18 4 (Nat.le_of_ble_eq_true rfl) tk_HF_chance rfl rfl ⟨trivial, trivial, trivial, trivial, trivial⟩ ?_
      obtain ⟨q1, hq4, hx⟩ := bd hx
      refine Ev.callV (ν := m_Moor_latestTwitch) (av := [vi v6, vi v1]) (rest := []) (r1 := some (vi q1)) (h1 := h) (ci := 8) (nn := 0) (o := 13) 22 2 tk_HF_chance rfl bb_Moor_latestTwitch vv_Moor_latestTwitch lk_0_365 (by decide) rfl rfl (Or.inl rfl) (Nat.le_of_ble_eq_true rfl) (s_Moor_latestTwitch Γ 13 v6 v1 h _ hq4) ?_
      show Ev Γ m_HF_chance 43 [some (vr 0 0 0), some (vi v1), some (vl v2), none, some (vl v4), none, some (vi v6), none, none] [vi q1] h r h'
      refine Ev.blk (pc' := 48) (lv' := [some (vr 0 0 0), some (vi v1), some (vl v2), none, some (vl v4), none, some (vi v6), some (vi q1), none]) (st' := [vi (ii (-1)), vi q1]) (h' := h) 23 3 (Nat.le_of_ble_eq_true rfl) tk_HF_chance rfl rfl ⟨trivial, trivial, trivial, trivial⟩ ?_
      obtain ⟨q3, hq5, hx⟩ := bd hx
      have K6 : Ev Γ m_HF_chance 105 [some (vr 0 0 0), some (vi v1), some (vl q3.1), none, some (vl q3.2), none, some (vi v6), none, none] [] h r h' := by
        refine Ev.blk (pc' := 21) (lv' := [some (vr 0 0 0), some (vi v1), some (vl q3.1), none, some (vl q3.2), none, some (vi (v6 + ii 1)), none, none]) (st' := []) (h' := h) 57 2 (Nat.le_of_ble_eq_true rfl) tk_HF_chance rfl rfl ⟨trivial, trivial, trivial⟩ ?_
        exact Ev.msk [true, true, true, false, true, false, true, false, false] (ih v1 q3.1 q3.2 (v6 + ii 1) h _ hx r h' hP)
      clear hx
      refine Ev.icmp_eq 26 105 tk_HF_chance rfl (by decide) (fun hc7 => ?_) (fun hc7 => ?_)
      · replace hq5 := ip hc7 hq5
        obtain rfl := Option.some.inj hq5
        exact Ev.msk [true, true, true, false, true, false, true, false, false] K6
      · replace hq5 := ia hc7 hq5
        refine Ev.blk (pc' := 58) (lv' := [some (vr 0 0 0), some (vi v1), some (vl v2), none, some (vl v4), none, some (vi v6), some (vi q1), none]) (st' := [vi (ii 4), vi v6, vr 3 0 (h.2.2 0 13)]) (h' := h) 27 4 (Nat.le_of_ble_eq_true rfl) tk_HF_chance rfl rfl ⟨trivial, trivial, trivial, trivial, trivial⟩ ?_
        obtain ⟨q2, hq8, hq5⟩ := bd hq5
        refine Ev.callV (ν := m_Heath_trait) (av := [vi v6, vi (ii 4)]) (rest := []) (r1 := some (vi q2)) (h1 := h) (ci := 3) (nn := 0) (o := (h.2.2 0 13)) 31 2 tk_HF_chance rfl bb_Heath_trait vv_Heath_trait lk_0_196 (by decide) rfl rfl (Or.inl rfl) (Nat.le_of_ble_eq_true rfl) (s_Heath_trait Γ (h.2.2 0 13) v6 (ii 4) h _ hq8) ?_
        show Ev Γ m_HF_chance 61 [some (vr 0 0 0), some (vi v1), some (vl v2), none, some (vl v4), none, some (vi v6), some (vi q1), none] [vi q2] h r h'
        refine Ev.blk (pc' := 66) (lv' := [some (vr 0 0 0), some (vi v1), some (vl v2), none, some (vl v4), none, some (vi v6), some (vi q1), some (vi q2)]) (st' := [vi q1, vl v2]) (h' := h) 32 3 (Nat.le_of_ble_eq_true rfl) tk_HF_chance rfl rfl ⟨trivial, trivial, trivial, trivial⟩ ?_
        have K9 : ∀ v9_0 : Int64, v9_0 = (if q1 ≤ 0 then q2.toInt64 else ((ii 10) - q2).toInt64) → Ev Γ m_HF_chance 81 [some (vr 0 0 0), some (vi v1), none, none, some (vl v4), none, some (vi v6), some (vi q1), some (vi q2)] [vl v9_0, vl v2] h r h' := by
          intro v9_0 e10
          subst e10
          refine Ev.blk (pc' := 87) (lv' := [some (vr 0 0 0), some (vi v1), some (vl (v2 * (if q1 ≤ 0 then q2.toInt64 else ((ii 10) - q2).toInt64))), none, some (vl v4), none, some (vi v6), some (vi q1), some (vi q2)]) (st' := [vi q1, vl v4]) (h' := h) 43 4 (Nat.le_of_ble_eq_true rfl) tk_HF_chance rfl rfl ⟨trivial, trivial, trivial, trivial, trivial⟩ ?_
          have K11 : ∀ v11_0 : Int64, v11_0 = (if q1 ≤ 0 then ((ii 10) - q2).toInt64 else q2.toInt64) → Ev Γ m_HF_chance 102 [some (vr 0 0 0), some (vi v1), some (vl (v2 * (if q1 ≤ 0 then q2.toInt64 else ((ii 10) - q2).toInt64))), none, none, none, some (vi v6), none, none] [vl v11_0, vl v4] h r h' := by
            intro v11_0 e12
            subst e12
            refine Ev.blk (pc' := 105) (lv' := [some (vr 0 0 0), some (vi v1), some (vl (v2 * (if q1 ≤ 0 then q2.toInt64 else ((ii 10) - q2).toInt64))), none, some (vl (v4 * (if q1 ≤ 0 then ((ii 10) - q2).toInt64 else q2.toInt64))), none, some (vi v6), none, none]) (st' := []) (h' := h) 55 2 (Nat.le_of_ble_eq_true rfl) tk_HF_chance rfl rfl ⟨trivial, trivial, trivial⟩ ?_
            obtain rfl := Option.some.inj hq5
            exact Ev.msk [true, true, true, false, true, false, true, false, false] K6
          refine Ev.if_le 47 96 tk_HF_chance rfl (by decide) (fun hc13 => ?_) (fun hc13 => ?_)
          · refine Ev.blk (pc' := 102) (lv' := [some (vr 0 0 0), some (vi v1), some (vl (v2 * (if q1 ≤ 0 then q2.toInt64 else ((ii 10) - q2).toInt64))), none, some (vl v4), none, some (vi v6), some (vi q1), some (vi q2)]) (st' := [vl (((ii 10) - q2).toInt64), vl v4]) (h' := h) 51 4 (Nat.le_of_ble_eq_true rfl) tk_HF_chance rfl rfl ⟨trivial, trivial, trivial, trivial, trivial⟩ ?_
            exact Ev.msk [true, true, true, false, false, false, true, false, false] (K11 _ (by first | rfl | simp only [if_pos hc13]))
          · refine Ev.blk (pc' := 102) (lv' := [some (vr 0 0 0), some (vi v1), some (vl (v2 * (if q1 ≤ 0 then q2.toInt64 else ((ii 10) - q2).toInt64))), none, some (vl v4), none, some (vi v6), some (vi q1), some (vi q2)]) (st' := [vl q2.toInt64, vl v4]) (h' := h) 48 3 (Nat.le_of_ble_eq_true rfl) tk_HF_chance rfl rfl ⟨trivial, trivial, trivial, trivial⟩ ?_
            exact Ev.msk [true, true, true, false, false, false, true, false, false] (K11 _ (by first | rfl | simp only [if_neg hc13]))
        refine Ev.if_le 35 78 tk_HF_chance rfl (by decide) (fun hc14 => ?_) (fun hc14 => ?_)
        · refine Ev.blk (pc' := 81) (lv' := [some (vr 0 0 0), some (vi v1), some (vl v2), none, some (vl v4), none, some (vi v6), some (vi q1), some (vi q2)]) (st' := [vl q2.toInt64, vl v2]) (h' := h) 41 2 (Nat.le_of_ble_eq_true rfl) tk_HF_chance rfl rfl ⟨trivial, trivial, trivial⟩ ?_
          exact Ev.msk [true, true, false, false, true, false, true, true, true] (K9 _ (by first | rfl | simp only [if_pos hc14]))
        · refine Ev.blk (pc' := 81) (lv' := [some (vr 0 0 0), some (vi v1), some (vl v2), none, some (vl v4), none, some (vi v6), some (vi q1), some (vi q2)]) (st' := [vl (((ii 10) - q2).toInt64), vl v2]) (h' := h) 36 5 (Nat.le_of_ble_eq_true rfl) tk_HF_chance rfl rfl ⟨trivial, trivial, trivial, trivial, trivial, trivial⟩ ?_
          exact Ev.msk [true, true, false, false, true, false, true, true, true] (K9 _ (by first | rfl | simp only [if_neg hc14]))
set_option maxRecDepth 4000 in
theorem s_HF_chance (Γ : AG) (a1 : Int32) (h : AH) (x : Int32) (hx : f_HF_chance a1 h = some x) : MetA Γ m_HF_chance [vr 0 0 0, vi a1] h (some (vi x)) h := by
  refine Ev.met rfl rfl (Nat.le_of_ble_eq_true rfl) ?_
  show Ev Γ m_HF_chance 0 [some (vr 0 0 0), some (vi a1), none, none, none, none, none, none, none] [] h _ _
  obtain ⟨r, hr⟩ : ∃ r : Option AV, r = some (vi x) := ⟨_, rfl⟩
  obtain ⟨h', hh⟩ : ∃ h' : AH, h' = h := ⟨_, rfl⟩
  have hP : r = some (vi x) ∧ h' = h := ⟨hr, hh⟩
  suffices hS : Ev Γ m_HF_chance 0 [some (vr 0 0 0), some (vi a1), none, none, none, none, none, none, none] [] h r h' by rw [hr, hh] at hS; exact hS
  clear hr hh
  unfold f_HF_chance at hx
  refine Ev.blk (pc' := 5) (lv' := [some (vr 0 0 0), some (vi a1), none, none, none, none, none, none, none]) (st' := [vi a1, vr 3 0 (h.2.2 0 13)]) (h' := h) 0 3 (Nat.le_of_ble_eq_true rfl) tk_HF_chance rfl rfl ⟨trivial, trivial, trivial, trivial⟩ ?_
  refine Ev.callV (ν := m_Heath_isCell) (av := [vi a1]) (rest := []) (r1 := some (vi (p_Heath_isCell (h.2.2 0 13) a1 h))) (h1 := h) (ci := 3) (nn := 0) (o := (h.2.2 0 13)) 3 1 tk_HF_chance rfl bb_Heath_isCell vv_Heath_isCell lk_0_153 (by decide) rfl rfl (Or.inl rfl) (Nat.le_of_ble_eq_true rfl) (s_Heath_isCell Γ (h.2.2 0 13) a1 h) ?_
  show Ev Γ m_HF_chance 8 [some (vr 0 0 0), some (vi a1), none, none, none, none, none, none, none] [vi (p_Heath_isCell (h.2.2 0 13) a1 h)] h r h'
  refine Ev.if_ne 4 13 tk_HF_chance rfl (by decide) (fun hc1 => ?_) (fun hc1 => ?_)
  · replace hx := ia hc1 hx
    refine Ev.blk (pc' := 21) (lv' := [some (vr 0 0 0), some (vi a1), some (vl (Int64.ofNat 1)), none, some (vl (Int64.ofNat 1)), none, some (vi (ii 0)), none, none]) (st' := []) (h' := h) 7 6 (Nat.le_of_ble_eq_true rfl) tk_HF_chance rfl rfl ⟨trivial, trivial, trivial, trivial, trivial, trivial, trivial⟩ ?_
    refine Ev.msk [true, true, true, false, true, false, true, false, false] ?_
    show Ev Γ m_HF_chance 21 [some (vr 0 0 0), some (vi a1), some (vl (Int64.ofNat 1)), none, some (vl (Int64.ofNat 1)), none, some (vi (ii 0)), none, none] [] h r h'
    exact l_HF_chance_L21 Γ FU a1 (Int64.ofNat 1) (Int64.ofNat 1) (ii 0) h _ hx r h' hP
  · replace hx := ip hc1 hx
    refine Ev.blk (pc' := 12) (lv' := [some (vr 0 0 0), some (vi a1), none, none, none, none, none, none, none]) (st' := [vi (ii (-1))]) (h' := h) 5 1 (Nat.le_of_ble_eq_true rfl) tk_HF_chance rfl rfl ⟨trivial, trivial⟩ ?_
    obtain rfl := Option.some.inj hx
    obtain ⟨rfl, rfl⟩ := hP
    exact Ev.iret 6 tk_HF_chance rfl rfl
