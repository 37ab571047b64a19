theorem s_HF_hasHeath (Γ : AG) (h : AH) : MetA Γ m_HF_hasHeath [vr 0 0 0] h (some (vi (p_HF_hasHeath h))) h := by
  refine Ev.met rfl rfl (Nat.le_of_ble_eq_true rfl) ?_
  generalize hx : p_HF_hasHeath h = x
  show Ev Γ m_HF_hasHeath 0 [some (vr 0 0 0)] [] h _ _
  obtain ⟨r, hr⟩ : ∃ r : Option AV, r = some (vi x) := ⟨_, rfl⟩
  obtain ⟨h', hh⟩ : ∃ h' : AH, h' = h := ⟨_, rfl⟩
  have hP : r = some (vi x) ∧ h' = h := ⟨hr, hh⟩
  suffices hS : Ev Γ m_HF_hasHeath 0 [some (vr 0 0 0)] [] h r h' by rw [hr, hh] at hS; exact hS
  clear hr hh
  unfold p_HF_hasHeath at hx
  refine Ev.blk (pc' := 7) (lv' := [some (vr 0 0 0)]) (st' := [vi (h.1 (h.2.2 0 13) 9)]) (h' := h) 0 3 (Nat.le_of_ble_eq_true rfl) tk_HF_hasHeath rfl rfl ⟨trivial, trivial, trivial, trivial⟩ ?_
  refine Ev.if_le 3 14 tk_HF_hasHeath rfl (by decide) (fun hc1 => ?_) (fun hc1 => ?_)
  · replace hx := ip hc1 hx
    refine Ev.blk (pc' := 15) (lv' := [some (vr 0 0 0)]) (st' := [vi (ii 0)]) (h' := h) 6 1 (Nat.le_of_ble_eq_true rfl) tk_HF_hasHeath rfl rfl ⟨trivial, trivial⟩ ?_
    subst hx
    obtain ⟨rfl, rfl⟩ := hP
    exact Ev.zret 7 tk_HF_hasHeath rfl rfl rfl
  · replace hx := ia hc1 hx
    refine Ev.blk (pc' := 15) (lv' := [some (vr 0 0 0)]) (st' := [vi (ii 1)]) (h' := h) 4 2 (Nat.le_of_ble_eq_true rfl) tk_HF_hasHeath rfl rfl ⟨trivial, trivial, trivial⟩ ?_
    subst hx
    obtain ⟨rfl, rfl⟩ := hP
    exact Ev.zret 7 tk_HF_hasHeath rfl rfl rfl
theorem s_HF_rule (Γ : AG) (a1 : Int32) (h : AH) : MetA Γ m_HF_rule [vr 0 0 0, vi a1] h (some (vi (p_HF_rule a1 h))) h := by
  refine Ev.met rfl rfl (Nat.le_of_ble_eq_true rfl) ?_
  generalize hx : p_HF_rule a1 h = x
  show Ev Γ m_HF_rule 0 [some (vr 0 0 0), some (vi a1)] [] h _ _
  obtain ⟨r, hr⟩ : ∃ r : Option AV, r = some (vi x) := ⟨_, rfl⟩
  obtain ⟨h', hh⟩ : ∃ h' : AH, h' = h := ⟨_, rfl⟩
  have hP : r = some (vi x) ∧ h' = h := ⟨hr, hh⟩
  suffices hS : Ev Γ m_HF_rule 0 [some (vr 0 0 0), some (vi a1)] [] h r h' by rw [hr, hh] at hS; exact hS
  clear hr hh
  unfold p_HF_rule at hx
  refine Ev.blk (pc' := 1) (lv' := [some (vr 0 0 0), some (vi a1)]) (st' := [vr 0 0 0]) (h' := h) 0 1 (Nat.le_of_ble_eq_true rfl) tk_HF_rule rfl rfl ⟨trivial, trivial⟩ ?_
  refine Ev.callV (ν := m_HF_hasHeath) (av := []) (rest := []) (r1 := some (vi (p_HF_hasHeath h))) (h1 := h) (ci := 0) (nn := 0) (o := 0) 1 0 tk_HF_rule rfl bb_HF_hasHeath vv_HF_hasHeath lk_0_137 (by decide) rfl rfl (Or.inl rfl) (Nat.le_of_ble_eq_true rfl) (s_HF_hasHeath Γ h) ?_
  show Ev Γ m_HF_rule 4 [some (vr 0 0 0), some (vi a1)] [vi (p_HF_hasHeath h)] h r h'
  refine Ev.if_ne 2 9 tk_HF_rule rfl (by decide) (fun hc1 => ?_) (fun hc1 => ?_)
  · replace hx := ia hc1 hx
    refine Ev.blk (pc' := 10) (lv' := [some (vr 0 0 0), some (vi a1)]) (st' := [vi a1]) (h' := h) 5 1 (Nat.le_of_ble_eq_true rfl) tk_HF_rule rfl rfl ⟨trivial, trivial⟩ ?_
    by_cases hc2 : a1 = ii 0
    · replace hx := ip hc2 hx
      refine Ev.tabIn (off := 30) 6 40 0 tk_HF_rule rfl hc2 (by decide) (by decide) ?_
      refine Ev.blk (pc' := 47) (lv' := [some (vr 0 0 0), some (vi a1)]) (st' := [vi (h.1 (h.2.2 0 13) 5)]) (h' := h) 7 3 (Nat.le_of_ble_eq_true rfl) tk_HF_rule rfl rfl ⟨trivial, trivial, trivial, trivial⟩ ?_
      subst hx
      obtain ⟨rfl, rfl⟩ := hP
      exact Ev.iret 10 tk_HF_rule rfl rfl
    replace hx := ia hc2 hx
    by_cases hc3 : a1 = ii 1
    · replace hx := ip hc3 hx
      refine Ev.tabIn (off := 38) 6 48 1 tk_HF_rule rfl hc3 (by decide) (by decide) ?_
      refine Ev.blk (pc' := 55) (lv' := [some (vr 0 0 0), some (vi a1)]) (st' := [vi (h.1 (h.2.2 0 13) 6)]) (h' := h) 11 3 (Nat.le_of_ble_eq_true rfl) tk_HF_rule rfl rfl ⟨trivial, trivial, trivial, trivial⟩ ?_
      subst hx
      obtain ⟨rfl, rfl⟩ := hP
      exact Ev.iret 14 tk_HF_rule rfl rfl
    replace hx := ia hc3 hx
    by_cases hc4 : a1 = ii 2
    · replace hx := ip hc4 hx
      refine Ev.tabIn (off := 46) 6 56 2 tk_HF_rule rfl hc4 (by decide) (by decide) ?_
      refine Ev.blk (pc' := 63) (lv' := [some (vr 0 0 0), some (vi a1)]) (st' := [vi (h.1 (h.2.2 0 13) 7)]) (h' := h) 15 3 (Nat.le_of_ble_eq_true rfl) tk_HF_rule rfl rfl ⟨trivial, trivial, trivial, trivial⟩ ?_
      subst hx
      obtain ⟨rfl, rfl⟩ := hP
      exact Ev.iret 18 tk_HF_rule rfl rfl
    replace hx := ia hc4 hx
    by_cases hc5 : a1 = ii 3
    · replace hx := ip hc5 hx
      refine Ev.tabIn (off := 54) 6 64 3 tk_HF_rule rfl hc5 (by decide) (by decide) ?_
      refine Ev.blk (pc' := 71) (lv' := [some (vr 0 0 0), some (vi a1)]) (st' := [vi (h.1 (h.2.2 0 13) 8)]) (h' := h) 19 3 (Nat.le_of_ble_eq_true rfl) tk_HF_rule rfl rfl ⟨trivial, trivial, trivial, trivial⟩ ?_
      subst hx
      obtain ⟨rfl, rfl⟩ := hP
      exact Ev.iret 22 tk_HF_rule rfl rfl
    replace hx := ia hc5 hx
    refine Ev.tabOut 6 72 4 tk_HF_rule rfl (by decide) (fun k hk => ?_) (by decide) ?_
    · rcases (show k = 0 ∨ k = 1 ∨ k = 2 ∨ k = 3 by omega) with rfl | rfl | rfl | rfl
      · exact hc2
      · exact hc3
      · exact hc4
      · exact hc5
    · refine Ev.blk (pc' := 73) (lv' := [some (vr 0 0 0), some (vi a1)]) (st' := [vi (ii (-1))]) (h' := h) 23 1 (Nat.le_of_ble_eq_true rfl) tk_HF_rule rfl rfl ⟨trivial, trivial⟩ ?_
      subst hx
      obtain ⟨rfl, rfl⟩ := hP
      exact Ev.iret 24 tk_HF_rule rfl rfl
  · replace hx := ip hc1 hx
    refine Ev.blk (pc' := 8) (lv' := [some (vr 0 0 0), some (vi a1)]) (st' := [vi (ii (-1))]) (h' := h) 3 1 (Nat.le_of_ble_eq_true rfl) tk_HF_rule rfl rfl ⟨trivial, trivial⟩ ?_
    subst hx
    obtain ⟨rfl, rfl⟩ := hP
    exact Ev.iret 4 tk_HF_rule rfl rfl
set_option maxRecDepth 4000 in
theorem s_Heath_hasWater (Γ : AG) (o0 : Nat) (a1 : Int32) (h : AH) (x : Int32) (hx : f_Heath_hasWater o0 a1 h = some x) : MetA Γ m_Heath_hasWater [vr 3 0 o0, vi a1] h (some (vi x)) h := by
  refine Ev.met rfl rfl (Nat.le_of_ble_eq_true rfl) ?_
  show Ev Γ m_Heath_hasWater 0 [some (vr 3 0 o0), some (vi a1)] [] h _ _
  obtain ⟨r, hr⟩ : ∃ r : Option AV, r = some (vi x) := ⟨_, rfl⟩
  obtain ⟨h', hh⟩ : ∃ h' : AH, h' = h := ⟨_, rfl⟩
  have hP : r = some (vi x) ∧ h' = h := ⟨hr, hh⟩
  suffices hS : Ev Γ m_Heath_hasWater 0 [some (vr 3 0 o0), some (vi a1)] [] h r h' by rw [hr, hh] at hS; exact hS
  clear hr hh
  unfold f_Heath_hasWater at hx
  refine Ev.blk (pc' := 2) (lv' := [some (vr 3 0 o0), some (vi a1)]) (st' := [vi a1, vr 3 0 o0]) (h' := h) 0 2 (Nat.le_of_ble_eq_true rfl) tk_Heath_hasWater rfl rfl ⟨trivial, trivial, trivial⟩ ?_
  refine Ev.callV (ν := m_Heath_isCell) (av := [vi a1]) (rest := []) (r1 := some (vi (p_Heath_isCell o0 a1 h))) (h1 := h) (ci := 3) (nn := 0) (o := o0) 2 1 tk_Heath_hasWater rfl bb_Heath_isCell vv_Heath_isCell lk_3_71 (by decide) rfl rfl (Or.inl rfl) (Nat.le_of_ble_eq_true rfl) (s_Heath_isCell Γ o0 a1 h) ?_
  show Ev Γ m_Heath_hasWater 5 [some (vr 3 0 o0), some (vi a1)] [vi (p_Heath_isCell o0 a1 h)] h r h'
  refine Ev.if_eq 3 22 tk_Heath_hasWater rfl (by decide) (fun hc1 => ?_) (fun hc1 => ?_)
  · replace hx := ip hc1 hx
    refine Ev.blk (pc' := 23) (lv' := [some (vr 3 0 o0), some (vi a1)]) (st' := [vi (ii 0)]) (h' := h) 12 1 (Nat.le_of_ble_eq_true rfl) tk_Heath_hasWater rfl rfl ⟨trivial, trivial⟩ ?_
    obtain rfl := Option.some.inj hx
    obtain ⟨rfl, rfl⟩ := hP
    exact Ev.zret 13 tk_Heath_hasWater rfl rfl rfl
  · replace hx := ia hc1 hx
    obtain ⟨hg2, hx⟩ := gd hx
    refine Ev.blk (pc' := 15) (lv' := [some (vr 3 0 o0), some (vi a1)]) (st' := [vi (ii (-1)), vi (h.1 (o0 + 1) (a1).toNatClampNeg)]) (h' := h) 4 5 (Nat.le_of_ble_eq_true rfl) tk_Heath_hasWater rfl rfl ⟨trivial, trivial, trivial, hg2, trivial, trivial⟩ ?_
    refine Ev.icmp_eq 9 22 tk_Heath_hasWater rfl (by decide) (fun hc3 => ?_) (fun hc3 => ?_)
    · replace hx := ip hc3 hx
      refine Ev.blk (pc' := 23) (lv' := [some (vr 3 0 o0), some (vi a1)]) (st' := [vi (ii 0)]) (h' := h) 12 1 (Nat.le_of_ble_eq_true rfl) tk_Heath_hasWater rfl rfl ⟨trivial, trivial⟩ ?_
      obtain rfl := Option.some.inj hx
      obtain ⟨rfl, rfl⟩ := hP
      exact Ev.zret 13 tk_Heath_hasWater rfl rfl rfl
    · replace hx := ia hc3 hx
      refine Ev.blk (pc' := 23) (lv' := [some (vr 3 0 o0), some (vi a1)]) (st' := [vi (ii 1)]) (h' := h) 10 2 (Nat.le_of_ble_eq_true rfl) tk_Heath_hasWater rfl rfl ⟨trivial, trivial, trivial⟩ ?_
      obtain rfl := Option.some.inj hx
      obtain ⟨rfl, rfl⟩ := hP
      exact Ev.zret 13 tk_Heath_hasWater rfl rfl rfl
set_option maxRecDepth 4000 in
theorem s_Heath_waterIn (Γ : AG) (o0 : Nat) (a1 : Int32) (a2 : Int32) (h : AH) (x : Int32) (hx : f_Heath_waterIn o0 a1 a2 h = some x) : MetA Γ m_Heath_waterIn [vr 3 0 o0, vi a1, vi a2] h (some (vi x)) h := by
  refine Ev.met rfl rfl (Nat.le_of_ble_eq_true rfl) ?_
  show Ev Γ m_Heath_waterIn 0 [some (vr 3 0 o0), some (vi a1), some (vi a2), none] [] h _ _
  obtain ⟨r, hr⟩ : ∃ r : Option AV, r = some (vi x) := ⟨_, rfl⟩
  obtain ⟨h', hh⟩ : ∃ h' : AH, h' = h := ⟨_, rfl⟩
  have hP : r = some (vi x) ∧ h' = h := ⟨hr, hh⟩
  suffices hS : Ev Γ m_Heath_waterIn 0 [some (vr 3 0 o0), some (vi a1), some (vi a2), none] [] h r h' by rw [hr, hh] at hS; exact hS
  clear hr hh
  unfold f_Heath_waterIn at hx
  refine Ev.blk (pc' := 2) (lv' := [some (vr 3 0 o0), some (vi a1), some (vi a2), none]) (st' := [vi a1, vr 3 0 o0]) (h' := h) 0 2 (Nat.le_of_ble_eq_true rfl) tk_Heath_waterIn rfl rfl ⟨trivial, trivial, trivial⟩ ?_
  obtain ⟨q1, hq1, hx⟩ := bd hx
  refine Ev.callV (ν := m_Heath_hasWater) (av := [vi a1]) (rest := []) (r1 := some (vi q1)) (h1 := h) (ci := 3) (nn := 0) (o := o0) 2 1 tk_Heath_waterIn rfl bb_Heath_hasWater vv_Heath_hasWater lk_3_91 (by decide) rfl rfl (Or.inl rfl) (Nat.le_of_ble_eq_true rfl) (s_Heath_hasWater Γ o0 a1 h _ hq1) ?_
  show Ev Γ m_Heath_waterIn 5 [some (vr 3 0 o0), some (vi a1), some (vi a2), none] [vi q1] h r h'
  refine Ev.if_ne 3 10 tk_Heath_waterIn rfl (by decide) (fun hc2 => ?_) (fun hc2 => ?_)
  · replace hx := ia hc2 hx
    refine Ev.blk (pc' := 12) (lv' := [some (vr 3 0 o0), some (vi a1), some (vi a2), none]) (st' := [vi (ii 2), vi a2]) (h' := h) 6 2 (Nat.le_of_ble_eq_true rfl) tk_Heath_waterIn rfl rfl ⟨trivial, trivial, trivial⟩ ?_
    have K3 : ∀ v3_0 : Int32, v3_0 = (if a2 = (ii 2) then (ii 2) else (a2 &&& (ii 1))) → Ev Γ m_Heath_waterIn 22 [some (vr 3 0 o0), some (vi a1), none, none] [vi v3_0] h r h' := by
      intro v3_0 e4
      subst e4
      obtain ⟨hg5, hx⟩ := gd hx
      refine Ev.blk (pc' := 38) (lv' := [some (vr 3 0 o0), some (vi a1), none, some (vi (if a2 = (ii 2) then (ii 2) else (a2 &&& (ii 1))))]) (st' := [vi ((h.1 (o0 + 1) (a1).toNatClampNeg) + ((if a2 = (ii 2) then (ii 2) else (a2 &&& (ii 1))) * (h.1 o0 7))), vi (ii 99)]) (h' := h) 14 11 (Nat.le_of_ble_eq_true rfl) tk_Heath_waterIn rfl rfl ⟨trivial, trivial, trivial, trivial, trivial, hg5, trivial, trivial, trivial, trivial, trivial, trivial⟩ ?_
      refine Ev.mmin (rest := []) 25 tk_Heath_waterIn rfl lk_3_55 (by decide) (Nat.le_of_ble_eq_true rfl) ?_
      show Ev Γ m_Heath_waterIn 41 [some (vr 3 0 o0), some (vi a1), none, some (vi (if a2 = (ii 2) then (ii 2) else (a2 &&& (ii 1))))] [vi (p_Math_min (ii 99) ((h.1 (o0 + 1) (a1).toNatClampNeg) + ((if a2 = (ii 2) then (ii 2) else (a2 &&& (ii 1))) * (h.1 o0 7))))] h r h'
      obtain rfl := Option.some.inj hx
      obtain ⟨rfl, rfl⟩ := hP
      exact Ev.iret 26 tk_Heath_waterIn rfl rfl
    refine Ev.icmp_ne 8 19 tk_Heath_waterIn rfl (by decide) (fun hc6 => ?_) (fun hc6 => ?_)
    · refine Ev.blk (pc' := 22) (lv' := [some (vr 3 0 o0), some (vi a1), some (vi a2), none]) (st' := [vi (a2 &&& (ii 1))]) (h' := h) 11 3 (Nat.le_of_ble_eq_true rfl) tk_Heath_waterIn rfl rfl ⟨trivial, trivial, trivial, trivial⟩ ?_
      exact Ev.msk [true, true, false, false] (K3 _ (by first | rfl | simp only [if_neg hc6]))
    · refine Ev.blk (pc' := 22) (lv' := [some (vr 3 0 o0), some (vi a1), some (vi a2), none]) (st' := [vi (ii 2)]) (h' := h) 9 2 (Nat.le_of_ble_eq_true rfl) tk_Heath_waterIn rfl rfl ⟨trivial, trivial, trivial⟩ ?_
      exact Ev.msk [true, true, false, false] (K3 _ (by first | rfl | simp only [if_pos hc6]))
  · replace hx := ip hc2 hx
    refine Ev.blk (pc' := 9) (lv' := [some (vr 3 0 o0), some (vi a1), some (vi a2), none]) (st' := [vi (ii (-1))]) (h' := h) 4 1 (Nat.le_of_ble_eq_true rfl) tk_Heath_waterIn rfl rfl ⟨trivial, trivial⟩ ?_
    obtain rfl := Option.some.inj hx
    obtain ⟨rfl, rfl⟩ := hP
    exact Ev.iret 5 tk_Heath_waterIn rfl rfl
set_option maxRecDepth 4000 in
theorem s_Heath_ironIn (Γ : AG) (o0 : Nat) (a1 : Int32) (h : AH) (x : Int32) (hx : f_Heath_ironIn o0 a1 h = some x) : MetA Γ m_Heath_ironIn [vr 3 0 o0, vi a1] h (some (vi x)) h := by
  refine Ev.met rfl rfl (Nat.le_of_ble_eq_true rfl) ?_
  show Ev Γ m_Heath_ironIn 0 [some (vr 3 0 o0), some (vi a1)] [] h _ _
  obtain ⟨r, hr⟩ : ∃ r : Option AV, r = some (vi x) := ⟨_, rfl⟩
  obtain ⟨h', hh⟩ : ∃ h' : AH, h' = h := ⟨_, rfl⟩
  have hP : r = some (vi x) ∧ h' = h := ⟨hr, hh⟩
  suffices hS : Ev Γ m_Heath_ironIn 0 [some (vr 3 0 o0), some (vi a1)] [] h r h' by rw [hr, hh] at hS; exact hS
  clear hr hh
  unfold f_Heath_ironIn at hx
  refine Ev.blk (pc' := 2) (lv' := [some (vr 3 0 o0), some (vi a1)]) (st' := [vi a1, vr 3 0 o0]) (h' := h) 0 2 (Nat.le_of_ble_eq_true rfl) tk_Heath_ironIn rfl rfl ⟨trivial, trivial, trivial⟩ ?_
  refine Ev.callV (ν := m_Heath_isCell) (av := [vi a1]) (rest := []) (r1 := some (vi (p_Heath_isCell o0 a1 h))) (h1 := h) (ci := 3) (nn := 0) (o := o0) 2 1 tk_Heath_ironIn rfl bb_Heath_isCell vv_Heath_isCell lk_3_71 (by decide) rfl rfl (Or.inl rfl) (Nat.le_of_ble_eq_true rfl) (s_Heath_isCell Γ o0 a1 h) ?_
  show Ev Γ m_Heath_ironIn 5 [some (vr 3 0 o0), some (vi a1)] [vi (p_Heath_isCell o0 a1 h)] h r h'
  refine Ev.if_eq 3 17 tk_Heath_ironIn rfl (by decide) (fun hc1 => ?_) (fun hc1 => ?_)
  · replace hx := ip hc1 hx
    refine Ev.blk (pc' := 18) (lv' := [some (vr 3 0 o0), some (vi a1)]) (st' := [vi (ii (-1))]) (h' := h) 9 1 (Nat.le_of_ble_eq_true rfl) tk_Heath_ironIn rfl rfl ⟨trivial, trivial⟩ ?_
    obtain rfl := Option.some.inj hx
    obtain ⟨rfl, rfl⟩ := hP
    exact Ev.iret 10 tk_Heath_ironIn rfl rfl
  · replace hx := ia hc1 hx
    obtain ⟨hg2, hx⟩ := gd hx
    refine Ev.blk (pc' := 18) (lv' := [some (vr 3 0 o0), some (vi a1)]) (st' := [vi (h.1 (o0 + 2) (a1).toNatClampNeg)]) (h' := h) 4 5 (Nat.le_of_ble_eq_true rfl) tk_Heath_ironIn rfl rfl ⟨trivial, trivial, trivial, hg2, trivial, trivial⟩ ?_
    obtain rfl := Option.some.inj hx
    obtain ⟨rfl, rfl⟩ := hP
    exact Ev.iret 10 tk_Heath_ironIn rfl rfl
set_option maxRecDepth 4000 in
theorem s_Heath_rockIn (Γ : AG) (o0 : Nat) (a1 : Int32) (h : AH) (x : Int32) (hx : f_Heath_rockIn o0 a1 h = some x) : MetA Γ m_Heath_rockIn [vr 3 0 o0, vi a1] h (some (vi x)) h := by
  refine Ev.met rfl rfl (Nat.le_of_ble_eq_true rfl) ?_
  show Ev Γ m_Heath_rockIn 0 [some (vr 3 0 o0), some (vi a1)] [] h _ _
  obtain ⟨r, hr⟩ : ∃ r : Option AV, r = some (vi x) := ⟨_, rfl⟩
  obtain ⟨h', hh⟩ : ∃ h' : AH, h' = h := ⟨_, rfl⟩
  have hP : r = some (vi x) ∧ h' = h := ⟨hr, hh⟩
  suffices hS : Ev Γ m_Heath_rockIn 0 [some (vr 3 0 o0), some (vi a1)] [] h r h' by rw [hr, hh] at hS; exact hS
  clear hr hh
  unfold f_Heath_rockIn at hx
  refine Ev.blk (pc' := 2) (lv' := [some (vr 3 0 o0), some (vi a1)]) (st' := [vi a1, vr 3 0 o0]) (h' := h) 0 2 (Nat.le_of_ble_eq_true rfl) tk_Heath_rockIn rfl rfl ⟨trivial, trivial, trivial⟩ ?_
  refine Ev.callV (ν := m_Heath_isCell) (av := [vi a1]) (rest := []) (r1 := some (vi (p_Heath_isCell o0 a1 h))) (h1 := h) (ci := 3) (nn := 0) (o := o0) 2 1 tk_Heath_rockIn rfl bb_Heath_isCell vv_Heath_isCell lk_3_71 (by decide) rfl rfl (Or.inl rfl) (Nat.le_of_ble_eq_true rfl) (s_Heath_isCell Γ o0 a1 h) ?_
  show Ev Γ m_Heath_rockIn 5 [some (vr 3 0 o0), some (vi a1)] [vi (p_Heath_isCell o0 a1 h)] h r h'
  refine Ev.if_eq 3 17 tk_Heath_rockIn rfl (by decide) (fun hc1 => ?_) (fun hc1 => ?_)
  · replace hx := ip hc1 hx
    refine Ev.blk (pc' := 18) (lv' := [some (vr 3 0 o0), some (vi a1)]) (st' := [vi (ii 0)]) (h' := h) 9 1 (Nat.le_of_ble_eq_true rfl) tk_Heath_rockIn rfl rfl ⟨trivial, trivial⟩ ?_
    obtain rfl := Option.some.inj hx
    obtain ⟨rfl, rfl⟩ := hP
    exact Ev.iret 10 tk_Heath_rockIn rfl rfl
  · replace hx := ia hc1 hx
    obtain ⟨hg2, hx⟩ := gd hx
    refine Ev.blk (pc' := 18) (lv' := [some (vr 3 0 o0), some (vi a1)]) (st' := [vi (h.1 (o0 + 3) (a1).toNatClampNeg)]) (h' := h) 4 5 (Nat.le_of_ble_eq_true rfl) tk_Heath_rockIn rfl rfl ⟨trivial, trivial, trivial, hg2, trivial, trivial⟩ ?_
    obtain rfl := Option.some.inj hx
    obtain ⟨rfl, rfl⟩ := hP
    exact Ev.iret 10 tk_Heath_rockIn rfl rfl
set_option maxRecDepth 4000 in
theorem s_Moor_sunkTo (Γ : AG) (o0 : Nat) (a1 : Int32) (h : AH) (x : Int32) (hx : f_Moor_sunkTo o0 a1 h = some x) : MetA Γ m_Moor_sunkTo [vr 8 0 o0, vi a1] h (some (vi x)) h := by
  refine Ev.met rfl rfl (Nat.le_of_ble_eq_true rfl) ?_
  show Ev Γ m_Moor_sunkTo 0 [some (vr 8 0 o0), some (vi a1)] [] h _ _
  obtain ⟨r, hr⟩ : ∃ r : Option AV, r = some (vi x) := ⟨_, rfl⟩
  obtain ⟨h', hh⟩ : ∃ h' : AH, h' = h := ⟨_, rfl⟩
  have hP : r = some (vi x) ∧ h' = h := ⟨hr, hh⟩
  suffices hS : Ev Γ m_Moor_sunkTo 0 [some (vr 8 0 o0), some (vi a1)] [] h r h' by rw [hr, hh] at hS; exact hS
  clear hr hh
  unfold f_Moor_sunkTo at hx
  refine Ev.blk (pc' := 1) (lv' := [some (vr 8 0 o0), some (vi a1)]) (st' := [vi a1]) (h' := h) 0 1 (Nat.le_of_ble_eq_true rfl) tk_Moor_sunkTo rfl rfl ⟨trivial, trivial⟩ ?_
  refine Ev.if_lt 1 19 tk_Moor_sunkTo rfl (by decide) (fun hc1 => ?_) (fun hc1 => ?_)
  · replace hx := ip hc1 hx
    refine Ev.blk (pc' := 20) (lv' := [some (vr 8 0 o0), some (vi a1)]) (st' := [vi (ii 0)]) (h' := h) 10 1 (Nat.le_of_ble_eq_true rfl) tk_Moor_sunkTo rfl rfl ⟨trivial, trivial⟩ ?_
    obtain rfl := Option.some.inj hx
    obtain ⟨rfl, rfl⟩ := hP
    exact Ev.iret 11 tk_Moor_sunkTo rfl rfl
  · replace hx := ia hc1 hx
    refine Ev.blk (pc' := 7) (lv' := [some (vr 8 0 o0), some (vi a1)]) (st' := [vi (ii 30), vi a1]) (h' := h) 2 2 (Nat.le_of_ble_eq_true rfl) tk_Moor_sunkTo rfl rfl ⟨trivial, trivial, trivial⟩ ?_
    refine Ev.icmp_ge 4 19 tk_Moor_sunkTo rfl (by decide) (fun hc2 => ?_) (fun hc2 => ?_)
    · replace hx := ip hc2 hx
      refine Ev.blk (pc' := 20) (lv' := [some (vr 8 0 o0), some (vi a1)]) (st' := [vi (ii 0)]) (h' := h) 10 1 (Nat.le_of_ble_eq_true rfl) tk_Moor_sunkTo rfl rfl ⟨trivial, trivial⟩ ?_
      obtain rfl := Option.some.inj hx
      obtain ⟨rfl, rfl⟩ := hP
      exact Ev.iret 11 tk_Moor_sunkTo rfl rfl
    · replace hx := ia hc2 hx
      obtain ⟨hg3, hx⟩ := gd hx
      refine Ev.blk (pc' := 20) (lv' := [some (vr 8 0 o0), some (vi a1)]) (st' := [vi (h.1 (o0 + 5) (a1).toNatClampNeg)]) (h' := h) 5 5 (Nat.le_of_ble_eq_true rfl) tk_Moor_sunkTo rfl rfl ⟨trivial, trivial, trivial, hg3, trivial, trivial⟩ ?_
      obtain rfl := Option.some.inj hx
      obtain ⟨rfl, rfl⟩ := hP
      exact Ev.iret 11 tk_Moor_sunkTo rfl rfl
set_option maxRecDepth 4000 in
theorem s_HF_cell (Γ : AG) (a1 : Int32) (a2 : Int32) (h : AH) (x : Int32) (hx : f_HF_cell a1 a2 h = some x) : MetA Γ m_HF_cell [vr 0 0 0, vi a1, vi a2] h (some (vi x)) h := by
  refine Ev.met rfl rfl (Nat.le_of_ble_eq_true rfl) ?_
  show Ev Γ m_HF_cell 0 [some (vr 0 0 0), some (vi a1), some (vi a2)] [] h _ _
  obtain ⟨r, hr⟩ : ∃ r : Option AV, r = some (vi x) := ⟨_, rfl⟩
  obtain ⟨h', hh⟩ : ∃ h' : AH, h' = h := ⟨_, rfl⟩
  have hP : r = some (vi x) ∧ h' = h := ⟨hr, hh⟩
  suffices hS : Ev Γ m_HF_cell 0 [some (vr 0 0 0), some (vi a1), some (vi a2)] [] h r h' by rw [hr, hh] at hS; exact hS
  clear hr hh
  unfold f_HF_cell at hx
  refine Ev.blk (pc' := 5) (lv' := [some (vr 0 0 0), some (vi a1), some (vi a2)]) (st' := [vi a1, vr 3 0 (h.2.2 0 13)]) (h' := h) 0 3 (Nat.le_of_ble_eq_true rfl) tk_HF_cell rfl rfl ⟨trivial, trivial, trivial, trivial⟩ ?_
  refine Ev.callV (ν := m_Heath_isCell) (av := [vi a1]) (rest := []) (r1 := some (vi (p_Heath_isCell (h.2.2 0 13) a1 h))) (h1 := h) (ci := 3) (nn := 0) (o := (h.2.2 0 13)) 3 1 tk_HF_cell rfl bb_Heath_isCell vv_Heath_isCell lk_0_153 (by decide) rfl rfl (Or.inl rfl) (Nat.le_of_ble_eq_true rfl) (s_Heath_isCell Γ (h.2.2 0 13) a1 h) ?_
  show Ev Γ m_HF_cell 8 [some (vr 0 0 0), some (vi a1), some (vi a2)] [vi (p_Heath_isCell (h.2.2 0 13) a1 h)] h r h'
  refine Ev.if_ne 4 13 tk_HF_cell rfl (by decide) (fun hc1 => ?_) (fun hc1 => ?_)
  · replace hx := ia hc1 hx
    refine Ev.blk (pc' := 14) (lv' := [some (vr 0 0 0), some (vi a1), some (vi a2)]) (st' := [vi a2]) (h' := h) 7 1 (Nat.le_of_ble_eq_true rfl) tk_HF_cell rfl rfl ⟨trivial, trivial⟩ ?_
    by_cases hc2 : a2 = ii 0
    · replace hx := ip hc2 hx
      refine Ev.tabIn (off := 34) 8 48 0 tk_HF_cell rfl hc2 (by decide) (by decide) ?_
      refine Ev.blk (pc' := 60) (lv' := [some (vr 0 0 0), some (vi a1), some (vi a2)]) (st' := [vi (h.1 13 8), vi a1, vr 3 0 (h.2.2 0 13)]) (h' := h) 9 6 (Nat.le_of_ble_eq_true rfl) tk_HF_cell rfl rfl ⟨trivial, trivial, trivial, trivial, trivial, trivial, trivial⟩ ?_
      obtain ⟨q1, hq3, hx⟩ := bd hx
      refine Ev.callV (ν := m_Heath_waterIn) (av := [vi a1, vi (h.1 13 8)]) (rest := []) (r1 := some (vi q1)) (h1 := h) (ci := 3) (nn := 0) (o := (h.2.2 0 13)) 15 2 tk_HF_cell rfl bb_Heath_waterIn vv_Heath_waterIn lk_0_160 (by decide) rfl rfl (Or.inl rfl) (Nat.le_of_ble_eq_true rfl) (s_Heath_waterIn Γ (h.2.2 0 13) a1 (h.1 13 8) h _ hq3) ?_
      show Ev Γ m_HF_cell 63 [some (vr 0 0 0), some (vi a1), some (vi a2)] [vi q1] h r h'
      obtain rfl := Option.some.inj hx
      obtain ⟨rfl, rfl⟩ := hP
      exact Ev.iret 16 tk_HF_cell rfl rfl
    replace hx := ia hc2 hx
    by_cases hc4 : a2 = ii 1
    · replace hx := ip hc4 hx
      refine Ev.tabIn (off := 50) 8 64 1 tk_HF_cell rfl hc4 (by decide) (by decide) ?_
      refine Ev.blk (pc' := 69) (lv' := [some (vr 0 0 0), some (vi a1), some (vi a2)]) (st' := [vi a1, vr 3 0 (h.2.2 0 13)]) (h' := h) 17 3 (Nat.le_of_ble_eq_true rfl) tk_HF_cell rfl rfl ⟨trivial, trivial, trivial, trivial⟩ ?_
      obtain ⟨q2, hq5, hx⟩ := bd hx
      refine Ev.callV (ν := m_Heath_ironIn) (av := [vi a1]) (rest := []) (r1 := some (vi q2)) (h1 := h) (ci := 3) (nn := 0) (o := (h.2.2 0 13)) 20 1 tk_HF_cell rfl bb_Heath_ironIn vv_Heath_ironIn lk_0_164 (by decide) rfl rfl (Or.inl rfl) (Nat.le_of_ble_eq_true rfl) (s_Heath_ironIn Γ (h.2.2 0 13) a1 h _ hq5) ?_
      show Ev Γ m_HF_cell 72 [some (vr 0 0 0), some (vi a1), some (vi a2)] [vi q2] h r h'
      obtain rfl := Option.some.inj hx
      obtain ⟨rfl, rfl⟩ := hP
      exact Ev.iret 21 tk_HF_cell rfl rfl
    replace hx := ia hc4 hx
    by_cases hc6 : a2 = ii 2
    · replace hx := ip hc6 hx
      refine Ev.tabIn (off := 59) 8 73 2 tk_HF_cell rfl hc6 (by decide) (by decide) ?_
      refine Ev.blk (pc' := 78) (lv' := [some (vr 0 0 0), some (vi a1), some (vi a2)]) (st' := [vi a1, vr 3 0 (h.2.2 0 13)]) (h' := h) 22 3 (Nat.le_of_ble_eq_true rfl) tk_HF_cell rfl rfl ⟨trivial, trivial, trivial, trivial⟩ ?_
      obtain ⟨q3, hq7, hx⟩ := bd hx
      refine Ev.callV (ν := m_Heath_rockIn) (av := [vi a1]) (rest := []) (r1 := some (vi q3)) (h1 := h) (ci := 3) (nn := 0) (o := (h.2.2 0 13)) 25 1 tk_HF_cell rfl bb_Heath_rockIn vv_Heath_rockIn lk_0_167 (by decide) rfl rfl (Or.inl rfl) (Nat.le_of_ble_eq_true rfl) (s_Heath_rockIn Γ (h.2.2 0 13) a1 h _ hq7) ?_
      show Ev Γ m_HF_cell 81 [some (vr 0 0 0), some (vi a1), some (vi a2)] [vi q3] h r h'
      obtain rfl := Option.some.inj hx
      obtain ⟨rfl, rfl⟩ := hP
      exact Ev.iret 26 tk_HF_cell rfl rfl
    replace hx := ia hc6 hx
    by_cases hc8 : a2 = ii 3
    · replace hx := ip hc8 hx
      refine Ev.tabIn (off := 68) 8 82 3 tk_HF_cell rfl hc8 (by decide) (by decide) ?_
      refine Ev.blk (pc' := 90) (lv' := [some (vr 0 0 0), some (vi a1), some (vi a2)]) (st' := [vi a1, vi (h.1 13 6)]) (h' := h) 27 4 (Nat.le_of_ble_eq_true rfl) tk_HF_cell rfl rfl ⟨trivial, trivial, trivial, trivial, trivial⟩ ?_
      refine Ev.callS (ν := m_HF_holds) (av := [vi (h.1 13 6), vi a1]) (rest := []) (r1 := some (vi (p_HF_holds (h.1 13 6) a1))) (h1 := h) 31 2 tk_HF_cell rfl bb_HF_holds vv_HF_holds lk_0_173 (by decide) rfl rfl (Nat.le_of_ble_eq_true rfl) (s_HF_holds Γ (h.1 13 6) a1 h) ?_
      show Ev Γ m_HF_cell 93 [some (vr 0 0 0), some (vi a1), some (vi a2)] [vi (p_HF_holds (h.1 13 6) a1)] h r h'
      refine Ev.if_eq 32 100 tk_HF_cell rfl (by decide) (fun hc9 => ?_) (fun hc9 => ?_)
      · replace hx := ip hc9 hx
        refine Ev.blk (pc' := 101) (lv' := [some (vr 0 0 0), some (vi a1), some (vi a2)]) (st' := [vi (ii 0)]) (h' := h) 35 1 (Nat.le_of_ble_eq_true rfl) tk_HF_cell rfl rfl ⟨trivial, trivial⟩ ?_
        obtain rfl := Option.some.inj hx
        obtain ⟨rfl, rfl⟩ := hP
        exact Ev.iret 36 tk_HF_cell rfl rfl
      · replace hx := ia hc9 hx
        refine Ev.blk (pc' := 101) (lv' := [some (vr 0 0 0), some (vi a1), some (vi a2)]) (st' := [vi (ii 1)]) (h' := h) 33 2 (Nat.le_of_ble_eq_true rfl) tk_HF_cell rfl rfl ⟨trivial, trivial, trivial⟩ ?_
        obtain rfl := Option.some.inj hx
        obtain ⟨rfl, rfl⟩ := hP
        exact Ev.iret 36 tk_HF_cell rfl rfl
    replace hx := ia hc8 hx
    by_cases hc10 : a2 = ii 4
    · replace hx := ip hc10 hx
      refine Ev.tabIn (off := 88) 8 102 4 tk_HF_cell rfl hc10 (by decide) (by decide) ?_
      refine Ev.blk (pc' := 107) (lv' := [some (vr 0 0 0), some (vi a1), some (vi a2)]) (st' := [vi a1, vr 8 0 13]) (h' := h) 37 3 (Nat.le_of_ble_eq_true rfl) tk_HF_cell rfl rfl ⟨trivial, trivial, trivial, trivial⟩ ?_
      obtain ⟨q4, hq11, hx⟩ := bd hx
      refine Ev.callV (ν := m_Moor_sunkTo) (av := [vi a1]) (rest := []) (r1 := some (vi q4)) (h1 := h) (ci := 8) (nn := 0) (o := 13) 40 1 tk_HF_cell rfl bb_Moor_sunkTo vv_Moor_sunkTo lk_0_177 (by decide) rfl rfl (Or.inl rfl) (Nat.le_of_ble_eq_true rfl) (s_Moor_sunkTo Γ 13 a1 h _ hq11) ?_
      show Ev Γ m_HF_cell 110 [some (vr 0 0 0), some (vi a1), some (vi a2)] [vi q4] h r h'
      obtain rfl := Option.some.inj hx
      obtain ⟨rfl, rfl⟩ := hP
      exact Ev.iret 41 tk_HF_cell rfl rfl
    replace hx := ia hc10 hx
    refine Ev.tabOut 8 111 5 tk_HF_cell rfl (by decide) (fun k hk => ?_) (by decide) ?_
    · rcases (show k = 0 ∨ k = 1 ∨ k = 2 ∨ k = 3 ∨ k = 4 by omega) with rfl | rfl | rfl | rfl | rfl
      · exact hc2
      · exact hc4
      · exact hc6
      · exact hc8
      · exact hc10
    · refine Ev.blk (pc' := 112) (lv' := [some (vr 0 0 0), some (vi a1), some (vi a2)]) (st' := [vi (ii (-1))]) (h' := h) 42 1 (Nat.le_of_ble_eq_true rfl) tk_HF_cell rfl rfl ⟨trivial, trivial⟩ ?_
      obtain rfl := Option.some.inj hx
      obtain ⟨rfl, rfl⟩ := hP
      exact Ev.iret 43 tk_HF_cell rfl rfl
  · replace hx := ip hc1 hx
    refine Ev.blk (pc' := 12) (lv' := [some (vr 0 0 0), some (vi a1), some (vi a2)]) (st' := [vi (ii (-1))]) (h' := h) 5 1 (Nat.le_of_ble_eq_true rfl) tk_HF_cell rfl rfl ⟨trivial, trivial⟩ ?_
    obtain rfl := Option.some.inj hx
    obtain ⟨rfl, rfl⟩ := hP
    exact Ev.iret 6 tk_HF_cell rfl rfl
set_option maxRecDepth 4000 in
theorem s_HF_law (Γ : AG) (a1 : Int32) (h : AH) (x : Int32 × AH) (hx : f_HF_law a1 h = some x) : MetA Γ m_HF_law [vr 0 0 0, vi a1] h (some (vi x.1)) x.2 := by
  refine Ev.met rfl rfl (Nat.le_of_ble_eq_true rfl) ?_
  show Ev Γ m_HF_law 0 [some (vr 0 0 0), some (vi a1)] [] h _ _
  obtain ⟨r, hr⟩ : ∃ r : Option AV, r = some (vi x.1) := ⟨_, rfl⟩
  obtain ⟨h', hh⟩ : ∃ h' : AH, h' = x.2 := ⟨_, rfl⟩
  have hP : r = some (vi x.1) ∧ h' = x.2 := ⟨hr, hh⟩
  suffices hS : Ev Γ m_HF_law 0 [some (vr 0 0 0), some (vi a1)] [] h r h' by rw [hr, hh] at hS; exact hS
  clear hr hh
  unfold f_HF_law at hx
  refine Ev.blk (pc' := 2) (lv' := [some (vr 0 0 0), some (vi a1)]) (st' := [vi (ii (-1)), vi a1]) (h' := h) 0 2 (Nat.le_of_ble_eq_true rfl) tk_HF_law rfl rfl ⟨trivial, trivial, trivial⟩ ?_
  refine Ev.icmp_lt 2 13 tk_HF_law rfl (by decide) (fun hc1 => ?_) (fun hc1 => ?_)
  · replace hx := ip hc1 hx
    refine Ev.blk (pc' := 14) (lv' := [some (vr 0 0 0), some (vi a1)]) (st' := [vi (ii 0)]) (h' := h) 7 1 (Nat.le_of_ble_eq_true rfl) tk_HF_law rfl rfl ⟨trivial, trivial⟩ ?_
    obtain rfl := Option.some.inj hx
    obtain ⟨rfl, rfl⟩ := hP
    exact Ev.zret 8 tk_HF_law rfl rfl rfl
  · replace hx := ia hc1 hx
    refine Ev.blk (pc' := 10) (lv' := [some (vr 0 0 0), some (vi a1)]) (st' := [vi (h.1 0 14), vi a1]) (h' := h) 3 3 (Nat.le_of_ble_eq_true rfl) tk_HF_law rfl rfl ⟨trivial, trivial, trivial, trivial⟩ ?_
    refine Ev.icmp_lt 6 15 tk_HF_law rfl (by decide) (fun hc2 => ?_) (fun hc2 => ?_)
    · replace hx := ip hc2 hx
      refine Ev.blk (pc' := 21) (lv' := [some (vr 0 0 0), some (vi a1)]) (st' := [vi (ii 1)]) (h' := (wI h 0 16 a1)) 9 4 (Nat.le_of_ble_eq_true rfl) tk_HF_law rfl rfl ⟨trivial, trivial, trivial, trivial, trivial⟩ ?_
      obtain rfl := Option.some.inj hx
      obtain ⟨rfl, rfl⟩ := hP
      exact Ev.zret 13 tk_HF_law rfl rfl rfl
    · replace hx := ia hc2 hx
      refine Ev.blk (pc' := 14) (lv' := [some (vr 0 0 0), some (vi a1)]) (st' := [vi (ii 0)]) (h' := h) 7 1 (Nat.le_of_ble_eq_true rfl) tk_HF_law rfl rfl ⟨trivial, trivial⟩ ?_
      obtain rfl := Option.some.inj hx
      obtain ⟨rfl, rfl⟩ := hP
      exact Ev.zret 8 tk_HF_law rfl rfl rfl
set_option maxRecDepth 4000 in
theorem s_HF_plainTwitch (Γ : AG) (o1 : Nat) (a2 : Int32) (a3 : Int32) (h : AH) (x : Int32) (hx : f_HF_plainTwitch o1 a2 a3 h = some x) : MetA Γ m_HF_plainTwitch [vr 0 0 0, vr 8 0 o1, vi a2, vi a3] h (some (vi x)) h := by
  refine Ev.met rfl rfl (Nat.le_of_ble_eq_true rfl) ?_
  show Ev Γ m_HF_plainTwitch 0 [some (vr 0 0 0), some (vr 8 0 o1), some (vi a2), some (vi a3), none, none, none] [] h _ _
  obtain ⟨r, hr⟩ : ∃ r : Option AV, r = some (vi x) := ⟨_, rfl⟩
  obtain ⟨h', hh⟩ : ∃ h' : AH, h' = h := ⟨_, rfl⟩
  have hP : r = some (vi x) ∧ h' = h := ⟨hr, hh⟩
  suffices hS : Ev Γ m_HF_plainTwitch 0 [some (vr 0 0 0), some (vr 8 0 o1), some (vi a2), some (vi a3), none, none, none] [] h r h' by rw [hr, hh] at hS; exact hS
  clear hr hh
  unfold f_HF_plainTwitch at hx
  refine Ev.blk (pc' := 12) (lv' := [some (vr 0 0 0), some (vr 8 0 o1), some (vi a2), some (vi a3), some (vi (ii 0)), none, none]) (st' := [vi (h.1 o1 8), vi a3, vr 3 0 (h.2.2 0 13)]) (h' := h) 0 7 (Nat.le_of_ble_eq_true rfl) tk_HF_plainTwitch rfl rfl ⟨trivial, trivial, trivial, trivial, trivial, trivial, trivial, trivial⟩ ?_
  obtain ⟨q1, hq1, hx⟩ := bd hx
  refine Ev.callV (ν := m_Heath_waterIn) (av := [vi a3, vi (h.1 o1 8)]) (rest := []) (r1 := some (vi q1)) (h1 := h) (ci := 3) (nn := 0) (o := (h.2.2 0 13)) 7 2 tk_HF_plainTwitch rfl bb_Heath_waterIn vv_Heath_waterIn lk_0_160 (by decide) rfl rfl (Or.inl rfl) (Nat.le_of_ble_eq_true rfl) (s_Heath_waterIn Γ (h.2.2 0 13) a3 (h.1 o1 8) h _ hq1) ?_
  show Ev Γ m_HF_plainTwitch 15 [some (vr 0 0 0), some (vr 8 0 o1), some (vi a2), some (vi a3), some (vi (ii 0)), none, none] [vi q1] h r h'
  refine Ev.blk (pc' := 20) (lv' := [some (vr 0 0 0), some (vr 8 0 o1), some (vi a2), some (vi a3), some (vi (ii 0)), some (vi q1), none]) (st' := [vi (ii (-1)), vi q1]) (h' := h) 8 3 (Nat.le_of_ble_eq_true rfl) tk_HF_plainTwitch rfl rfl ⟨trivial, trivial, trivial, trivial⟩ ?_
  obtain ⟨q3, hq2, hx⟩ := bd hx
  have K3 : Ev Γ m_HF_plainTwitch 44 [some (vr 0 0 0), none, some (vi a2), some (vi a3), some (vi q3), none, none] [] h r h' := by
    refine Ev.blk (pc' := 49) (lv' := [some (vr 0 0 0), none, some (vi a2), some (vi a3), some (vi q3), none, none]) (st' := [vi a3, vr 3 0 (h.2.2 0 13)]) (h' := h) 24 3 (Nat.le_of_ble_eq_true rfl) tk_HF_plainTwitch rfl rfl ⟨trivial, trivial, trivial, trivial⟩ ?_
    obtain ⟨q4, hq4, hx⟩ := bd hx
    refine Ev.callV (ν := m_Heath_ironIn) (av := [vi a3]) (rest := []) (r1 := some (vi q4)) (h1 := h) (ci := 3) (nn := 0) (o := (h.2.2 0 13)) 27 1 tk_HF_plainTwitch rfl bb_Heath_ironIn vv_Heath_ironIn lk_0_164 (by decide) rfl rfl (Or.inl rfl) (Nat.le_of_ble_eq_true rfl) (s_Heath_ironIn Γ (h.2.2 0 13) a3 h _ hq4) ?_
    show Ev Γ m_HF_plainTwitch 52 [some (vr 0 0 0), none, some (vi a2), some (vi a3), some (vi q3), none, none] [vi q4] h r h'
    refine Ev.blk (pc' := 57) (lv' := [some (vr 0 0 0), none, some (vi a2), some (vi a3), some (vi q3), none, some (vi q4)]) (st' := [vi (ii (-1)), vi q4]) (h' := h) 28 3 (Nat.le_of_ble_eq_true rfl) tk_HF_plainTwitch rfl rfl ⟨trivial, trivial, trivial, trivial⟩ ?_
    obtain ⟨q6, hq5, hx⟩ := bd hx
    have K6 : Ev Γ m_HF_plainTwitch 83 [some (vr 0 0 0), none, some (vi a2), some (vi a3), some (vi q6), none, none] [] h r h' := by
      refine Ev.blk (pc' := 89) (lv' := [some (vr 0 0 0), none, some (vi a2), some (vi a3), some (vi q6), none, none]) (st' := [vi (ii 3), vi a2, vr 3 0 (h.2.2 0 13)]) (h' := h) 43 4 (Nat.le_of_ble_eq_true rfl) tk_HF_plainTwitch rfl rfl ⟨trivial, trivial, trivial, trivial, trivial⟩ ?_
      obtain ⟨q7, hq7, hx⟩ := bd hx
      refine Ev.callV (ν := m_Heath_trait) (av := [vi a2, vi (ii 3)]) (rest := []) (r1 := some (vi q7)) (h1 := h) (ci := 3) (nn := 0) (o := (h.2.2 0 13)) 47 2 tk_HF_plainTwitch rfl bb_Heath_trait vv_Heath_trait lk_0_196 (by decide) rfl rfl (Or.inl rfl) (Nat.le_of_ble_eq_true rfl) (s_Heath_trait Γ (h.2.2 0 13) a2 (ii 3) h _ hq7) ?_
      show Ev Γ m_HF_plainTwitch 92 [some (vr 0 0 0), none, some (vi a2), some (vi a3), some (vi q6), none, none] [vi q7] h r h'
      refine Ev.blk (pc' := 93) (lv' := [some (vr 0 0 0), none, some (vi a2), some (vi a3), some (vi q6), none, none]) (st' := [vi a3, vi q7]) (h' := h) 48 1 (Nat.le_of_ble_eq_true rfl) tk_HF_plainTwitch rfl rfl ⟨trivial, trivial⟩ ?_
      have K8 : ∀ v8_0 : Int32, v8_0 = (if q7 = a3 then (p_Math_max q6 (ii 5)) else q6) → Ev Γ m_HF_plainTwitch 104 [none, none, none, none, some (vi v8_0), none, none] [] h r h' := by
        intro v8_0 e9
        subst e9
        refine Ev.blk (pc' := 106) (lv' := [none, none, none, none, some (vi (if q7 = a3 then (p_Math_max q6 (ii 5)) else q6)), none, none]) (st' := [vi (if q7 = a3 then (p_Math_max q6 (ii 5)) else q6)]) (h' := h) 54 1 (Nat.le_of_ble_eq_true rfl) tk_HF_plainTwitch rfl rfl ⟨trivial, trivial⟩ ?_
        obtain rfl := Option.some.inj hx
        obtain ⟨rfl, rfl⟩ := hP
        exact Ev.iret 55 tk_HF_plainTwitch rfl rfl
      refine Ev.icmp_ne 49 104 tk_HF_plainTwitch rfl (by decide) (fun hc10 => ?_) (fun hc10 => ?_)
      · exact Ev.msk [false, false, false, false, true, false, false] (K8 _ (by first | rfl | simp only [if_neg hc10]))
      · refine Ev.blk (pc' := 99) (lv' := [some (vr 0 0 0), none, some (vi a2), some (vi a3), some (vi q6), none, none]) (st' := [vi (ii 5), vi q6]) (h' := h) 50 2 (Nat.le_of_ble_eq_true rfl) tk_HF_plainTwitch rfl rfl ⟨trivial, trivial, trivial⟩ ?_
        refine Ev.mmax (rest := []) 52 tk_HF_plainTwitch rfl lk_0_447 (by decide) (Nat.le_of_ble_eq_true rfl) ?_
        show Ev Γ m_HF_plainTwitch 102 [some (vr 0 0 0), none, some (vi a2), some (vi a3), some (vi q6), none, none] [vi (p_Math_max q6 (ii 5))] h r h'
        refine Ev.blk (pc' := 104) (lv' := [some (vr 0 0 0), none, some (vi a2), some (vi a3), some (vi (p_Math_max q6 (ii 5))), none, none]) (st' := []) (h' := h) 53 1 (Nat.le_of_ble_eq_true rfl) tk_HF_plainTwitch rfl rfl ⟨trivial, trivial⟩ ?_
        exact Ev.msk [false, false, false, false, true, false, false] (K8 _ (by first | rfl | simp only [if_pos hc10]))
    clear hx
    refine Ev.icmp_eq 31 83 tk_HF_plainTwitch rfl (by decide) (fun hc11 => ?_) (fun hc11 => ?_)
    · replace hq5 := ip hc11 hq5
      obtain rfl := Option.some.inj hq5
      exact Ev.msk [true, false, true, true, true, false, false] K6
    · replace hq5 := ia hc11 hq5
      refine Ev.blk (pc' := 68) (lv' := [some (vr 0 0 0), none, some (vi a2), some (vi a3), some (vi q3), none, some (vi q4)]) (st' := [vi (ii 2), vi a2, vr 3 0 (h.2.2 0 13), vi q4]) (h' := h) 32 5 (Nat.le_of_ble_eq_true rfl) tk_HF_plainTwitch rfl rfl ⟨trivial, trivial, trivial, trivial, trivial, trivial⟩ ?_
      obtain ⟨q5, hq12, hq5⟩ := bd hq5
      refine Ev.callV (ν := m_Heath_trait) (av := [vi a2, vi (ii 2)]) (rest := [vi q4]) (r1 := some (vi q5)) (h1 := h) (ci := 3) (nn := 0) (o := (h.2.2 0 13)) 37 2 tk_HF_plainTwitch rfl bb_Heath_trait vv_Heath_trait lk_0_196 (by decide) rfl rfl (Or.inl rfl) (Nat.le_of_ble_eq_true rfl) (s_Heath_trait Γ (h.2.2 0 13) a2 (ii 2) h _ hq12) ?_
      show Ev Γ m_HF_plainTwitch 71 [some (vr 0 0 0), none, some (vi a2), some (vi a3), some (vi q3), none, some (vi q4)] [vi q5, vi q4] h r h'
      refine Ev.icmp_gt 38 83 tk_HF_plainTwitch rfl (by decide) (fun hc13 => ?_) (fun hc13 => ?_)
      · replace hq5 := ip hc13 hq5
        obtain rfl := Option.some.inj hq5
        exact Ev.msk [true, false, true, true, true, false, false] K6
      · replace hq5 := ia hc13 hq5
        refine Ev.blk (pc' := 78) (lv' := [some (vr 0 0 0), none, some (vi a2), some (vi a3), some (vi q3), none, some (vi q4)]) (st' := [vi (ii 10), vi q3]) (h' := h) 39 2 (Nat.le_of_ble_eq_true rfl) tk_HF_plainTwitch rfl rfl ⟨trivial, trivial, trivial⟩ ?_
        refine Ev.mmax (rest := []) 41 tk_HF_plainTwitch rfl lk_0_447 (by decide) (Nat.le_of_ble_eq_true rfl) ?_
        show Ev Γ m_HF_plainTwitch 81 [some (vr 0 0 0), none, some (vi a2), some (vi a3), some (vi q3), none, some (vi q4)] [vi (p_Math_max q3 (ii 10))] h r h'
        refine Ev.blk (pc' := 83) (lv' := [some (vr 0 0 0), none, some (vi a2), some (vi a3), some (vi (p_Math_max q3 (ii 10))), none, some (vi q4)]) (st' := []) (h' := h) 42 1 (Nat.le_of_ble_eq_true rfl) tk_HF_plainTwitch rfl rfl ⟨trivial, trivial⟩ ?_
        obtain rfl := Option.some.inj hq5
        exact Ev.msk [true, false, true, true, true, false, false] K6
  clear hx
  refine Ev.icmp_eq 11 44 tk_HF_plainTwitch rfl (by decide) (fun hc14 => ?_) (fun hc14 => ?_)
  · replace hq2 := ip hc14 hq2
    obtain rfl := Option.some.inj hq2
    exact Ev.msk [true, false, true, true, true, false, false] K3
  · replace hq2 := ia hc14 hq2
    refine Ev.blk (pc' := 31) (lv' := [some (vr 0 0 0), some (vr 8 0 o1), some (vi a2), some (vi a3), some (vi (ii 0)), some (vi q1), none]) (st' := [vi (ii 1), vi a2, vr 3 0 (h.2.2 0 13), vi (ii 0)]) (h' := h) 12 5 (Nat.le_of_ble_eq_true rfl) tk_HF_plainTwitch rfl rfl ⟨trivial, trivial, trivial, trivial, trivial, trivial⟩ ?_
    obtain ⟨q2, hq15, hq2⟩ := bd hq2
    refine Ev.callV (ν := m_Heath_trait) (av := [vi a2, vi (ii 1)]) (rest := [vi (ii 0)]) (r1 := some (vi q2)) (h1 := h) (ci := 3) (nn := 0) (o := (h.2.2 0 13)) 17 2 tk_HF_plainTwitch rfl bb_Heath_trait vv_Heath_trait lk_0_196 (by decide) rfl rfl (Or.inl rfl) (Nat.le_of_ble_eq_true rfl) (s_Heath_trait Γ (h.2.2 0 13) a2 (ii 1) h _ hq15) ?_
    show Ev Γ m_HF_plainTwitch 34 [some (vr 0 0 0), some (vr 8 0 o1), some (vi a2), some (vi a3), some (vi (ii 0)), some (vi q1), none] [vi q2, vi (ii 0)] h r h'
    refine Ev.blk (pc' := 39) (lv' := [some (vr 0 0 0), some (vr 8 0 o1), some (vi a2), some (vi a3), some (vi (ii 0)), some (vi q1), none]) (st' := [vi ((q2 - q1) + (ii 1)), vi (ii 0)]) (h' := h) 18 4 (Nat.le_of_ble_eq_true rfl) tk_HF_plainTwitch rfl rfl ⟨trivial, trivial, trivial, trivial, trivial⟩ ?_
    refine Ev.mmax (rest := []) 22 tk_HF_plainTwitch rfl lk_0_447 (by decide) (Nat.le_of_ble_eq_true rfl) ?_
    show Ev Γ m_HF_plainTwitch 42 [some (vr 0 0 0), some (vr 8 0 o1), some (vi a2), some (vi a3), some (vi (ii 0)), some (vi q1), none] [vi (p_Math_max (ii 0) ((q2 - q1) + (ii 1)))] h r h'
    refine Ev.blk (pc' := 44) (lv' := [some (vr 0 0 0), some (vr 8 0 o1), some (vi a2), some (vi a3), some (vi (p_Math_max (ii 0) ((q2 - q1) + (ii 1)))), some (vi q1), none]) (st' := []) (h' := h) 23 1 (Nat.le_of_ble_eq_true rfl) tk_HF_plainTwitch rfl rfl ⟨trivial, trivial⟩ ?_
    obtain rfl := Option.some.inj hq2
    exact Ev.msk [true, false, true, true, true, false, false] K3
set_option maxRecDepth 4000 in
theorem s_Moor_placeOf (Γ : AG) (o0 : Nat) (a1 : Int32) (h : AH) (x : Int32) (hx : f_Moor_placeOf o0 a1 h = some x) : MetA Γ m_Moor_placeOf [vr 8 0 o0, vi a1] h (some (vi x)) h := by
  refine Ev.met rfl rfl (Nat.le_of_ble_eq_true rfl) ?_
  show Ev Γ m_Moor_placeOf 0 [some (vr 8 0 o0), some (vi a1)] [] h _ _
  obtain ⟨r, hr⟩ : ∃ r : Option AV, r = some (vi x) := ⟨_, rfl⟩
  obtain ⟨h', hh⟩ : ∃ h' : AH, h' = h := ⟨_, rfl⟩
  have hP : r = some (vi x) ∧ h' = h := ⟨hr, hh⟩
  suffices hS : Ev Γ m_Moor_placeOf 0 [some (vr 8 0 o0), some (vi a1)] [] h r h' by rw [hr, hh] at hS; exact hS
  clear hr hh
  unfold f_Moor_placeOf at hx
  refine Ev.blk (pc' := 1) (lv' := [some (vr 8 0 o0), some (vi a1)]) (st' := [vi a1]) (h' := h) 0 1 (Nat.le_of_ble_eq_true rfl) tk_Moor_placeOf rfl rfl ⟨trivial, trivial⟩ ?_
  refine Ev.if_lt 1 19 tk_Moor_placeOf rfl (by decide) (fun hc1 => ?_) (fun hc1 => ?_)
  · replace hx := ip hc1 hx
    refine Ev.blk (pc' := 20) (lv' := [some (vr 8 0 o0), some (vi a1)]) (st' := [vi (ii (-1))]) (h' := h) 10 1 (Nat.le_of_ble_eq_true rfl) tk_Moor_placeOf rfl rfl ⟨trivial, trivial⟩ ?_
    obtain rfl := Option.some.inj hx
    obtain ⟨rfl, rfl⟩ := hP
    exact Ev.iret 11 tk_Moor_placeOf rfl rfl
  · replace hx := ia hc1 hx
    refine Ev.blk (pc' := 7) (lv' := [some (vr 8 0 o0), some (vi a1)]) (st' := [vi (ii 6), vi a1]) (h' := h) 2 2 (Nat.le_of_ble_eq_true rfl) tk_Moor_placeOf rfl rfl ⟨trivial, trivial, trivial⟩ ?_
    refine Ev.icmp_ge 4 19 tk_Moor_placeOf rfl (by decide) (fun hc2 => ?_) (fun hc2 => ?_)
    · replace hx := ip hc2 hx
      refine Ev.blk (pc' := 20) (lv' := [some (vr 8 0 o0), some (vi a1)]) (st' := [vi (ii (-1))]) (h' := h) 10 1 (Nat.le_of_ble_eq_true rfl) tk_Moor_placeOf rfl rfl ⟨trivial, trivial⟩ ?_
      obtain rfl := Option.some.inj hx
      obtain ⟨rfl, rfl⟩ := hP
      exact Ev.iret 11 tk_Moor_placeOf rfl rfl
    · replace hx := ia hc2 hx
      obtain ⟨hg3, hx⟩ := gd hx
      refine Ev.blk (pc' := 20) (lv' := [some (vr 8 0 o0), some (vi a1)]) (st' := [vi (h.1 (o0 + 1) (a1).toNatClampNeg)]) (h' := h) 5 5 (Nat.le_of_ble_eq_true rfl) tk_Moor_placeOf rfl rfl ⟨trivial, trivial, trivial, hg3, trivial, trivial⟩ ?_
      obtain rfl := Option.some.inj hx
      obtain ⟨rfl, rfl⟩ := hP
      exact Ev.iret 11 tk_Moor_placeOf rfl rfl
set_option maxRecDepth 4000 in
theorem l_Moor_othersIn_L6 (Γ : AG) : ∀ (n : Nat) (o0 : Nat) (v1 : Int32) (v2 : Int32) (v3 : Int32) (v4 : Int32) (v5 : Int32) (h : AH) (x : Int32), Moor_othersIn_L6 n o0 v1 v2 v3 v4 v5 h = some x → ∀ (r : Option AV) (h' : AH), r = some (vi x) ∧ h' = h → Ev Γ m_Moor_othersIn 6 [some (vr 8 0 o0), some (vi v1), some (vi v2), some (vi v3), some (vi v4), some (vi v5)] [] h r h' := by
  intro n
  induction n with
  | zero => intro o0 v1 v2 v3 v4 v5 h x hx; cases hx
  | succ n ih =>
    intro o0 v1 v2 v3 v4 v5 h x hx r h' hP
    replace hx : Moor_othersIn_L6_b (Moor_othersIn_L6 n) o0 v1 v2 v3 v4 v5 h = some x := hx
    unfold Moor_othersIn_L6_b at hx
    refine Ev.blk (pc' := 9) (lv' := [some (vr 8 0 o0), some (vi v1), some (vi v2), some (vi v3), some (vi v4), some (vi v5)]) (st' := [vi v3, vi v5]) (h' := h) 4 2 (Nat.le_of_ble_eq_true rfl) tk_Moor_othersIn rfl rfl ⟨trivial, trivial, trivial⟩ ?_
    refine Ev.icmp_ge 6 44 tk_Moor_othersIn rfl (by decide) (fun hc1 => ?_) (fun hc1 => ?_)
    · replace hx := ip hc1 hx
      refine Ev.blk (pc' := 46) (lv' := [some (vr 8 0 o0), some (vi v1), some (vi v2), some (vi v3), some (vi v4), some (vi v5)]) (st' := [vi v4]) (h' := h) 23 1 (Nat.le_of_ble_eq_true rfl) tk_Moor_othersIn rfl rfl ⟨trivial, trivial⟩ ?_
      obtain rfl := Option.some.inj hx
      obtain ⟨rfl, rfl⟩ := hP
      exact Ev.iret 24 tk_Moor_othersIn rfl rfl
    · replace hx := ia hc1 hx
      refine Ev.blk (pc' := 17) (lv' := [some (vr 8 0 o0), some (vi v1), some (vi v2), some (vi v3), some (vi v4), some (vi v5)]) (st' := [vi v2, vi v5, vi v4]) (h' := h) 7 3 (Nat.le_of_ble_eq_true rfl) tk_Moor_othersIn rfl rfl ⟨trivial, trivial, trivial, trivial⟩ ?_
      obtain ⟨q2, hq2, hx⟩ := bd hx
      have K3 : Ev Γ m_Moor_othersIn 35 [some (vr 8 0 o0), some (vi v1), some (vi v2), some (vi v3), none, some (vi v5)] [vi q2, vi v4] h r h' := by
        refine Ev.blk (pc' := 6) (lv' := [some (vr 8 0 o0), some (vi v1), some (vi v2), some (vi v3), some (vi (v4 + q2)), some (vi (v5 + ii 1))]) (st' := []) (h' := h) 19 4 (Nat.le_of_ble_eq_true rfl) tk_Moor_othersIn rfl rfl ⟨trivial, trivial, trivial, trivial, trivial⟩ ?_
        exact Ev.msk [true, true, true, true, true, true] (ih o0 v1 v2 v3 (v4 + q2) (v5 + ii 1) h _ hx r h' hP)
      clear hx
      refine Ev.icmp_eq 10 34 tk_Moor_othersIn rfl (by decide) (fun hc4 => ?_) (fun hc4 => ?_)
      · replace hq2 := ip hc4 hq2
        refine Ev.blk (pc' := 35) (lv' := [some (vr 8 0 o0), some (vi v1), some (vi v2), some (vi v3), some (vi v4), some (vi v5)]) (st' := [vi (ii 0), vi v4]) (h' := h) 18 1 (Nat.le_of_ble_eq_true rfl) tk_Moor_othersIn rfl rfl ⟨trivial, trivial⟩ ?_
        obtain rfl := Option.some.inj hq2
        exact Ev.msk [true, true, true, true, false, true] K3
      · replace hq2 := ia hc4 hq2
        refine Ev.blk (pc' := 23) (lv' := [some (vr 8 0 o0), some (vi v1), some (vi v2), some (vi v3), some (vi v4), some (vi v5)]) (st' := [vi v5, vr 8 0 o0, vi v4]) (h' := h) 11 2 (Nat.le_of_ble_eq_true rfl) tk_Moor_othersIn rfl rfl ⟨trivial, trivial, trivial⟩ ?_
        obtain ⟨q1, hq5, hq2⟩ := bd hq2
        refine Ev.callV (ν := m_Moor_placeOf) (av := [vi v5]) (rest := [vi v4]) (r1 := some (vi q1)) (h1 := h) (ci := 8) (nn := 0) (o := o0) 13 1 tk_Moor_othersIn rfl bb_Moor_placeOf vv_Moor_placeOf lk_8_60 (by decide) rfl rfl (Or.inl rfl) (Nat.le_of_ble_eq_true rfl) (s_Moor_placeOf Γ o0 v5 h _ hq5) ?_
        show Ev Γ m_Moor_othersIn 26 [some (vr 8 0 o0), some (vi v1), some (vi v2), some (vi v3), some (vi v4), some (vi v5)] [vi q1, vi v4] h r h'
        refine Ev.blk (pc' := 27) (lv' := [some (vr 8 0 o0), some (vi v1), some (vi v2), some (vi v3), some (vi v4), some (vi v5)]) (st' := [vi v1, vi q1, vi v4]) (h' := h) 14 1 (Nat.le_of_ble_eq_true rfl) tk_Moor_othersIn rfl rfl ⟨trivial, trivial⟩ ?_
        refine Ev.icmp_ne 15 34 tk_Moor_othersIn rfl (by decide) (fun hc6 => ?_) (fun hc6 => ?_)
        · replace hq2 := ia hc6 hq2
          refine Ev.blk (pc' := 35) (lv' := [some (vr 8 0 o0), some (vi v1), some (vi v2), some (vi v3), some (vi v4), some (vi v5)]) (st' := [vi (ii 0), vi v4]) (h' := h) 18 1 (Nat.le_of_ble_eq_true rfl) tk_Moor_othersIn rfl rfl ⟨trivial, trivial⟩ ?_
          obtain rfl := Option.some.inj hq2
          exact Ev.msk [true, true, true, true, false, true] K3
        · replace hq2 := ip hc6 hq2
          refine Ev.blk (pc' := 35) (lv' := [some (vr 8 0 o0), some (vi v1), some (vi v2), some (vi v3), some (vi v4), some (vi v5)]) (st' := [vi (ii 1), vi v4]) (h' := h) 16 2 (Nat.le_of_ble_eq_true rfl) tk_Moor_othersIn rfl rfl ⟨trivial, trivial, trivial⟩ ?_
          obtain rfl := Option.some.inj hq2
          exact Ev.msk [true, true, true, true, false, true] K3
set_option maxRecDepth 4000 in
theorem s_Moor_othersIn (Γ : AG) (o0 : Nat) (a1 : Int32) (a2 : Int32) (a3 : Int32) (h : AH) (x : Int32) (hx : f_Moor_othersIn o0 a1 a2 a3 h = some x) : MetA Γ m_Moor_othersIn [vr 8 0 o0, vi a1, vi a2, vi a3] h (some (vi x)) h := by
  refine Ev.met rfl rfl (Nat.le_of_ble_eq_true rfl) ?_
  show Ev Γ m_Moor_othersIn 0 [some (vr 8 0 o0), some (vi a1), some (vi a2), some (vi a3), none, none] [] h _ _
  obtain ⟨r, hr⟩ : ∃ r : Option AV, r = some (vi x) := ⟨_, rfl⟩
  obtain ⟨h', hh⟩ : ∃ h' : AH, h' = h := ⟨_, rfl⟩
  have hP : r = some (vi x) ∧ h' = h := ⟨hr, hh⟩
  suffices hS : Ev Γ m_Moor_othersIn 0 [some (vr 8 0 o0), some (vi a1), some (vi a2), some (vi a3), none, none] [] h r h' by rw [hr, hh] at hS; exact hS
  clear hr hh
  unfold f_Moor_othersIn at hx
  refine Ev.blk (pc' := 6) (lv' := [some (vr 8 0 o0), some (vi a1), some (vi a2), some (vi a3), some (vi (ii 0)), some (vi (ii 0))]) (st' := []) (h' := h) 0 4 (Nat.le_of_ble_eq_true rfl) tk_Moor_othersIn rfl rfl ⟨trivial, trivial, trivial, trivial, trivial⟩ ?_
  refine Ev.msk [true, true, true, true, true, true] ?_
  show Ev Γ m_Moor_othersIn 6 [some (vr 8 0 o0), some (vi a1), some (vi a2), some (vi a3), some (vi (ii 0)), some (vi (ii 0))] [] h r h'
  exact l_Moor_othersIn_L6 Γ FU o0 a1 a2 a3 (ii 0) (ii 0) h _ hx r h' hP
set_option maxRecDepth 4000 in
theorem s_HF_tellLetters (Γ : AG) (o1 : Nat) (a2 : Int32) (a3 : Int32) (h : AH) (x : AH) (hx : f_HF_tellLetters o1 a2 a3 h = some x) : MetA Γ m_HF_tellLetters [vr 0 0 0, vr 8 0 o1, vi a2, vi a3] h (none) x := by
  refine Ev.met rfl rfl (Nat.le_of_ble_eq_true rfl) ?_
  show Ev Γ m_HF_tellLetters 0 [some (vr 0 0 0), some (vr 8 0 o1), some (vi a2), some (vi a3), none, none] [] h _ _
  obtain ⟨r, hr⟩ : ∃ r : Option AV, r = none := ⟨_, rfl⟩
  obtain ⟨h', hh⟩ : ∃ h' : AH, h' = x := ⟨_, rfl⟩
  have hP : r = none ∧ h' = x := ⟨hr, hh⟩
  suffices hS : Ev Γ m_HF_tellLetters 0 [some (vr 0 0 0), some (vr 8 0 o1), some (vi a2), some (vi a3), none, none] [] h r h' by rw [hr, hh] at hS; exact hS
  clear hr hh
  unfold f_HF_tellLetters at hx
  refine Ev.blk (pc' := 9) (lv' := [some (vr 0 0 0), some (vr 8 0 o1), some (vi a2), some (vi a3), none, none]) (st' := [vi (h.1 o1 8), vi a3, vr 3 0 (h.2.2 0 13)]) (h' := h) 0 5 (Nat.le_of_ble_eq_true rfl) tk_HF_tellLetters rfl rfl ⟨trivial, trivial, trivial, trivial, trivial, trivial⟩ ?_
  obtain ⟨q1, hq1, hx⟩ := bd hx
  refine Ev.callV (ν := m_Heath_waterIn) (av := [vi a3, vi (h.1 o1 8)]) (rest := []) (r1 := some (vi q1)) (h1 := h) (ci := 3) (nn := 0) (o := (h.2.2 0 13)) 5 2 tk_HF_tellLetters rfl bb_Heath_waterIn vv_Heath_waterIn lk_0_160 (by decide) rfl rfl (Or.inl rfl) (Nat.le_of_ble_eq_true rfl) (s_Heath_waterIn Γ (h.2.2 0 13) a3 (h.1 o1 8) h _ hq1) ?_
  show Ev Γ m_HF_tellLetters 12 [some (vr 0 0 0), some (vr 8 0 o1), some (vi a2), some (vi a3), none, none] [vi q1] h r h'
  refine Ev.blk (pc' := 19) (lv' := [some (vr 0 0 0), some (vr 8 0 o1), some (vi a2), some (vi a3), some (vi q1), none]) (st' := [vi a3, vr 3 0 (h.2.2 0 13)]) (h' := h) 6 4 (Nat.le_of_ble_eq_true rfl) tk_HF_tellLetters rfl rfl ⟨trivial, trivial, trivial, trivial, trivial⟩ ?_
  obtain ⟨q2, hq2, hx⟩ := bd hx
  refine Ev.callV (ν := m_Heath_ironIn) (av := [vi a3]) (rest := []) (r1 := some (vi q2)) (h1 := h) (ci := 3) (nn := 0) (o := (h.2.2 0 13)) 10 1 tk_HF_tellLetters rfl bb_Heath_ironIn vv_Heath_ironIn lk_0_164 (by decide) rfl rfl (Or.inl rfl) (Nat.le_of_ble_eq_true rfl) (s_Heath_ironIn Γ (h.2.2 0 13) a3 h _ hq2) ?_
  show Ev Γ m_HF_tellLetters 22 [some (vr 0 0 0), some (vr 8 0 o1), some (vi a2), some (vi a3), some (vi q1), none] [vi q2] h r h'
  refine Ev.blk (pc' := 32) (lv' := [some (vr 0 0 0), some (vr 8 0 o1), some (vi a2), some (vi a3), some (vi q1), some (vi q2)]) (st' := [vi (ii (-1)), vi q1, vi (ii 0), vr 20 6 12]) (h' := h) 11 6 (Nat.le_of_ble_eq_true rfl) tk_HF_tellLetters rfl rfl ⟨trivial, trivial, trivial, trivial, trivial, trivial, trivial⟩ ?_
  have K3 : ∀ v3_0 : Int32, v3_0 = (if q1 = (ii (-1)) then (ii 99) else q1) → Ev Γ m_HF_tellLetters 42 [some (vr 0 0 0), some (vr 8 0 o1), some (vi a2), some (vi a3), none, some (vi q2)] [vi v3_0, vi (ii 0), vr 20 6 12] h r h' := by
    intro v3_0 e4
    subst e4
    obtain ⟨hg5, hx⟩ := gd hx
    refine Ev.blk (pc' := 54) (lv' := [some (vr 0 0 0), some (vr 8 0 o1), some (vi a2), some (vi a3), none, some (vi q2)]) (st' := [vi (ii 1), vi a2, vr 3 0 ((wI h 12 (ii 0).toNatClampNeg (if q1 = (ii (-1)) then (ii 99) else q1)).2.2 0 13), vi (ii 1), vr 20 6 12]) (h' := (wI h 12 (ii 0).toNatClampNeg (if q1 = (ii (-1)) then (ii 99) else q1))) 21 8 (Nat.le_of_ble_eq_true rfl) tk_HF_tellLetters rfl rfl ⟨hg5, trivial, trivial, trivial, trivial, trivial, trivial, trivial, trivial⟩ ?_
    obtain ⟨q3, hq6, hx⟩ := bd hx
    refine Ev.callV (ν := m_Heath_trait) (av := [vi a2, vi (ii 1)]) (rest := [vi (ii 1), vr 20 6 12]) (r1 := some (vi q3)) (h1 := (wI h 12 (ii 0).toNatClampNeg (if q1 = (ii (-1)) then (ii 99) else q1))) (ci := 3) (nn := 0) (o := ((wI h 12 (ii 0).toNatClampNeg (if q1 = (ii (-1)) then (ii 99) else q1)).2.2 0 13)) 29 2 tk_HF_tellLetters rfl bb_Heath_trait vv_Heath_trait lk_0_196 (by decide) rfl rfl (Or.inl rfl) (Nat.le_of_ble_eq_true rfl) (s_Heath_trait Γ ((wI h 12 (ii 0).toNatClampNeg (if q1 = (ii (-1)) then (ii 99) else q1)).2.2 0 13) a2 (ii 1) (wI h 12 (ii 0).toNatClampNeg (if q1 = (ii (-1)) then (ii 99) else q1)) _ hq6) ?_
    show Ev Γ m_HF_tellLetters 57 [some (vr 0 0 0), some (vr 8 0 o1), some (vi a2), some (vi a3), none, some (vi q2)] [vi q3, vi (ii 1), vr 20 6 12] (wI h 12 (ii 0).toNatClampNeg (if q1 = (ii (-1)) then (ii 99) else q1)) r h'
    obtain ⟨hg7, hx⟩ := gd hx
    refine Ev.blk (pc' := 66) (lv' := [some (vr 0 0 0), some (vr 8 0 o1), some (vi a2), some (vi a3), none, some (vi q2)]) (st' := [vi (ii (-1)), vi q2, vi (ii 2), vr 20 6 12]) (h' := (wI (wI h 12 (ii 0).toNatClampNeg (if q1 = (ii (-1)) then (ii 99) else q1)) 12 (ii 1).toNatClampNeg q3)) 30 6 (Nat.le_of_ble_eq_true rfl) tk_HF_tellLetters rfl rfl ⟨hg7, trivial, trivial, trivial, trivial, trivial, trivial⟩ ?_
    have K8 : ∀ v8_0 : Int32, v8_0 = (if q2 = (ii (-1)) then (ii 99) else q2) → Ev Γ m_HF_tellLetters 76 [some (vr 0 0 0), some (vr 8 0 o1), some (vi a2), some (vi a3), none, none] [vi v8_0, vi (ii 2), vr 20 6 12] (wI (wI h 12 (ii 0).toNatClampNeg (if q1 = (ii (-1)) then (ii 99) else q1)) 12 (ii 1).toNatClampNeg q3) r h' := by
      intro v8_0 e9
      subst e9
      obtain ⟨hg10, hx⟩ := gd hx
      refine Ev.blk (pc' := 88) (lv' := [some (vr 0 0 0), some (vr 8 0 o1), some (vi a2), some (vi a3), none, none]) (st' := [vi (ii 3), vi a2, vr 3 0 ((wI (wI (wI h 12 (ii 0).toNatClampNeg (if q1 = (ii (-1)) then (ii 99) else q1)) 12 (ii 1).toNatClampNeg q3) 12 (ii 2).toNatClampNeg (if q2 = (ii (-1)) then (ii 99) else q2)).2.2 0 13), vi (ii 3), vr 20 6 12]) (h' := (wI (wI (wI h 12 (ii 0).toNatClampNeg (if q1 = (ii (-1)) then (ii 99) else q1)) 12 (ii 1).toNatClampNeg q3) 12 (ii 2).toNatClampNeg (if q2 = (ii (-1)) then (ii 99) else q2))) 40 8 (Nat.le_of_ble_eq_true rfl) tk_HF_tellLetters rfl rfl ⟨hg10, trivial, trivial, trivial, trivial, trivial, trivial, trivial, trivial⟩ ?_
      obtain ⟨q4, hq11, hx⟩ := bd hx
      refine Ev.callV (ν := m_Heath_trait) (av := [vi a2, vi (ii 3)]) (rest := [vi (ii 3), vr 20 6 12]) (r1 := some (vi q4)) (h1 := (wI (wI (wI h 12 (ii 0).toNatClampNeg (if q1 = (ii (-1)) then (ii 99) else q1)) 12 (ii 1).toNatClampNeg q3) 12 (ii 2).toNatClampNeg (if q2 = (ii (-1)) then (ii 99) else q2))) (ci := 3) (nn := 0) (o := ((wI (wI (wI h 12 (ii 0).toNatClampNeg (if q1 = (ii (-1)) then (ii 99) else q1)) 12 (ii 1).toNatClampNeg q3) 12 (ii 2).toNatClampNeg (if q2 = (ii (-1)) then (ii 99) else q2)).2.2 0 13)) 48 2 tk_HF_tellLetters rfl bb_Heath_trait vv_Heath_trait lk_0_196 (by decide) rfl rfl (Or.inl rfl) (Nat.le_of_ble_eq_true rfl) (s_Heath_trait Γ ((wI (wI (wI h 12 (ii 0).toNatClampNeg (if q1 = (ii (-1)) then (ii 99) else q1)) 12 (ii 1).toNatClampNeg q3) 12 (ii 2).toNatClampNeg (if q2 = (ii (-1)) then (ii 99) else q2)).2.2 0 13) a2 (ii 3) (wI (wI (wI h 12 (ii 0).toNatClampNeg (if q1 = (ii (-1)) then (ii 99) else q1)) 12 (ii 1).toNatClampNeg q3) 12 (ii 2).toNatClampNeg (if q2 = (ii (-1)) then (ii 99) else q2)) _ hq11) ?_
      show Ev Γ m_HF_tellLetters 91 [some (vr 0 0 0), some (vr 8 0 o1), some (vi a2), some (vi a3), none, none] [vi q4, vi (ii 3), vr 20 6 12] (wI (wI (wI h 12 (ii 0).toNatClampNeg (if q1 = (ii (-1)) then (ii 99) else q1)) 12 (ii 1).toNatClampNeg q3) 12 (ii 2).toNatClampNeg (if q2 = (ii (-1)) then (ii 99) else q2)) r h'
      refine Ev.blk (pc' := 92) (lv' := [some (vr 0 0 0), some (vr 8 0 o1), some (vi a2), some (vi a3), none, none]) (st' := [vi a3, vi q4, vi (ii 3), vr 20 6 12]) (h' := (wI (wI (wI h 12 (ii 0).toNatClampNeg (if q1 = (ii (-1)) then (ii 99) else q1)) 12 (ii 1).toNatClampNeg q3) 12 (ii 2).toNatClampNeg (if q2 = (ii (-1)) then (ii 99) else q2))) 49 1 (Nat.le_of_ble_eq_true rfl) tk_HF_tellLetters rfl rfl ⟨trivial, trivial⟩ ?_
      have K12 : ∀ v12_0 : Int32, v12_0 = (if q4 = a3 then (ii 1) else (ii 0)) → Ev Γ m_HF_tellLetters 100 [some (vr 0 0 0), some (vr 8 0 o1), some (vi a2), some (vi a3), none, none] [vi v12_0, vi (ii 3), vr 20 6 12] (wI (wI (wI h 12 (ii 0).toNatClampNeg (if q1 = (ii (-1)) then (ii 99) else q1)) 12 (ii 1).toNatClampNeg q3) 12 (ii 2).toNatClampNeg (if q2 = (ii (-1)) then (ii 99) else q2)) r h' := by
        intro v12_0 e13
        subst e13
        obtain ⟨hg14, hx⟩ := gd hx
        obtain ⟨hg15, hx⟩ := gd hx
        refine Ev.blk (pc' := 111) (lv' := [some (vr 0 0 0), some (vr 8 0 o1), some (vi a2), some (vi a3), none, none]) (st' := []) (h' := (wI (wI (wI (wI (wI h 12 (ii 0).toNatClampNeg (if q1 = (ii (-1)) then (ii 99) else q1)) 12 (ii 1).toNatClampNeg q3) 12 (ii 2).toNatClampNeg (if q2 = (ii (-1)) then (ii 99) else q2)) 12 (ii 3).toNatClampNeg (if q4 = a3 then (ii 1) else (ii 0))) 12 (ii 4).toNatClampNeg ((wI (wI (wI (wI h 12 (ii 0).toNatClampNeg (if q1 = (ii (-1)) then (ii 99) else q1)) 12 (ii 1).toNatClampNeg q3) 12 (ii 2).toNatClampNeg (if q2 = (ii (-1)) then (ii 99) else q2)) 12 (ii 3).toNatClampNeg (if q4 = a3 then (ii 1) else (ii 0))).1 o1 8))) 54 7 (Nat.le_of_ble_eq_true rfl) tk_HF_tellLetters rfl rfl ⟨hg14, trivial, trivial, trivial, trivial, trivial, hg15, trivial⟩ ?_
        obtain ⟨q5, hq16, hx⟩ := bd hx
        rw [Option.some.inj hq16]
        show Ev Γ m_HF_tellLetters 111 [some (vr 0 0 0), some (vr 8 0 o1), some (vi a2), some (vi a3), none, none] [] q5 r h'
        refine Ev.blk (pc' := 127) (lv' := [some (vr 0 0 0), some (vr 8 0 o1), some (vi a2), some (vi a3), none, none]) (st' := [vi (q5.1 (q5.2.2 0 13) 10), vi a2, vi a3, vr 8 0 o1, vi (ii 1), vi (ii 5), vr 20 6 12]) (h' := q5) 61 10 (Nat.le_of_ble_eq_true rfl) tk_HF_tellLetters rfl rfl ⟨trivial, trivial, trivial, trivial, trivial, trivial, trivial, trivial, trivial, trivial, trivial⟩ ?_
        obtain ⟨q6, hq17, hx⟩ := bd hx
        refine Ev.callV (ν := m_Moor_othersIn) (av := [vi a3, vi a2, vi (q5.1 (q5.2.2 0 13) 10)]) (rest := [vi (ii 1), vi (ii 5), vr 20 6 12]) (r1 := some (vi q6)) (h1 := q5) (ci := 8) (nn := 0) (o := o1) 71 3 tk_HF_tellLetters rfl bb_Moor_othersIn vv_Moor_othersIn lk_0_452 (by decide) rfl rfl (Or.inl rfl) (Nat.le_of_ble_eq_true rfl) (s_Moor_othersIn Γ o1 a3 a2 (q5.1 (q5.2.2 0 13) 10) q5 _ hq17) ?_
        show Ev Γ m_HF_tellLetters 130 [some (vr 0 0 0), some (vr 8 0 o1), some (vi a2), some (vi a3), none, none] [vi q6, vi (ii 1), vi (ii 5), vr 20 6 12] q5 r h'
        obtain ⟨hg18, hx⟩ := gd hx
        refine Ev.blk (pc' := 132) (lv' := [some (vr 0 0 0), some (vr 8 0 o1), some (vi a2), some (vi a3), none, none]) (st' := []) (h' := (wI q5 12 (ii 5).toNatClampNeg ((ii 1) + q6))) 72 2 (Nat.le_of_ble_eq_true rfl) tk_HF_tellLetters rfl rfl ⟨trivial, hg18, trivial⟩ ?_
        obtain rfl := Option.some.inj hx
        obtain ⟨rfl, rfl⟩ := hP
        exact Ev.vret 74 tk_HF_tellLetters rfl rfl
      refine Ev.icmp_ne 50 99 tk_HF_tellLetters rfl (by decide) (fun hc19 => ?_) (fun hc19 => ?_)
      · refine Ev.blk (pc' := 100) (lv' := [some (vr 0 0 0), some (vr 8 0 o1), some (vi a2), some (vi a3), none, none]) (st' := [vi (ii 0), vi (ii 3), vr 20 6 12]) (h' := (wI (wI (wI h 12 (ii 0).toNatClampNeg (if q1 = (ii (-1)) then (ii 99) else q1)) 12 (ii 1).toNatClampNeg q3) 12 (ii 2).toNatClampNeg (if q2 = (ii (-1)) then (ii 99) else q2))) 53 1 (Nat.le_of_ble_eq_true rfl) tk_HF_tellLetters rfl rfl ⟨trivial, trivial⟩ ?_
        exact Ev.msk [true, true, true, true, false, false] (K12 _ (by first | rfl | simp only [if_neg hc19]))
      · refine Ev.blk (pc' := 100) (lv' := [some (vr 0 0 0), some (vr 8 0 o1), some (vi a2), some (vi a3), none, none]) (st' := [vi (ii 1), vi (ii 3), vr 20 6 12]) (h' := (wI (wI (wI h 12 (ii 0).toNatClampNeg (if q1 = (ii (-1)) then (ii 99) else q1)) 12 (ii 1).toNatClampNeg q3) 12 (ii 2).toNatClampNeg (if q2 = (ii (-1)) then (ii 99) else q2))) 51 2 (Nat.le_of_ble_eq_true rfl) tk_HF_tellLetters rfl rfl ⟨trivial, trivial, trivial⟩ ?_
        exact Ev.msk [true, true, true, true, false, false] (K12 _ (by first | rfl | simp only [if_pos hc19]))
    refine Ev.icmp_ne 36 74 tk_HF_tellLetters rfl (by decide) (fun hc20 => ?_) (fun hc20 => ?_)
    · refine Ev.blk (pc' := 76) (lv' := [some (vr 0 0 0), some (vr 8 0 o1), some (vi a2), some (vi a3), none, some (vi q2)]) (st' := [vi q2, vi (ii 2), vr 20 6 12]) (h' := (wI (wI h 12 (ii 0).toNatClampNeg (if q1 = (ii (-1)) then (ii 99) else q1)) 12 (ii 1).toNatClampNeg q3)) 39 1 (Nat.le_of_ble_eq_true rfl) tk_HF_tellLetters rfl rfl ⟨trivial, trivial⟩ ?_
      exact Ev.msk [true, true, true, true, false, false] (K8 _ (by first | rfl | simp only [if_neg hc20]))
    · refine Ev.blk (pc' := 76) (lv' := [some (vr 0 0 0), some (vr 8 0 o1), some (vi a2), some (vi a3), none, some (vi q2)]) (st' := [vi (ii 99), vi (ii 2), vr 20 6 12]) (h' := (wI (wI h 12 (ii 0).toNatClampNeg (if q1 = (ii (-1)) then (ii 99) else q1)) 12 (ii 1).toNatClampNeg q3)) 37 2 (Nat.le_of_ble_eq_true rfl) tk_HF_tellLetters rfl rfl ⟨trivial, trivial, trivial⟩ ?_
      exact Ev.msk [true, true, true, true, false, false] (K8 _ (by first | rfl | simp only [if_pos hc20]))
  refine Ev.icmp_ne 17 40 tk_HF_tellLetters rfl (by decide) (fun hc21 => ?_) (fun hc21 => ?_)
  · refine Ev.blk (pc' := 42) (lv' := [some (vr 0 0 0), some (vr 8 0 o1), some (vi a2), some (vi a3), some (vi q1), some (vi q2)]) (st' := [vi q1, vi (ii 0), vr 20 6 12]) (h' := h) 20 1 (Nat.le_of_ble_eq_true rfl) tk_HF_tellLetters rfl rfl ⟨trivial, trivial⟩ ?_
    exact Ev.msk [true, true, true, true, false, true] (K3 _ (by first | rfl | simp only [if_neg hc21]))
  · refine Ev.blk (pc' := 42) (lv' := [some (vr 0 0 0), some (vr 8 0 o1), some (vi a2), some (vi a3), some (vi q1), some (vi q2)]) (st' := [vi (ii 99), vi (ii 0), vr 20 6 12]) (h' := h) 18 2 (Nat.le_of_ble_eq_true rfl) tk_HF_tellLetters rfl rfl ⟨trivial, trivial, trivial⟩ ?_
    exact Ev.msk [true, true, true, true, false, true] (K3 _ (by first | rfl | simp only [if_pos hc21]))
set_option maxRecDepth 4000 in
theorem s_Law_pop (Γ : AG) (o0 : Nat) (h : AH) (x : Int32 × AH) (hx : f_Law_pop o0 h = some x) : MetA Γ m_Law_pop [vr 5 0 o0] h (some (vi x.1)) x.2 := by
  refine Ev.met rfl rfl (Nat.le_of_ble_eq_true rfl) ?_
  show Ev Γ m_Law_pop 0 [some (vr 5 0 o0)] [] h _ _
  obtain ⟨r, hr⟩ : ∃ r : Option AV, r = some (vi x.1) := ⟨_, rfl⟩
  obtain ⟨h', hh⟩ : ∃ h' : AH, h' = x.2 := ⟨_, rfl⟩
  have hP : r = some (vi x.1) ∧ h' = x.2 := ⟨hr, hh⟩
  suffices hS : Ev Γ m_Law_pop 0 [some (vr 5 0 o0)] [] h r h' by rw [hr, hh] at hS; exact hS
  clear hr hh
  unfold f_Law_pop at hx
  refine Ev.blk (pc' := 4) (lv' := [some (vr 5 0 o0)]) (st' := [vi (h.1 o0 3)]) (h' := h) 0 2 (Nat.le_of_ble_eq_true rfl) tk_Law_pop rfl rfl ⟨trivial, trivial, trivial⟩ ?_
  refine Ev.if_le 2 19 tk_Law_pop rfl (by decide) (fun hc1 => ?_) (fun hc1 => ?_)
  · replace hx := ip hc1 hx
    refine Ev.blk (pc' := 20) (lv' := [some (vr 5 0 o0)]) (st' := [vi (ii 0)]) (h' := h) 9 1 (Nat.le_of_ble_eq_true rfl) tk_Law_pop rfl rfl ⟨trivial, trivial⟩ ?_
    obtain rfl := Option.some.inj hx
    obtain ⟨rfl, rfl⟩ := hP
    exact Ev.iret 10 tk_Law_pop rfl rfl
  · replace hx := ia hc1 hx
    refine Ev.blk (pc' := 16) (lv' := [some (vr 5 0 o0)]) (st' := [vi (ii (64 : Int)), vi (h.1 o0 3)]) (h' := h) 3 5 (Nat.le_of_ble_eq_true rfl) tk_Law_pop rfl rfl ⟨trivial, trivial, trivial, trivial, trivial, trivial⟩ ?_
    refine Ev.icmp_le 8 21 tk_Law_pop rfl (by decide) (fun hc2 => ?_) (fun hc2 => ?_)
    · replace hx := ip hc2 hx
      obtain ⟨hg3, hx⟩ := gd hx
      refine Ev.blk (pc' := 40) (lv' := [some (vr 5 0 o0)]) (st' := [vi ((wI h o0 3 ((h.1 o0 3) - (ii 1))).1 (o0 + 2) ((wI h o0 3 ((h.1 o0 3) - (ii 1))).1 o0 3).toNatClampNeg)]) (h' := (wI h o0 3 ((h.1 o0 3) - (ii 1)))) 11 11 (Nat.le_of_ble_eq_true rfl) tk_Law_pop rfl rfl ⟨trivial, trivial, trivial, trivial, trivial, trivial, trivial, trivial, trivial, trivial, hg3, trivial⟩ ?_
      obtain rfl := Option.some.inj hx
      obtain ⟨rfl, rfl⟩ := hP
      exact Ev.iret 22 tk_Law_pop rfl rfl
    · replace hx := ia hc2 hx
      refine Ev.blk (pc' := 20) (lv' := [some (vr 5 0 o0)]) (st' := [vi (ii 0)]) (h' := h) 9 1 (Nat.le_of_ble_eq_true rfl) tk_Law_pop rfl rfl ⟨trivial, trivial⟩ ?_
      obtain rfl := Option.some.inj hx
      obtain ⟨rfl, rfl⟩ := hP
      exact Ev.iret 10 tk_Law_pop rfl rfl
set_option maxRecDepth 4000 in
theorem s_Law_push (Γ : AG) (o0 : Nat) (a1 : Int32) (h : AH) (x : AH) (hx : f_Law_push o0 a1 h = some x) : MetA Γ m_Law_push [vr 5 0 o0, vi a1] h (none) x := by
  refine Ev.met rfl rfl (Nat.le_of_ble_eq_true rfl) ?_
  show Ev Γ m_Law_push 0 [some (vr 5 0 o0), some (vi a1)] [] h _ _
  obtain ⟨r, hr⟩ : ∃ r : Option AV, r = none := ⟨_, rfl⟩
  obtain ⟨h', hh⟩ : ∃ h' : AH, h' = x := ⟨_, rfl⟩
  have hP : r = none ∧ h' = x := ⟨hr, hh⟩
  suffices hS : Ev Γ m_Law_push 0 [some (vr 5 0 o0), some (vi a1)] [] h r h' by rw [hr, hh] at hS; exact hS
  clear hr hh
  unfold f_Law_push at hx
  refine Ev.blk (pc' := 4) (lv' := [some (vr 5 0 o0), some (vi a1)]) (st' := [vi (h.1 o0 3)]) (h' := h) 0 2 (Nat.le_of_ble_eq_true rfl) tk_Law_push rfl rfl ⟨trivial, trivial, trivial⟩ ?_
  refine Ev.if_lt 2 39 tk_Law_push rfl (by decide) (fun hc1 => ?_) (fun hc1 => ?_)
  · replace hx := ip hc1 hx
    obtain rfl := Option.some.inj hx
    obtain ⟨rfl, rfl⟩ := hP
    exact Ev.vret 21 tk_Law_push rfl rfl
  · replace hx := ia hc1 hx
    refine Ev.blk (pc' := 16) (lv' := [some (vr 5 0 o0), some (vi a1)]) (st' := [vi (ii (64 : Int)), vi (h.1 o0 3)]) (h' := h) 3 5 (Nat.le_of_ble_eq_true rfl) tk_Law_push rfl rfl ⟨trivial, trivial, trivial, trivial, trivial, trivial⟩ ?_
    refine Ev.icmp_ge 8 39 tk_Law_push rfl (by decide) (fun hc2 => ?_) (fun hc2 => ?_)
    · replace hx := ip hc2 hx
      obtain rfl := Option.some.inj hx
      obtain ⟨rfl, rfl⟩ := hP
      exact Ev.vret 21 tk_Law_push rfl rfl
    · replace hx := ia hc2 hx
      obtain ⟨hg3, hx⟩ := gd hx
      refine Ev.blk (pc' := 39) (lv' := [some (vr 5 0 o0), some (vi a1)]) (st' := []) (h' := (wI (wI h (o0 + 2) (h.1 o0 3).toNatClampNeg a1) o0 3 (((wI h (o0 + 2) (h.1 o0 3).toNatClampNeg a1).1 o0 3) + (ii 1)))) 9 12 (Nat.le_of_ble_eq_true rfl) tk_Law_push rfl rfl ⟨trivial, trivial, trivial, trivial, trivial, hg3, trivial, trivial, trivial, trivial, trivial, trivial, trivial⟩ ?_
      obtain rfl := Option.some.inj hx
      obtain ⟨rfl, rfl⟩ := hP
      exact Ev.vret 21 tk_Law_push rfl rfl
theorem s_HF_within (Γ : AG) (a0 : Int64) (a2 : Int32) (a3 : Int32) (h : AH) : MetA Γ m_HF_within [vl a0, vi a2, vi a3] h (some (vi (p_HF_within a0 a2 a3))) h := by
  refine Ev.met rfl rfl (Nat.le_of_ble_eq_true rfl) ?_
  generalize hx : p_HF_within a0 a2 a3 = x
  show Ev Γ m_HF_within 0 [some (vl a0), none, some (vi a2), some (vi a3)] [] h _ _
  obtain ⟨r, hr⟩ : ∃ r : Option AV, r = some (vi x) := ⟨_, rfl⟩
  obtain ⟨h', hh⟩ : ∃ h' : AH, h' = h := ⟨_, rfl⟩
  have hP : r = some (vi x) ∧ h' = h := ⟨hr, hh⟩
  suffices hS : Ev Γ m_HF_within 0 [some (vl a0), none, some (vi a2), some (vi a3)] [] h r h' by rw [hr, hh] at hS; exact hS
  clear hr hh
  unfold p_HF_within at hx
  refine Ev.blk (pc' := 4) (lv' := [some (vl a0), none, some (vi a2), some (vi a3)]) (st' := [vi (lg_cmp a0 a2.toInt64)]) (h' := h) 0 4 (Nat.le_of_ble_eq_true rfl) tk_HF_within rfl rfl ⟨trivial, trivial, trivial, trivial, trivial⟩ ?_
  refine Ev.if_ge 4 9 tk_HF_within rfl (by decide) (fun hc1 => ?_) (fun hc1 => ?_)
  · replace hx := ip hc1 hx
    refine Ev.blk (pc' := 13) (lv' := [some (vl a0), none, some (vi a2), some (vi a3)]) (st' := [vi (lg_cmp a0 a3.toInt64)]) (h' := h) 7 4 (Nat.le_of_ble_eq_true rfl) tk_HF_within rfl rfl ⟨trivial, trivial, trivial, trivial, trivial⟩ ?_
    refine Ev.if_le 11 20 tk_HF_within rfl (by decide) (fun hc2 => ?_) (fun hc2 => ?_)
    · replace hx := ip hc2 hx
      refine Ev.blk (pc' := 22) (lv' := [some (vl a0), none, some (vi a2), some (vi a3)]) (st' := [vi a0.toInt32]) (h' := h) 14 2 (Nat.le_of_ble_eq_true rfl) tk_HF_within rfl rfl ⟨trivial, trivial, trivial⟩ ?_
      subst hx
      obtain ⟨rfl, rfl⟩ := hP
      exact Ev.iret 16 tk_HF_within rfl rfl
    · replace hx := ia hc2 hx
      refine Ev.blk (pc' := 22) (lv' := [some (vl a0), none, some (vi a2), some (vi a3)]) (st' := [vi a3]) (h' := h) 12 2 (Nat.le_of_ble_eq_true rfl) tk_HF_within rfl rfl ⟨trivial, trivial, trivial⟩ ?_
      subst hx
      obtain ⟨rfl, rfl⟩ := hP
      exact Ev.iret 16 tk_HF_within rfl rfl
  · replace hx := ia hc1 hx
    refine Ev.blk (pc' := 8) (lv' := [some (vl a0), none, some (vi a2), some (vi a3)]) (st' := [vi a2]) (h' := h) 5 1 (Nat.le_of_ble_eq_true rfl) tk_HF_within rfl rfl ⟨trivial, trivial⟩ ?_
    subst hx
    obtain ⟨rfl, rfl⟩ := hP
    exact Ev.iret 6 tk_HF_within rfl rfl
set_option maxRecDepth 4000 in
theorem s_Law_joined (Γ : AG) (a0 : Int32) (a1 : Int32) (a2 : Int32) (h : AH) (x : Int32) (hx : f_Law_joined a0 a1 a2 h = some x) : MetA Γ m_Law_joined [vi a0, vi a1, vi a2] h (some (vi x)) h := by
  refine Ev.met rfl rfl (Nat.le_of_ble_eq_true rfl) ?_
  show Ev Γ m_Law_joined 0 [some (vi a0), some (vi a1), some (vi a2)] [] h _ _
  obtain ⟨r, hr⟩ : ∃ r : Option AV, r = some (vi x) := ⟨_, rfl⟩
  obtain ⟨h', hh⟩ : ∃ h' : AH, h' = h := ⟨_, rfl⟩
  have hP : r = some (vi x) ∧ h' = h := ⟨hr, hh⟩
  suffices hS : Ev Γ m_Law_joined 0 [some (vi a0), some (vi a1), some (vi a2)] [] h r h' by rw [hr, hh] at hS; exact hS
  clear hr hh
  unfold f_Law_joined at hx
  refine Ev.blk (pc' := 1) (lv' := [some (vi a0), some (vi a1), some (vi a2)]) (st' := [vi a0]) (h' := h) 0 1 (Nat.le_of_ble_eq_true rfl) tk_Law_joined rfl rfl ⟨trivial, trivial⟩ ?_
  by_cases hc1 : a0 = ii (-15)
  · replace hx := ip hc1 hx
    refine Ev.tabIn (off := 139) 1 140 (-15) tk_Law_joined rfl hc1 (by decide) (by decide) ?_
    refine Ev.blk (pc' := 143) (lv' := [some (vi a0), some (vi a1), some (vi a2)]) (st' := [vi (a1 ||| a2)]) (h' := h) 62 3 (Nat.le_of_ble_eq_true rfl) tk_Law_joined rfl rfl ⟨trivial, trivial, trivial, trivial⟩ ?_
    obtain rfl := Option.some.inj hx
    obtain ⟨rfl, rfl⟩ := hP
    exact Ev.iret 65 tk_Law_joined rfl rfl
  replace hx := ia hc1 hx
  by_cases hc2 : a0 = ii (-14)
  · replace hx := ip hc2 hx
    refine Ev.tabIn (off := 135) 1 136 (-14) tk_Law_joined rfl hc2 (by decide) (by decide) ?_
    refine Ev.blk (pc' := 139) (lv' := [some (vi a0), some (vi a1), some (vi a2)]) (st' := [vi (a1 &&& a2)]) (h' := h) 58 3 (Nat.le_of_ble_eq_true rfl) tk_Law_joined rfl rfl ⟨trivial, trivial, trivial, trivial⟩ ?_
    obtain rfl := Option.some.inj hx
    obtain ⟨rfl, rfl⟩ := hP
    exact Ev.iret 61 tk_Law_joined rfl rfl
  replace hx := ia hc2 hx
  by_cases hc3 : a0 = ii (-13)
  · replace hx := ip hc3 hx
    refine Ev.tabIn (off := 124) 1 125 (-13) tk_Law_joined rfl hc3 (by decide) (by decide) ?_
    refine Ev.blk (pc' := 127) (lv' := [some (vi a0), some (vi a1), some (vi a2)]) (st' := [vi a2, vi a1]) (h' := h) 51 2 (Nat.le_of_ble_eq_true rfl) tk_Law_joined rfl rfl ⟨trivial, trivial, trivial⟩ ?_
    refine Ev.icmp_le 53 134 tk_Law_joined rfl (by decide) (fun hc4 => ?_) (fun hc4 => ?_)
    · replace hx := ip hc4 hx
      refine Ev.blk (pc' := 135) (lv' := [some (vi a0), some (vi a1), some (vi a2)]) (st' := [vi (ii 0)]) (h' := h) 56 1 (Nat.le_of_ble_eq_true rfl) tk_Law_joined rfl rfl ⟨trivial, trivial⟩ ?_
      obtain rfl := Option.some.inj hx
      obtain ⟨rfl, rfl⟩ := hP
      exact Ev.iret 57 tk_Law_joined rfl rfl
    · replace hx := ia hc4 hx
      refine Ev.blk (pc' := 135) (lv' := [some (vi a0), some (vi a1), some (vi a2)]) (st' := [vi (ii 1)]) (h' := h) 54 2 (Nat.le_of_ble_eq_true rfl) tk_Law_joined rfl rfl ⟨trivial, trivial, trivial⟩ ?_
      obtain rfl := Option.some.inj hx
      obtain ⟨rfl, rfl⟩ := hP
      exact Ev.iret 57 tk_Law_joined rfl rfl
  replace hx := ia hc3 hx
  by_cases hc5 : a0 = ii (-12)
  · replace hx := ip hc5 hx
    refine Ev.tabIn (off := 113) 1 114 (-12) tk_Law_joined rfl hc5 (by decide) (by decide) ?_
    refine Ev.blk (pc' := 116) (lv' := [some (vi a0), some (vi a1), some (vi a2)]) (st' := [vi a2, vi a1]) (h' := h) 44 2 (Nat.le_of_ble_eq_true rfl) tk_Law_joined rfl rfl ⟨trivial, trivial, trivial⟩ ?_
    refine Ev.icmp_ge 46 123 tk_Law_joined rfl (by decide) (fun hc6 => ?_) (fun hc6 => ?_)
    · replace hx := ip hc6 hx
      refine Ev.blk (pc' := 124) (lv' := [some (vi a0), some (vi a1), some (vi a2)]) (st' := [vi (ii 0)]) (h' := h) 49 1 (Nat.le_of_ble_eq_true rfl) tk_Law_joined rfl rfl ⟨trivial, trivial⟩ ?_
      obtain rfl := Option.some.inj hx
      obtain ⟨rfl, rfl⟩ := hP
      exact Ev.iret 50 tk_Law_joined rfl rfl
    · replace hx := ia hc6 hx
      refine Ev.blk (pc' := 124) (lv' := [some (vi a0), some (vi a1), some (vi a2)]) (st' := [vi (ii 1)]) (h' := h) 47 2 (Nat.le_of_ble_eq_true rfl) tk_Law_joined rfl rfl ⟨trivial, trivial, trivial⟩ ?_
      obtain rfl := Option.some.inj hx
      obtain ⟨rfl, rfl⟩ := hP
      exact Ev.iret 50 tk_Law_joined rfl rfl
  replace hx := ia hc5 hx
  by_cases hc7 : a0 = ii (-11)
  · replace hx := ip hc7 hx
    refine Ev.tabIn (off := 102) 1 103 (-11) tk_Law_joined rfl hc7 (by decide) (by decide) ?_
    refine Ev.blk (pc' := 105) (lv' := [some (vi a0), some (vi a1), some (vi a2)]) (st' := [vi a2, vi a1]) (h' := h) 37 2 (Nat.le_of_ble_eq_true rfl) tk_Law_joined rfl rfl ⟨trivial, trivial, trivial⟩ ?_
    refine Ev.icmp_ne 39 112 tk_Law_joined rfl (by decide) (fun hc8 => ?_) (fun hc8 => ?_)
    · replace hx := ia hc8 hx
      refine Ev.blk (pc' := 113) (lv' := [some (vi a0), some (vi a1), some (vi a2)]) (st' := [vi (ii 0)]) (h' := h) 42 1 (Nat.le_of_ble_eq_true rfl) tk_Law_joined rfl rfl ⟨trivial, trivial⟩ ?_
      obtain rfl := Option.some.inj hx
      obtain ⟨rfl, rfl⟩ := hP
      exact Ev.iret 43 tk_Law_joined rfl rfl
    · replace hx := ip hc8 hx
      refine Ev.blk (pc' := 113) (lv' := [some (vi a0), some (vi a1), some (vi a2)]) (st' := [vi (ii 1)]) (h' := h) 40 2 (Nat.le_of_ble_eq_true rfl) tk_Law_joined rfl rfl ⟨trivial, trivial, trivial⟩ ?_
      obtain rfl := Option.some.inj hx
      obtain ⟨rfl, rfl⟩ := hP
      exact Ev.iret 43 tk_Law_joined rfl rfl
  replace hx := ia hc7 hx
  by_cases hc9 : a0 = ii (-10)
  · replace hx := ip hc9 hx
    refine Ev.tabIn (off := 90) 1 91 (-10) tk_Law_joined rfl hc9 (by decide) (by decide) ?_
    refine Ev.blk (pc' := 92) (lv' := [some (vi a0), some (vi a1), some (vi a2)]) (st' := [vi a2]) (h' := h) 29 1 (Nat.le_of_ble_eq_true rfl) tk_Law_joined rfl rfl ⟨trivial, trivial⟩ ?_
    refine Ev.if_ne 30 99 tk_Law_joined rfl (by decide) (fun hc10 => ?_) (fun hc10 => ?_)
    · replace hx := ia hc10 hx
      obtain ⟨hg11, hx⟩ := gd hx
      refine Ev.blk (pc' := 102) (lv' := [some (vi a0), some (vi a1), some (vi a2)]) (st' := [vi (a1 / a2)]) (h' := h) 33 3 (Nat.le_of_ble_eq_true rfl) tk_Law_joined rfl rfl ⟨trivial, trivial, hg11, trivial⟩ ?_
      obtain rfl := Option.some.inj hx
      obtain ⟨rfl, rfl⟩ := hP
      exact Ev.iret 36 tk_Law_joined rfl rfl
    · replace hx := ip hc10 hx
      refine Ev.blk (pc' := 102) (lv' := [some (vi a0), some (vi a1), some (vi a2)]) (st' := [vi (ii 0)]) (h' := h) 31 2 (Nat.le_of_ble_eq_true rfl) tk_Law_joined rfl rfl ⟨trivial, trivial, trivial⟩ ?_
      obtain rfl := Option.some.inj hx
      obtain ⟨rfl, rfl⟩ := hP
      exact Ev.iret 36 tk_Law_joined rfl rfl
  replace hx := ia hc9 hx
  by_cases hc12 : a0 = ii (-9)
  · replace hx := ip hc12 hx
    refine Ev.tabIn (off := 77) 1 78 (-9) tk_Law_joined rfl hc12 (by decide) (by decide) ?_
    refine Ev.blk (pc' := 87) (lv' := [some (vi a0), some (vi a1), some (vi a2)]) (st' := [vi (ii 1000000), vi (ii (-1000000)), vl (a1.toInt64 * a2.toInt64)]) (h' := h) 20 7 (Nat.le_of_ble_eq_true rfl) tk_Law_joined rfl rfl ⟨trivial, trivial, trivial, trivial, trivial, trivial, trivial, trivial⟩ ?_
    refine Ev.callSN (ν := m_HF_within) (av := [vl (a1.toInt64 * a2.toInt64), vi (ii (-1000000)), vi (ii 1000000)]) (rest := []) (r1 := some (vi (p_HF_within (a1.toInt64 * a2.toInt64) (ii (-1000000)) (ii 1000000)))) (h1 := h) 27 3 tk_Law_joined rfl bb_HF_within vv_HF_within lk_5_43 (by decide) rfl rfl (Nat.le_of_ble_eq_true rfl) (s_HF_within Γ (a1.toInt64 * a2.toInt64) (ii (-1000000)) (ii 1000000) h) ?_
    show Ev Γ m_Law_joined 90 [some (vi a0), some (vi a1), some (vi a2)] [vi (p_HF_within (a1.toInt64 * a2.toInt64) (ii (-1000000)) (ii 1000000))] h r h'
    obtain rfl := Option.some.inj hx
    obtain ⟨rfl, rfl⟩ := hP
    exact Ev.iret 28 tk_Law_joined rfl rfl
  replace hx := ia hc12 hx
  by_cases hc13 : a0 = ii (-8)
  · replace hx := ip hc13 hx
    refine Ev.tabIn (off := 64) 1 65 (-8) tk_Law_joined rfl hc13 (by decide) (by decide) ?_
    refine Ev.blk (pc' := 74) (lv' := [some (vi a0), some (vi a1), some (vi a2)]) (st' := [vi (ii 1000000), vi (ii (-1000000)), vl (a1.toInt64 - a2.toInt64)]) (h' := h) 11 7 (Nat.le_of_ble_eq_true rfl) tk_Law_joined rfl rfl ⟨trivial, trivial, trivial, trivial, trivial, trivial, trivial, trivial⟩ ?_
    refine Ev.callSN (ν := m_HF_within) (av := [vl (a1.toInt64 - a2.toInt64), vi (ii (-1000000)), vi (ii 1000000)]) (rest := []) (r1 := some (vi (p_HF_within (a1.toInt64 - a2.toInt64) (ii (-1000000)) (ii 1000000)))) (h1 := h) 18 3 tk_Law_joined rfl bb_HF_within vv_HF_within lk_5_43 (by decide) rfl rfl (Nat.le_of_ble_eq_true rfl) (s_HF_within Γ (a1.toInt64 - a2.toInt64) (ii (-1000000)) (ii 1000000) h) ?_
    show Ev Γ m_Law_joined 77 [some (vi a0), some (vi a1), some (vi a2)] [vi (p_HF_within (a1.toInt64 - a2.toInt64) (ii (-1000000)) (ii 1000000))] h r h'
    obtain rfl := Option.some.inj hx
    obtain ⟨rfl, rfl⟩ := hP
    exact Ev.iret 19 tk_Law_joined rfl rfl
  replace hx := ia hc13 hx
  by_cases hc14 : a0 = ii (-7)
  · replace hx := ip hc14 hx
    refine Ev.tabIn (off := 51) 1 52 (-7) tk_Law_joined rfl hc14 (by decide) (by decide) ?_
    refine Ev.blk (pc' := 61) (lv' := [some (vi a0), some (vi a1), some (vi a2)]) (st' := [vi (ii 1000000), vi (ii (-1000000)), vl (a1.toInt64 + a2.toInt64)]) (h' := h) 2 7 (Nat.le_of_ble_eq_true rfl) tk_Law_joined rfl rfl ⟨trivial, trivial, trivial, trivial, trivial, trivial, trivial, trivial⟩ ?_
    refine Ev.callSN (ν := m_HF_within) (av := [vl (a1.toInt64 + a2.toInt64), vi (ii (-1000000)), vi (ii 1000000)]) (rest := []) (r1 := some (vi (p_HF_within (a1.toInt64 + a2.toInt64) (ii (-1000000)) (ii 1000000)))) (h1 := h) 9 3 tk_Law_joined rfl bb_HF_within vv_HF_within lk_5_43 (by decide) rfl rfl (Nat.le_of_ble_eq_true rfl) (s_HF_within Γ (a1.toInt64 + a2.toInt64) (ii (-1000000)) (ii 1000000) h) ?_
    show Ev Γ m_Law_joined 64 [some (vi a0), some (vi a1), some (vi a2)] [vi (p_HF_within (a1.toInt64 + a2.toInt64) (ii (-1000000)) (ii 1000000))] h r h'
    obtain rfl := Option.some.inj hx
    obtain ⟨rfl, rfl⟩ := hP
    exact Ev.iret 10 tk_Law_joined rfl rfl
  replace hx := ia hc14 hx
  refine Ev.tabOut 1 144 9 tk_Law_joined rfl (by decide) (fun k hk => ?_) (by decide) ?_
  · rcases (show k = 0 ∨ k = 1 ∨ k = 2 ∨ k = 3 ∨ k = 4 ∨ k = 5 ∨ k = 6 ∨ k = 7 ∨ k = 8 by omega) with rfl | rfl | rfl | rfl | rfl | rfl | rfl | rfl | rfl
    · exact hc1
    · exact hc2
    · exact hc3
    · exact hc5
    · exact hc7
    · exact hc9
    · exact hc12
    · exact hc13
    · exact hc14
  · refine Ev.blk (pc' := 145) (lv' := [some (vi a0), some (vi a1), some (vi a2)]) (st' := [vi (ii 0)]) (h' := h) 66 1 (Nat.le_of_ble_eq_true rfl) tk_Law_joined rfl rfl ⟨trivial, trivial⟩ ?_
    obtain rfl := Option.some.inj hx
    obtain ⟨rfl, rfl⟩ := hP
    exact Ev.iret 67 tk_Law_joined rfl rfl
set_option maxRecDepth 4000 in
theorem s_Law_obey (Γ : AG) (o0 : Nat) (a1 : Int32) (n2 : Nat) (o2 : Nat) (h : AH) (x : AH) (hx : f_Law_obey o0 a1 n2 o2 h = some x) : MetA Γ m_Law_obey [vr 5 0 o0, vi a1, vr 20 n2 o2] h (none) x := by
  refine Ev.met rfl rfl (Nat.le_of_ble_eq_true rfl) ?_
  show Ev Γ m_Law_obey 0 [some (vr 5 0 o0), some (vi a1), some (vr 20 n2 o2), none, none] [] h _ _
  obtain ⟨r, hr⟩ : ∃ r : Option AV, r = none := ⟨_, rfl⟩
  obtain ⟨h', hh⟩ : ∃ h' : AH, h' = x := ⟨_, rfl⟩
  have hP : r = none ∧ h' = x := ⟨hr, hh⟩
  suffices hS : Ev Γ m_Law_obey 0 [some (vr 5 0 o0), some (vi a1), some (vr 20 n2 o2), none, none] [] h r h' by rw [hr, hh] at hS; exact hS
  clear hr hh
  unfold f_Law_obey at hx
  refine Ev.blk (pc' := 1) (lv' := [some (vr 5 0 o0), some (vi a1), some (vr 20 n2 o2), none, none]) (st' := [vi a1]) (h' := h) 0 1 (Nat.le_of_ble_eq_true rfl) tk_Law_obey rfl rfl ⟨trivial, trivial⟩ ?_
  refine Ev.if_lt 1 12 tk_Law_obey rfl (by decide) (fun hc1 => ?_) (fun hc1 => ?_)
  · replace hx := ip hc1 hx
    refine Ev.blk (pc' := 15) (lv' := [some (vr 5 0 o0), some (vi a1), some (vr 20 n2 o2), none, none]) (st' := [vi (ii (-7)), vi a1]) (h' := h) 6 2 (Nat.le_of_ble_eq_true rfl) tk_Law_obey rfl rfl ⟨trivial, trivial, trivial⟩ ?_
    refine Ev.icmp_le 8 42 tk_Law_obey rfl (by decide) (fun hc2 => ?_) (fun hc2 => ?_)
    · replace hx := ip hc2 hx
      refine Ev.blk (pc' := 45) (lv' := [some (vr 5 0 o0), some (vi a1), some (vr 20 n2 o2), none, none]) (st' := [vi (ii (-16)), vi a1]) (h' := h) 25 2 (Nat.le_of_ble_eq_true rfl) tk_Law_obey rfl rfl ⟨trivial, trivial, trivial⟩ ?_
      refine Ev.icmp_ne 27 67 tk_Law_obey rfl (by decide) (fun hc3 => ?_) (fun hc3 => ?_)
      · replace hx := ia hc3 hx
        refine Ev.blk (pc' := 68) (lv' := [some (vr 5 0 o0), some (vi a1), some (vr 20 n2 o2), none, none]) (st' := [vr 5 0 o0]) (h' := h) 37 1 (Nat.le_of_ble_eq_true rfl) tk_Law_obey rfl rfl ⟨trivial, trivial⟩ ?_
        obtain ⟨q1, hq4, hx⟩ := bd hx
        refine Ev.callV (ν := m_Law_pop) (av := []) (rest := []) (r1 := some (vi q1.1)) (h1 := q1.2) (ci := 5) (nn := 0) (o := o0) 38 0 tk_Law_obey rfl bb_Law_pop vv_Law_pop lk_5_25 (by decide) rfl rfl (Or.inl rfl) (Nat.le_of_ble_eq_true rfl) (s_Law_pop Γ o0 h _ hq4) ?_
        show Ev Γ m_Law_obey 71 [some (vr 5 0 o0), some (vi a1), some (vr 20 n2 o2), none, none] [vi q1.1] q1.2 r h'
        refine Ev.blk (pc' := 73) (lv' := [some (vr 5 0 o0), some (vi a1), some (vr 20 n2 o2), some (vi q1.1), none]) (st' := [vr 5 0 o0]) (h' := q1.2) 39 2 (Nat.le_of_ble_eq_true rfl) tk_Law_obey rfl rfl ⟨trivial, trivial, trivial⟩ ?_
        obtain ⟨q2, hq5, hx⟩ := bd hx
        refine Ev.callV (ν := m_Law_pop) (av := []) (rest := []) (r1 := some (vi q2.1)) (h1 := q2.2) (ci := 5) (nn := 0) (o := o0) 41 0 tk_Law_obey rfl bb_Law_pop vv_Law_pop lk_5_25 (by decide) rfl rfl (Or.inl rfl) (Nat.le_of_ble_eq_true rfl) (s_Law_pop Γ o0 q1.2 _ hq5) ?_
        show Ev Γ m_Law_obey 76 [some (vr 5 0 o0), some (vi a1), some (vr 20 n2 o2), some (vi q1.1), none] [vi q2.1] q2.2 r h'
        refine Ev.blk (pc' := 83) (lv' := [some (vr 5 0 o0), some (vi a1), some (vr 20 n2 o2), some (vi q1.1), some (vi q2.1)]) (st' := [vi q1.1, vi q2.1, vi a1, vr 5 0 o0]) (h' := q2.2) 42 5 (Nat.le_of_ble_eq_true rfl) tk_Law_obey rfl rfl ⟨trivial, trivial, trivial, trivial, trivial, trivial⟩ ?_
        obtain ⟨q3, hq6, hx⟩ := bd hx
        refine Ev.callS (ν := m_Law_joined) (av := [vi a1, vi q2.1, vi q1.1]) (rest := [vr 5 0 o0]) (r1 := some (vi q3)) (h1 := q2.2) 47 3 tk_Law_obey rfl bb_Law_joined vv_Law_joined lk_5_37 (by decide) rfl rfl (Nat.le_of_ble_eq_true rfl) (s_Law_joined Γ a1 q2.1 q1.1 q2.2 _ hq6) ?_
        show Ev Γ m_Law_obey 86 [some (vr 5 0 o0), some (vi a1), some (vr 20 n2 o2), some (vi q1.1), some (vi q2.1)] [vi q3, vr 5 0 o0] q2.2 r h'
        obtain ⟨q4, hq7, hx⟩ := bd hx
        refine Ev.callV (ν := m_Law_push) (av := [vi q3]) (rest := []) (r1 := none) (h1 := q4) (ci := 5) (nn := 0) (o := o0) 48 1 tk_Law_obey rfl bb_Law_push vv_Law_push lk_5_33 (by decide) rfl rfl (Or.inl rfl) (Nat.le_of_ble_eq_true rfl) (s_Law_push Γ o0 q3 q2.2 _ hq7) ?_
        show Ev Γ m_Law_obey 89 [some (vr 5 0 o0), some (vi a1), some (vr 20 n2 o2), some (vi q1.1), some (vi q2.1)] [] q4 r h'
        obtain rfl := Option.some.inj hx
        obtain ⟨rfl, rfl⟩ := hP
        exact Ev.vret 49 tk_Law_obey rfl rfl
      · replace hx := ip hc3 hx
        refine Ev.blk (pc' := 50) (lv' := [some (vr 5 0 o0), some (vi a1), some (vr 20 n2 o2), none, none]) (st' := [vr 5 0 o0, vr 5 0 o0]) (h' := h) 28 2 (Nat.le_of_ble_eq_true rfl) tk_Law_obey rfl rfl ⟨trivial, trivial, trivial⟩ ?_
        obtain ⟨q5, hq8, hx⟩ := bd hx
        refine Ev.callV (ν := m_Law_pop) (av := []) (rest := [vr 5 0 o0]) (r1 := some (vi q5.1)) (h1 := q5.2) (ci := 5) (nn := 0) (o := o0) 30 0 tk_Law_obey rfl bb_Law_pop vv_Law_pop lk_5_25 (by decide) rfl rfl (Or.inl rfl) (Nat.le_of_ble_eq_true rfl) (s_Law_pop Γ o0 h _ hq8) ?_
        show Ev Γ m_Law_obey 53 [some (vr 5 0 o0), some (vi a1), some (vr 20 n2 o2), none, none] [vi q5.1, vr 5 0 o0] q5.2 r h'
        have K9 : ∀ v9_0 : Int32, v9_0 = (if q5.1 = 0 then (ii 1) else (ii 0)) → Ev Γ m_Law_obey 61 [none, none, none, none, none] [vi v9_0, vr 5 0 o0] q5.2 r h' := by
          intro v9_0 e10
          subst e10
          obtain ⟨q6, hq11, hx⟩ := bd hx
          refine Ev.callV (ν := m_Law_push) (av := [vi (if q5.1 = 0 then (ii 1) else (ii 0))]) (rest := []) (r1 := none) (h1 := q6) (ci := 5) (nn := 0) (o := o0) 35 1 tk_Law_obey rfl bb_Law_push vv_Law_push lk_5_33 (by decide) rfl rfl (Or.inl rfl) (Nat.le_of_ble_eq_true rfl) (s_Law_push Γ o0 (if q5.1 = 0 then (ii 1) else (ii 0)) q5.2 _ hq11) ?_
          show Ev Γ m_Law_obey 64 [none, none, none, none, none] [] q6 r h'
          refine Ev.blk (pc' := 89) (lv' := [none, none, none, none, none]) (st' := []) (h' := q6) 36 1 (Nat.le_of_ble_eq_true rfl) tk_Law_obey rfl rfl ⟨trivial, trivial⟩ ?_
          obtain rfl := Option.some.inj hx
          obtain ⟨rfl, rfl⟩ := hP
          exact Ev.vret 49 tk_Law_obey rfl rfl
        refine Ev.if_ne 31 60 tk_Law_obey rfl (by decide) (fun hc12 => ?_) (fun hc12 => ?_)
        · refine Ev.blk (pc' := 61) (lv' := [some (vr 5 0 o0), some (vi a1), some (vr 20 n2 o2), none, none]) (st' := [vi (ii 0), vr 5 0 o0]) (h' := q5.2) 34 1 (Nat.le_of_ble_eq_true rfl) tk_Law_obey rfl rfl ⟨trivial, trivial⟩ ?_
          exact Ev.msk [false, false, false, false, false] (K9 _ (by first | rfl | simp only [if_neg hc12]))
        · refine Ev.blk (pc' := 61) (lv' := [some (vr 5 0 o0), some (vi a1), some (vr 20 n2 o2), none, none]) (st' := [vi (ii 1), vr 5 0 o0]) (h' := q5.2) 32 2 (Nat.le_of_ble_eq_true rfl) tk_Law_obey rfl rfl ⟨trivial, trivial, trivial⟩ ?_
          exact Ev.msk [false, false, false, false, false] (K9 _ (by first | rfl | simp only [if_pos hc12]))
    · replace hx := ia hc2 hx
      refine Ev.blk (pc' := 26) (lv' := [some (vr 5 0 o0), some (vi a1), some (vr 20 n2 o2), some (vi ((ii (-1)) - a1)), none]) (st' := [vi (ii (n2 : Int)), vi ((ii (-1)) - a1), vr 5 0 o0]) (h' := h) 9 8 (Nat.le_of_ble_eq_true rfl) tk_Law_obey rfl rfl ⟨trivial, trivial, trivial, trivial, trivial, trivial, trivial, trivial, trivial⟩ ?_
      obtain ⟨q7, hq13, hx⟩ := bd hx
      have K14 : Ev Γ m_Law_obey 36 [none, none, none, none, none] [vi q7, vr 5 0 o0] h r h' := by
        obtain ⟨q8, hq15, hx⟩ := bd hx
        refine Ev.callV (ν := m_Law_push) (av := [vi q7]) (rest := []) (r1 := none) (h1 := q8) (ci := 5) (nn := 0) (o := o0) 23 1 tk_Law_obey rfl bb_Law_push vv_Law_push lk_5_33 (by decide) rfl rfl (Or.inl rfl) (Nat.le_of_ble_eq_true rfl) (s_Law_push Γ o0 q7 h _ hq15) ?_
        show Ev Γ m_Law_obey 39 [none, none, none, none, none] [] q8 r h'
        refine Ev.blk (pc' := 89) (lv' := [none, none, none, none, none]) (st' := []) (h' := q8) 24 1 (Nat.le_of_ble_eq_true rfl) tk_Law_obey rfl rfl ⟨trivial, trivial⟩ ?_
        obtain rfl := Option.some.inj hx
        obtain ⟨rfl, rfl⟩ := hP
        exact Ev.vret 49 tk_Law_obey rfl rfl
      clear hx
      refine Ev.icmp_ge 17 35 tk_Law_obey rfl (by decide) (fun hc16 => ?_) (fun hc16 => ?_)
      · replace hq13 := ip hc16 hq13
        refine Ev.blk (pc' := 36) (lv' := [some (vr 5 0 o0), some (vi a1), some (vr 20 n2 o2), some (vi ((ii (-1)) - a1)), none]) (st' := [vi (ii 0), vr 5 0 o0]) (h' := h) 22 1 (Nat.le_of_ble_eq_true rfl) tk_Law_obey rfl rfl ⟨trivial, trivial⟩ ?_
        obtain rfl := Option.some.inj hq13
        exact Ev.msk [false, false, false, false, false] K14
      · replace hq13 := ia hc16 hq13
        obtain ⟨hg17, hq13⟩ := gd hq13
        refine Ev.blk (pc' := 36) (lv' := [some (vr 5 0 o0), some (vi a1), some (vr 20 n2 o2), some (vi ((ii (-1)) - a1)), none]) (st' := [vi (h.1 o2 ((ii (-1)) - a1).toNatClampNeg), vr 5 0 o0]) (h' := h) 18 4 (Nat.le_of_ble_eq_true rfl) tk_Law_obey rfl rfl ⟨trivial, trivial, hg17, trivial, trivial⟩ ?_
        obtain rfl := Option.some.inj hq13
        exact Ev.msk [false, false, false, false, false] K14
  · replace hx := ia hc1 hx
    refine Ev.blk (pc' := 6) (lv' := [some (vr 5 0 o0), some (vi a1), some (vr 20 n2 o2), none, none]) (st' := [vi a1, vr 5 0 o0]) (h' := h) 2 2 (Nat.le_of_ble_eq_true rfl) tk_Law_obey rfl rfl ⟨trivial, trivial, trivial⟩ ?_
    obtain ⟨q9, hq18, hx⟩ := bd hx
    refine Ev.callV (ν := m_Law_push) (av := [vi a1]) (rest := []) (r1 := none) (h1 := q9) (ci := 5) (nn := 0) (o := o0) 4 1 tk_Law_obey rfl bb_Law_push vv_Law_push lk_5_33 (by decide) rfl rfl (Or.inl rfl) (Nat.le_of_ble_eq_true rfl) (s_Law_push Γ o0 a1 h _ hq18) ?_
    show Ev Γ m_Law_obey 9 [some (vr 5 0 o0), some (vi a1), some (vr 20 n2 o2), none, none] [] q9 r h'
    refine Ev.blk (pc' := 89) (lv' := [some (vr 5 0 o0), some (vi a1), some (vr 20 n2 o2), none, none]) (st' := []) (h' := q9) 5 1 (Nat.le_of_ble_eq_true rfl) tk_Law_obey rfl rfl ⟨trivial, trivial⟩ ?_
    obtain rfl := Option.some.inj hx
    obtain ⟨rfl, rfl⟩ := hP
    exact Ev.vret 49 tk_Law_obey rfl rfl
