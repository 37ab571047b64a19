set_option maxRecDepth 4000 in
theorem l_HF_wishers_L40 (Γ : AG) : ∀ (n : Nat) (v1 : Int32) (v2 : Int32) (v3 : Int32) (h : AH) (x : Int32 × AH), HF_wishers_L40 n v1 v2 v3 h = some x → ∀ (r : Option AV) (h' : AH), r = some (vi x.1) ∧ h' = x.2 → Ev Γ m_HF_wishers 40 [some (vr 0 0 0), some (vi v1), some (vi v2), some (vi v3)] [] h r h' := by
  intro n
  induction n with
  | zero => intro v1 v2 v3 h x hx; cases hx
  | succ n ih =>
    intro v1 v2 v3 h x hx r h' hP
    replace hx : HF_wishers_L40_b (HF_wishers_L40 n) v1 v2 v3 h = some x := hx
    unfold HF_wishers_L40_b at hx
    refine Ev.blk (pc' := 48) (lv' := [some (vr 0 0 0), some (vi v1), some (vi v2), some (vi v3)]) (st' := [vi (h.1 (h.2.2 0 13) 10), vi v3]) (h' := h) 22 4 (Nat.le_of_ble_eq_true rfl) tk_HF_wishers rfl rfl ⟨trivial, trivial, trivial, trivial, trivial⟩ ?_
    refine Ev.icmp_ge 26 77 tk_HF_wishers rfl (by decide) (fun hc1 => ?_) (fun hc1 => ?_)
    · replace hx := ip hc1 hx
      refine Ev.blk (pc' := 78) (lv' := [some (vr 0 0 0), some (vi v1), some (vi v2), some (vi v3)]) (st' := [vi v2]) (h' := h) 41 1 (Nat.le_of_ble_eq_true rfl) tk_HF_wishers rfl rfl ⟨trivial, trivial⟩ ?_
      obtain rfl := Option.some.inj hx
      obtain ⟨rfl, rfl⟩ := hP
      exact Ev.iret 42 tk_HF_wishers rfl rfl
    · replace hx := ia hc1 hx
      refine Ev.blk (pc' := 58) (lv' := [some (vr 0 0 0), some (vi v1), some (vi v2), some (vi v3)]) (st' := [vi v1, vi v3, vr 8 0 13, vr 0 0 0]) (h' := h) 27 5 (Nat.le_of_ble_eq_true rfl) tk_HF_wishers rfl rfl ⟨trivial, trivial, trivial, trivial, trivial, trivial⟩ ?_
      obtain ⟨q1, hq2, hx⟩ := bd hx
      refine Ev.callV (ν := m_HF_twitchIn) (av := [vr 8 0 13, vi v3, vi v1]) (rest := []) (r1 := some (vi q1.1)) (h1 := q1.2) (ci := 0) (nn := 0) (o := 0) 32 3 tk_HF_wishers rfl bb_HF_twitchIn vv_HF_twitchIn lk_0_199 (by decide) rfl rfl (Or.inl rfl) (Nat.le_of_ble_eq_true rfl) (s_HF_twitchIn Γ 13 v3 v1 h _ hq2) ?_
      show Ev Γ m_HF_wishers 61 [some (vr 0 0 0), some (vi v1), some (vi v2), some (vi v3)] [vi q1.1] q1.2 r h'
      have K3 : ∀ v3_0 : Int32, v3_0 = (if q1.1 ≤ 0 then v2 else (v2 ||| (p_HF_bit v3))) → Ev Γ m_HF_wishers 71 [some (vr 0 0 0), some (vi v1), some (vi v3_0), some (vi v3)] [] q1.2 r h' := by
        intro v3_0 e4
        subst e4
        refine Ev.blk (pc' := 40) (lv' := [some (vr 0 0 0), some (vi v1), some (vi (if q1.1 ≤ 0 then v2 else (v2 ||| (p_HF_bit v3)))), some (vi (v3 + ii 1))]) (st' := []) (h' := q1.2) 39 2 (Nat.le_of_ble_eq_true rfl) tk_HF_wishers rfl rfl ⟨trivial, trivial, trivial⟩ ?_
        exact Ev.msk [true, true, true, true] (ih v1 (if q1.1 ≤ 0 then v2 else (v2 ||| (p_HF_bit v3))) (v3 + ii 1) q1.2 _ hx r h' hP)
      refine Ev.if_le 33 71 tk_HF_wishers rfl (by decide) (fun hc5 => ?_) (fun hc5 => ?_)
      · exact Ev.msk [true, true, true, true] (K3 _ (by first | rfl | simp only [if_pos hc5]))
      · refine Ev.blk (pc' := 66) (lv' := [some (vr 0 0 0), some (vi v1), some (vi v2), some (vi v3)]) (st' := [vi v3, vi v2]) (h' := q1.2) 34 2 (Nat.le_of_ble_eq_true rfl) tk_HF_wishers rfl rfl ⟨trivial, trivial, trivial⟩ ?_
        refine Ev.callS (ν := m_HF_bit) (av := [vi v3]) (rest := [vi v2]) (r1 := some (vi (p_HF_bit v3))) (h1 := q1.2) 36 1 tk_HF_wishers rfl bb_HF_bit vv_HF_bit lk_0_327 (by decide) rfl rfl (Nat.le_of_ble_eq_true rfl) (s_HF_bit Γ v3 q1.2) ?_
        show Ev Γ m_HF_wishers 69 [some (vr 0 0 0), some (vi v1), some (vi v2), some (vi v3)] [vi (p_HF_bit v3), vi v2] q1.2 r h'
        refine Ev.blk (pc' := 71) (lv' := [some (vr 0 0 0), some (vi v1), some (vi (v2 ||| (p_HF_bit v3))), some (vi v3)]) (st' := []) (h' := q1.2) 37 2 (Nat.le_of_ble_eq_true rfl) tk_HF_wishers rfl rfl ⟨trivial, trivial, trivial⟩ ?_
        exact Ev.msk [true, true, true, true] (K3 _ (by first | rfl | simp only [if_neg hc5]))
set_option maxRecDepth 4000 in
theorem s_HF_wishers (Γ : AG) (a1 : Int32) (h : AH) (x : Int32 × AH) (hx : f_HF_wishers a1 h = some x) : MetA Γ m_HF_wishers [vr 0 0 0, vi a1] h (some (vi x.1)) x.2 := by
  refine Ev.met rfl rfl (Nat.le_of_ble_eq_true rfl) ?_
  show Ev Γ m_HF_wishers 0 [some (vr 0 0 0), some (vi a1), none, none] [] h _ _
  obtain ⟨r, hr⟩ : ∃ r : Option AV, r = some (vi x.1) := ⟨_, rfl⟩
  obtain ⟨h', hh⟩ : ∃ h' : AH, h' = x.2 := ⟨_, rfl⟩
  have hP : r = some (vi x.1) ∧ h' = x.2 := ⟨hr, hh⟩
  suffices hS : Ev Γ m_HF_wishers 0 [some (vr 0 0 0), some (vi a1), none, none] [] h r h' by rw [hr, hh] at hS; exact hS
  clear hr hh
  unfold f_HF_wishers at hx
  refine Ev.blk (pc' := 5) (lv' := [some (vr 0 0 0), some (vi a1), none, none]) (st' := [vi a1, vr 3 0 (h.2.2 0 13)]) (h' := h) 0 3 (Nat.le_of_ble_eq_true rfl) tk_HF_wishers rfl rfl ⟨trivial, trivial, trivial, trivial⟩ ?_
  refine Ev.callV (ν := m_Heath_isCell) (av := [vi a1]) (rest := []) (r1 := some (vi (p_Heath_isCell (h.2.2 0 13) a1 h))) (h1 := h) (ci := 3) (nn := 0) (o := (h.2.2 0 13)) 3 1 tk_HF_wishers rfl bb_Heath_isCell vv_Heath_isCell lk_0_153 (by decide) rfl rfl (Or.inl rfl) (Nat.le_of_ble_eq_true rfl) (s_Heath_isCell Γ (h.2.2 0 13) a1 h) ?_
  show Ev Γ m_HF_wishers 8 [some (vr 0 0 0), some (vi a1), none, none] [vi (p_Heath_isCell (h.2.2 0 13) a1 h)] h r h'
  refine Ev.if_eq 4 34 tk_HF_wishers rfl (by decide) (fun hc1 => ?_) (fun hc1 => ?_)
  · replace hx := ip hc1 hx
    refine Ev.blk (pc' := 35) (lv' := [some (vr 0 0 0), some (vi a1), none, none]) (st' := [vi (ii (-1))]) (h' := h) 16 1 (Nat.le_of_ble_eq_true rfl) tk_HF_wishers rfl rfl ⟨trivial, trivial⟩ ?_
    obtain rfl := Option.some.inj hx
    obtain ⟨rfl, rfl⟩ := hP
    exact Ev.iret 17 tk_HF_wishers rfl rfl
  · replace hx := ia hc1 hx
    refine Ev.blk (pc' := 16) (lv' := [some (vr 0 0 0), some (vi a1), none, none]) (st' := [vi a1, vr 3 0 (h.2.2 0 13)]) (h' := h) 5 3 (Nat.le_of_ble_eq_true rfl) tk_HF_wishers rfl rfl ⟨trivial, trivial, trivial, trivial⟩ ?_
    obtain ⟨q1, hq2, hx⟩ := bd hx
    refine Ev.callV (ν := m_Heath_hasWater) (av := [vi a1]) (rest := []) (r1 := some (vi q1)) (h1 := h) (ci := 3) (nn := 0) (o := (h.2.2 0 13)) 8 1 tk_HF_wishers rfl bb_Heath_hasWater vv_Heath_hasWater lk_0_370 (by decide) rfl rfl (Or.inl rfl) (Nat.le_of_ble_eq_true rfl) (s_Heath_hasWater Γ (h.2.2 0 13) a1 h _ hq2) ?_
    show Ev Γ m_HF_wishers 19 [some (vr 0 0 0), some (vi a1), none, none] [vi q1] h r h'
    refine Ev.if_ne 9 34 tk_HF_wishers rfl (by decide) (fun hc3 => ?_) (fun hc3 => ?_)
    · replace hx := ia hc3 hx
      refine Ev.blk (pc' := 35) (lv' := [some (vr 0 0 0), some (vi a1), none, none]) (st' := [vi (ii (-1))]) (h' := h) 16 1 (Nat.le_of_ble_eq_true rfl) tk_HF_wishers rfl rfl ⟨trivial, trivial⟩ ?_
      obtain rfl := Option.some.inj hx
      obtain ⟨rfl, rfl⟩ := hP
      exact Ev.iret 17 tk_HF_wishers rfl rfl
    · replace hx := ip hc3 hx
      refine Ev.blk (pc' := 27) (lv' := [some (vr 0 0 0), some (vi a1), none, none]) (st' := [vi a1, vr 3 0 (h.2.2 0 13)]) (h' := h) 10 3 (Nat.le_of_ble_eq_true rfl) tk_HF_wishers rfl rfl ⟨trivial, trivial, trivial, trivial⟩ ?_
      obtain ⟨q2, hq4, hx⟩ := bd hx
      refine Ev.callV (ν := m_Heath_ironIn) (av := [vi a1]) (rest := []) (r1 := some (vi q2)) (h1 := h) (ci := 3) (nn := 0) (o := (h.2.2 0 13)) 13 1 tk_HF_wishers rfl bb_Heath_ironIn vv_Heath_ironIn lk_0_164 (by decide) rfl rfl (Or.inl rfl) (Nat.le_of_ble_eq_true rfl) (s_Heath_ironIn Γ (h.2.2 0 13) a1 h _ hq4) ?_
      show Ev Γ m_HF_wishers 30 [some (vr 0 0 0), some (vi a1), none, none] [vi q2] h r h'
      refine Ev.blk (pc' := 31) (lv' := [some (vr 0 0 0), some (vi a1), none, none]) (st' := [vi (ii (-1)), vi q2]) (h' := h) 14 1 (Nat.le_of_ble_eq_true rfl) tk_HF_wishers rfl rfl ⟨trivial, trivial⟩ ?_
      refine Ev.icmp_eq 15 36 tk_HF_wishers rfl (by decide) (fun hc5 => ?_) (fun hc5 => ?_)
      · replace hx := ip hc5 hx
        refine Ev.blk (pc' := 40) (lv' := [some (vr 0 0 0), some (vi a1), some (vi (ii 0)), some (vi (ii 0))]) (st' := []) (h' := h) 18 4 (Nat.le_of_ble_eq_true rfl) tk_HF_wishers rfl rfl ⟨trivial, trivial, trivial, trivial, trivial⟩ ?_
        refine Ev.msk [true, true, true, true] ?_
        show Ev Γ m_HF_wishers 40 [some (vr 0 0 0), some (vi a1), some (vi (ii 0)), some (vi (ii 0))] [] h r h'
        exact l_HF_wishers_L40 Γ FU a1 (ii 0) (ii 0) h _ hx r h' hP
      · replace hx := ia hc5 hx
        refine Ev.blk (pc' := 35) (lv' := [some (vr 0 0 0), some (vi a1), none, none]) (st' := [vi (ii (-1))]) (h' := h) 16 1 (Nat.le_of_ble_eq_true rfl) tk_HF_wishers rfl rfl ⟨trivial, trivial⟩ ?_
        obtain rfl := Option.some.inj hx
        obtain ⟨rfl, rfl⟩ := hP
        exact Ev.iret 17 tk_HF_wishers rfl rfl
set_option maxRecDepth 4000 in
theorem l_HF_truthOf_L4 (Γ : AG) : ∀ (n : Nat) (v1 : Int32) (v2 : Int32) (v3 : Int32) (h : AH) (x : Int32), HF_truthOf_L4 n v1 v2 v3 h = some x → ∀ (r : Option AV) (h' : AH), r = some (vi x) ∧ h' = h → Ev Γ m_HF_truthOf 4 [some (vr 0 0 0), some (vi v1), some (vi v2), some (vi v3), none] [] h r h' := by
  intro n
  induction n with
  | zero => intro v1 v2 v3 h x hx; cases hx
  | succ n ih =>
    intro v1 v2 v3 h x hx r h' hP
    replace hx : HF_truthOf_L4_b (HF_truthOf_L4 n) v1 v2 v3 h = some x := hx
    unfold HF_truthOf_L4_b at hx
    refine Ev.blk (pc' := 9) (lv' := [some (vr 0 0 0), some (vi v1), some (vi v2), some (vi v3), none]) (st' := [vr 8 0 13, vi v3]) (h' := h) 4 3 (Nat.le_of_ble_eq_true rfl) tk_HF_truthOf rfl rfl ⟨trivial, trivial, trivial, trivial⟩ ?_
    refine Ev.callV (ν := m_Moor_bookLength) (av := []) (rest := [vi v3]) (r1 := some (vi (p_Moor_bookLength 13 h))) (h1 := h) (ci := 8) (nn := 0) (o := 13) 7 0 tk_HF_truthOf rfl bb_Moor_bookLength vv_Moor_bookLength lk_0_271 (by decide) rfl rfl (Or.inl rfl) (Nat.le_of_ble_eq_true rfl) (s_Moor_bookLength Γ 13 h) ?_
    show Ev Γ m_HF_truthOf 12 [some (vr 0 0 0), some (vi v1), some (vi v2), some (vi v3), none] [vi (p_Moor_bookLength 13 h), vi v3] h r h'
    refine Ev.icmp_ge 8 96 tk_HF_truthOf rfl (by decide) (fun hc1 => ?_) (fun hc1 => ?_)
    · replace hx := ip hc1 hx
      refine Ev.blk (pc' := 97) (lv' := [some (vr 0 0 0), some (vi v1), some (vi v2), some (vi v3), none]) (st' := [vi v2]) (h' := h) 49 1 (Nat.le_of_ble_eq_true rfl) tk_HF_truthOf rfl rfl ⟨trivial, trivial⟩ ?_
      obtain rfl := Option.some.inj hx
      obtain ⟨rfl, rfl⟩ := hP
      exact Ev.iret 50 tk_HF_truthOf rfl rfl
    · replace hx := ia hc1 hx
      refine Ev.blk (pc' := 20) (lv' := [some (vr 0 0 0), some (vi v1), some (vi v2), some (vi v3), none]) (st' := [vi v3, vr 8 0 13]) (h' := h) 9 3 (Nat.le_of_ble_eq_true rfl) tk_HF_truthOf rfl rfl ⟨trivial, trivial, trivial, trivial⟩ ?_
      obtain ⟨q1, hq2, hx⟩ := bd hx
      refine Ev.callV (ν := m_Moor_forkOn) (av := [vi v3]) (rest := []) (r1 := some (vi q1)) (h1 := h) (ci := 8) (nn := 0) (o := 13) 12 1 tk_HF_truthOf rfl bb_Moor_forkOn vv_Moor_forkOn lk_0_274 (by decide) rfl rfl (Or.inl rfl) (Nat.le_of_ble_eq_true rfl) (s_Moor_forkOn Γ 13 v3 h _ hq2) ?_
      show Ev Γ m_HF_truthOf 23 [some (vr 0 0 0), some (vi v1), some (vi v2), some (vi v3), none] [vi q1] h r h'
      refine Ev.blk (pc' := 24) (lv' := [some (vr 0 0 0), some (vi v1), some (vi v2), some (vi v3), none]) (st' := [vi v1, vi q1]) (h' := h) 13 1 (Nat.le_of_ble_eq_true rfl) tk_HF_truthOf rfl rfl ⟨trivial, trivial⟩ ?_
      obtain ⟨q7, hq3, hx⟩ := bd hx
      have K4 : Ev Γ m_HF_truthOf 90 [some (vr 0 0 0), some (vi v1), some (vi q7), some (vi v3), none] [] h r h' := by
        refine Ev.blk (pc' := 4) (lv' := [some (vr 0 0 0), some (vi v1), some (vi q7), some (vi (v3 + ii 1)), none]) (st' := []) (h' := h) 47 2 (Nat.le_of_ble_eq_true rfl) tk_HF_truthOf rfl rfl ⟨trivial, trivial, trivial⟩ ?_
        exact Ev.msk [true, true, true, true, false] (ih v1 q7 (v3 + ii 1) h _ hx r h' hP)
      clear hx
      refine Ev.icmp_ne 14 90 tk_HF_truthOf rfl (by decide) (fun hc5 => ?_) (fun hc5 => ?_)
      · replace hq3 := ia hc5 hq3
        obtain rfl := Option.some.inj hq3
        exact Ev.msk [true, true, true, true, false] K4
      · replace hq3 := ip hc5 hq3
        refine Ev.blk (pc' := 32) (lv' := [some (vr 0 0 0), some (vi v1), some (vi v2), some (vi v3), none]) (st' := [vi v3, vr 8 0 13]) (h' := h) 15 3 (Nat.le_of_ble_eq_true rfl) tk_HF_truthOf rfl rfl ⟨trivial, trivial, trivial, trivial⟩ ?_
        obtain ⟨q2, hq6, hq3⟩ := bd hq3
        refine Ev.callV (ν := m_Moor_twitchOn) (av := [vi v3]) (rest := []) (r1 := some (vi q2)) (h1 := h) (ci := 8) (nn := 0) (o := 13) 18 1 tk_HF_truthOf rfl bb_Moor_twitchOn vv_Moor_twitchOn lk_0_280 (by decide) rfl rfl (Or.inl rfl) (Nat.le_of_ble_eq_true rfl) (s_Moor_twitchOn Γ 13 v3 h _ hq6) ?_
        show Ev Γ m_HF_truthOf 35 [some (vr 0 0 0), some (vi v1), some (vi v2), some (vi v3), none] [vi q2] h r h'
        refine Ev.if_le 19 90 tk_HF_truthOf rfl (by decide) (fun hc7 => ?_) (fun hc7 => ?_)
        · replace hq3 := ip hc7 hq3
          obtain rfl := Option.some.inj hq3
          exact Ev.msk [true, true, true, true, false] K4
        · replace hq3 := ia hc7 hq3
          refine Ev.blk (pc' := 47) (lv' := [some (vr 0 0 0), some (vi v1), some (vi v2), some (vi v3), none]) (st' := [vi v3, vr 8 0 13, vr 3 0 (h.2.2 0 13)]) (h' := h) 20 5 (Nat.le_of_ble_eq_true rfl) tk_HF_truthOf rfl rfl ⟨trivial, trivial, trivial, trivial, trivial, trivial⟩ ?_
          obtain ⟨q3, hq8, hq3⟩ := bd hq3
          refine Ev.callV (ν := m_Moor_cellOn) (av := [vi v3]) (rest := [vr 3 0 (h.2.2 0 13)]) (r1 := some (vi q3)) (h1 := h) (ci := 8) (nn := 0) (o := 13) 25 1 tk_HF_truthOf rfl bb_Moor_cellOn vv_Moor_cellOn lk_0_277 (by decide) rfl rfl (Or.inl rfl) (Nat.le_of_ble_eq_true rfl) (s_Moor_cellOn Γ 13 v3 h _ hq8) ?_
          show Ev Γ m_HF_truthOf 50 [some (vr 0 0 0), some (vi v1), some (vi v2), some (vi v3), none] [vi q3, vr 3 0 (h.2.2 0 13)] h r h'
          refine Ev.blk (pc' := 57) (lv' := [some (vr 0 0 0), some (vi v1), some (vi v2), some (vi v3), none]) (st' := [vi (h.1 13 8), vi q3, vr 3 0 (h.2.2 0 13)]) (h' := h) 26 3 (Nat.le_of_ble_eq_true rfl) tk_HF_truthOf rfl rfl ⟨trivial, trivial, trivial, trivial⟩ ?_
          obtain ⟨q4, hq9, hq3⟩ := bd hq3
          refine Ev.callV (ν := m_Heath_waterIn) (av := [vi q3, vi (h.1 13 8)]) (rest := []) (r1 := some (vi q4)) (h1 := h) (ci := 3) (nn := 0) (o := (h.2.2 0 13)) 29 2 tk_HF_truthOf rfl bb_Heath_waterIn vv_Heath_waterIn lk_0_160 (by decide) rfl rfl (Or.inl rfl) (Nat.le_of_ble_eq_true rfl) (s_Heath_waterIn Γ (h.2.2 0 13) q3 (h.1 13 8) h _ hq9) ?_
          show Ev Γ m_HF_truthOf 60 [some (vr 0 0 0), some (vi v1), some (vi v2), some (vi v3), none] [vi q4] h r h'
          refine Ev.blk (pc' := 66) (lv' := [some (vr 0 0 0), some (vi v1), some (vi v2), some (vi v3), some (vi q4)]) (st' := [vi (ii (-1)), vi q4, vi v2]) (h' := h) 30 4 (Nat.le_of_ble_eq_true rfl) tk_HF_truthOf rfl rfl ⟨trivial, trivial, trivial, trivial, trivial⟩ ?_
          obtain ⟨q6, hq10, hq3⟩ := bd hq3
          have K11 : Ev Γ m_HF_truthOf 88 [some (vr 0 0 0), some (vi v1), none, some (vi v3), none] [vi q6, vi v2] h r h' := by
            refine Ev.blk (pc' := 90) (lv' := [some (vr 0 0 0), some (vi v1), some (vi (v2 + q6)), some (vi v3), none]) (st' := []) (h' := h) 45 2 (Nat.le_of_ble_eq_true rfl) tk_HF_truthOf rfl rfl ⟨trivial, trivial, trivial⟩ ?_
            obtain rfl := Option.some.inj hq3
            exact Ev.msk [true, true, true, true, false] K4
          clear hq3
          refine Ev.icmp_eq 34 87 tk_HF_truthOf rfl (by decide) (fun hc12 => ?_) (fun hc12 => ?_)
          · replace hq10 := ip hc12 hq10
            refine Ev.blk (pc' := 88) (lv' := [some (vr 0 0 0), some (vi v1), some (vi v2), some (vi v3), some (vi q4)]) (st' := [vi (ii (-1)), vi v2]) (h' := h) 44 1 (Nat.le_of_ble_eq_true rfl) tk_HF_truthOf rfl rfl ⟨trivial, trivial⟩ ?_
            obtain rfl := Option.some.inj hq10
            exact Ev.msk [true, true, false, true, false] K11
          · replace hq10 := ia hc12 hq10
            refine Ev.blk (pc' := 77) (lv' := [some (vr 0 0 0), some (vi v1), some (vi v2), some (vi v3), some (vi q4)]) (st' := [vi (ii 1), vi v1, vr 3 0 (h.2.2 0 13), vi q4, vi v2]) (h' := h) 35 5 (Nat.le_of_ble_eq_true rfl) tk_HF_truthOf rfl rfl ⟨trivial, trivial, trivial, trivial, trivial, trivial⟩ ?_
            obtain ⟨q5, hq13, hq10⟩ := bd hq10
            refine Ev.callV (ν := m_Heath_trait) (av := [vi v1, vi (ii 1)]) (rest := [vi q4, vi v2]) (r1 := some (vi q5)) (h1 := h) (ci := 3) (nn := 0) (o := (h.2.2 0 13)) 40 2 tk_HF_truthOf rfl bb_Heath_trait vv_Heath_trait lk_0_196 (by decide) rfl rfl (Or.inl rfl) (Nat.le_of_ble_eq_true rfl) (s_Heath_trait Γ (h.2.2 0 13) v1 (ii 1) h _ hq13) ?_
            show Ev Γ m_HF_truthOf 80 [some (vr 0 0 0), some (vi v1), some (vi v2), some (vi v3), some (vi q4)] [vi q5, vi q4, vi v2] h r h'
            refine Ev.icmp_gt 41 87 tk_HF_truthOf rfl (by decide) (fun hc14 => ?_) (fun hc14 => ?_)
            · replace hq10 := ip hc14 hq10
              refine Ev.blk (pc' := 88) (lv' := [some (vr 0 0 0), some (vi v1), some (vi v2), some (vi v3), some (vi q4)]) (st' := [vi (ii (-1)), vi v2]) (h' := h) 44 1 (Nat.le_of_ble_eq_true rfl) tk_HF_truthOf rfl rfl ⟨trivial, trivial⟩ ?_
              obtain rfl := Option.some.inj hq10
              exact Ev.msk [true, true, false, true, false] K11
            · replace hq10 := ia hc14 hq10
              refine Ev.blk (pc' := 88) (lv' := [some (vr 0 0 0), some (vi v1), some (vi v2), some (vi v3), some (vi q4)]) (st' := [vi (ii 1), vi v2]) (h' := h) 42 2 (Nat.le_of_ble_eq_true rfl) tk_HF_truthOf rfl rfl ⟨trivial, trivial, trivial⟩ ?_
              obtain rfl := Option.some.inj hq10
              exact Ev.msk [true, true, false, true, false] K11
set_option maxRecDepth 4000 in
theorem s_HF_truthOf (Γ : AG) (a1 : Int32) (h : AH) (x : Int32) (hx : f_HF_truthOf a1 h = some x) : MetA Γ m_HF_truthOf [vr 0 0 0, vi a1] h (some (vi x)) h := by
  refine Ev.met rfl rfl (Nat.le_of_ble_eq_true rfl) ?_
  show Ev Γ m_HF_truthOf 0 [some (vr 0 0 0), some (vi a1), none, none, none] [] h _ _
  obtain ⟨r, hr⟩ : ∃ r : Option AV, r = some (vi x) := ⟨_, rfl⟩
  obtain ⟨h', hh⟩ : ∃ h' : AH, h' = h := ⟨_, rfl⟩
  have hP : r = some (vi x) ∧ h' = h := ⟨hr, hh⟩
  suffices hS : Ev Γ m_HF_truthOf 0 [some (vr 0 0 0), some (vi a1), none, none, none] [] h r h' by rw [hr, hh] at hS; exact hS
  clear hr hh
  unfold f_HF_truthOf at hx
  refine Ev.blk (pc' := 4) (lv' := [some (vr 0 0 0), some (vi a1), some (vi (ii 0)), some (vi (ii 0)), none]) (st' := []) (h' := h) 0 4 (Nat.le_of_ble_eq_true rfl) tk_HF_truthOf rfl rfl ⟨trivial, trivial, trivial, trivial, trivial⟩ ?_
  refine Ev.msk [true, true, true, true, false] ?_
  show Ev Γ m_HF_truthOf 4 [some (vr 0 0 0), some (vi a1), some (vi (ii 0)), some (vi (ii 0)), none] [] h r h'
  exact l_HF_truthOf_L4 Γ FU a1 (ii 0) (ii 0) h _ hx r h' hP
set_option maxRecDepth 4000 in
theorem s_HF_right (Γ : AG) (a1 : Int32) (h : AH) (x : Int32) (hx : f_HF_right a1 h = some x) : MetA Γ m_HF_right [vr 0 0 0, vi a1] h (some (vi x)) h := by
  refine Ev.met rfl rfl (Nat.le_of_ble_eq_true rfl) ?_
  show Ev Γ m_HF_right 0 [some (vr 0 0 0), some (vi a1)] [] h _ _
  obtain ⟨r, hr⟩ : ∃ r : Option AV, r = some (vi x) := ⟨_, rfl⟩
  obtain ⟨h', hh⟩ : ∃ h' : AH, h' = h := ⟨_, rfl⟩
  have hP : r = some (vi x) ∧ h' = h := ⟨hr, hh⟩
  suffices hS : Ev Γ m_HF_right 0 [some (vr 0 0 0), some (vi a1)] [] h r h' by rw [hr, hh] at hS; exact hS
  clear hr hh
  unfold f_HF_right at hx
  refine Ev.blk (pc' := 5) (lv' := [some (vr 0 0 0), some (vi a1)]) (st' := [vi a1, vr 3 0 (h.2.2 0 13)]) (h' := h) 0 3 (Nat.le_of_ble_eq_true rfl) tk_HF_right rfl rfl ⟨trivial, trivial, trivial, trivial⟩ ?_
  refine Ev.callV (ν := m_Heath_isFork) (av := [vi a1]) (rest := []) (r1 := some (vi (p_Heath_isFork (h.2.2 0 13) a1 h))) (h1 := h) (ci := 3) (nn := 0) (o := (h.2.2 0 13)) 3 1 tk_HF_right rfl bb_Heath_isFork vv_Heath_isFork lk_0_180 (by decide) rfl rfl (Or.inl rfl) (Nat.le_of_ble_eq_true rfl) (s_Heath_isFork Γ (h.2.2 0 13) a1 h) ?_
  show Ev Γ m_HF_right 8 [some (vr 0 0 0), some (vi a1)] [vi (p_Heath_isFork (h.2.2 0 13) a1 h)] h r h'
  refine Ev.if_eq 4 19 tk_HF_right rfl (by decide) (fun hc1 => ?_) (fun hc1 => ?_)
  · replace hx := ip hc1 hx
    refine Ev.blk (pc' := 22) (lv' := [some (vr 0 0 0), some (vi a1)]) (st' := [vi (ii (-1000000))]) (h' := h) 9 1 (Nat.le_of_ble_eq_true rfl) tk_HF_right rfl rfl ⟨trivial, trivial⟩ ?_
    obtain rfl := Option.some.inj hx
    obtain ⟨rfl, rfl⟩ := hP
    exact Ev.iret 10 tk_HF_right rfl rfl
  · replace hx := ia hc1 hx
    refine Ev.blk (pc' := 13) (lv' := [some (vr 0 0 0), some (vi a1)]) (st' := [vi a1, vr 0 0 0]) (h' := h) 5 2 (Nat.le_of_ble_eq_true rfl) tk_HF_right rfl rfl ⟨trivial, trivial, trivial⟩ ?_
    obtain ⟨q1, hq2, hx⟩ := bd hx
    refine Ev.callV (ν := m_HF_truthOf) (av := [vi a1]) (rest := []) (r1 := some (vi q1)) (h1 := h) (ci := 0) (nn := 0) (o := 0) 7 1 tk_HF_right rfl bb_HF_truthOf vv_HF_truthOf lk_0_373 (by decide) rfl rfl (Or.inl rfl) (Nat.le_of_ble_eq_true rfl) (s_HF_truthOf Γ a1 h _ hq2) ?_
    show Ev Γ m_HF_right 16 [some (vr 0 0 0), some (vi a1)] [vi q1] h r h'
    refine Ev.blk (pc' := 22) (lv' := [some (vr 0 0 0), some (vi a1)]) (st' := [vi q1]) (h' := h) 8 1 (Nat.le_of_ble_eq_true rfl) tk_HF_right rfl rfl ⟨trivial, trivial⟩ ?_
    obtain rfl := Option.some.inj hx
    obtain ⟨rfl, rfl⟩ := hP
    exact Ev.iret 10 tk_HF_right rfl rfl
set_option maxRecDepth 4000 in
theorem l_HF_best_L13 (Γ : AG) : ∀ (n : Nat) (v1 : Int32) (v2 : Int32) (h : AH) (x : Int32), HF_best_L13 n v1 v2 h = some x → ∀ (r : Option AV) (h' : AH), r = some (vi x) ∧ h' = h → Ev Γ m_HF_best 13 [some (vr 0 0 0), some (vi v1), some (vi v2)] [] h r h' := by
  intro n
  induction n with
  | zero => intro v1 v2 h x hx; cases hx
  | succ n ih =>
    intro v1 v2 h x hx r h' hP
    replace hx : HF_best_L13_b (HF_best_L13 n) v1 v2 h = some x := hx
    unfold HF_best_L13_b at hx
    refine Ev.blk (pc' := 21) (lv' := [some (vr 0 0 0), some (vi v1), some (vi v2)]) (st' := [vi (h.1 (h.2.2 0 13) 10), vi v2]) (h' := h) 9 4 (Nat.le_of_ble_eq_true rfl) tk_HF_best rfl rfl ⟨trivial, trivial, trivial, trivial, trivial⟩ ?_
    refine Ev.icmp_ge 13 45 tk_HF_best rfl (by decide) (fun hc1 => ?_) (fun hc1 => ?_)
    · replace hx := ip hc1 hx
      refine Ev.blk (pc' := 46) (lv' := [some (vr 0 0 0), some (vi v1), some (vi v2)]) (st' := [vi v1]) (h' := h) 25 1 (Nat.le_of_ble_eq_true rfl) tk_HF_best rfl rfl ⟨trivial, trivial⟩ ?_
      obtain rfl := Option.some.inj hx
      obtain ⟨rfl, rfl⟩ := hP
      exact Ev.iret 26 tk_HF_best rfl rfl
    · replace hx := ia hc1 hx
      refine Ev.blk (pc' := 26) (lv' := [some (vr 0 0 0), some (vi v1), some (vi v2)]) (st' := [vi v2, vr 0 0 0]) (h' := h) 14 2 (Nat.le_of_ble_eq_true rfl) tk_HF_best rfl rfl ⟨trivial, trivial, trivial⟩ ?_
      obtain ⟨q1, hq2, hx⟩ := bd hx
      refine Ev.callV (ν := m_HF_truthOf) (av := [vi v2]) (rest := []) (r1 := some (vi q1)) (h1 := h) (ci := 0) (nn := 0) (o := 0) 16 1 tk_HF_best rfl bb_HF_truthOf vv_HF_truthOf lk_0_373 (by decide) rfl rfl (Or.inl rfl) (Nat.le_of_ble_eq_true rfl) (s_HF_truthOf Γ v2 h _ hq2) ?_
      show Ev Γ m_HF_best 29 [some (vr 0 0 0), some (vi v1), some (vi v2)] [vi q1] h r h'
      refine Ev.blk (pc' := 31) (lv' := [some (vr 0 0 0), some (vi v1), some (vi v2)]) (st' := [vi v1, vr 0 0 0, vi q1]) (h' := h) 17 2 (Nat.le_of_ble_eq_true rfl) tk_HF_best rfl rfl ⟨trivial, trivial, trivial⟩ ?_
      obtain ⟨q2, hq3, hx⟩ := bd hx
      refine Ev.callV (ν := m_HF_truthOf) (av := [vi v1]) (rest := [vi q1]) (r1 := some (vi q2)) (h1 := h) (ci := 0) (nn := 0) (o := 0) 19 1 tk_HF_best rfl bb_HF_truthOf vv_HF_truthOf lk_0_373 (by decide) rfl rfl (Or.inl rfl) (Nat.le_of_ble_eq_true rfl) (s_HF_truthOf Γ v1 h _ hq3) ?_
      show Ev Γ m_HF_best 34 [some (vr 0 0 0), some (vi v1), some (vi v2)] [vi q2, vi q1] h r h'
      have K4 : ∀ v4_0 : Int32, v4_0 = (if q1 ≤ q2 then v1 else v2) → Ev Γ m_HF_best 39 [some (vr 0 0 0), some (vi v4_0), some (vi v2)] [] h r h' := by
        intro v4_0 e5
        subst e5
        refine Ev.blk (pc' := 13) (lv' := [some (vr 0 0 0), some (vi (if q1 ≤ q2 then v1 else v2)), some (vi (v2 + ii 1))]) (st' := []) (h' := h) 23 2 (Nat.le_of_ble_eq_true rfl) tk_HF_best rfl rfl ⟨trivial, trivial, trivial⟩ ?_
        exact Ev.msk [true, true, true] (ih (if q1 ≤ q2 then v1 else v2) (v2 + ii 1) h _ hx r h' hP)
      refine Ev.icmp_le 20 39 tk_HF_best rfl (by decide) (fun hc6 => ?_) (fun hc6 => ?_)
      · exact Ev.msk [true, true, true] (K4 _ (by first | rfl | simp only [if_pos hc6]))
      · refine Ev.blk (pc' := 39) (lv' := [some (vr 0 0 0), some (vi v2), some (vi v2)]) (st' := []) (h' := h) 21 2 (Nat.le_of_ble_eq_true rfl) tk_HF_best rfl rfl ⟨trivial, trivial, trivial⟩ ?_
        exact Ev.msk [true, true, true] (K4 _ (by first | rfl | simp only [if_neg hc6]))
set_option maxRecDepth 4000 in
theorem s_HF_best (Γ : AG) (h : AH) (x : Int32) (hx : f_HF_best  h = some x) : MetA Γ m_HF_best [vr 0 0 0] h (some (vi x)) h := by
  refine Ev.met rfl rfl (Nat.le_of_ble_eq_true rfl) ?_
  show Ev Γ m_HF_best 0 [some (vr 0 0 0), none, none] [] h _ _
  obtain ⟨r, hr⟩ : ∃ r : Option AV, r = some (vi x) := ⟨_, rfl⟩
  obtain ⟨h', hh⟩ : ∃ h' : AH, h' = h := ⟨_, rfl⟩
  have hP : r = some (vi x) ∧ h' = h := ⟨hr, hh⟩
  suffices hS : Ev Γ m_HF_best 0 [some (vr 0 0 0), none, none] [] h r h' by rw [hr, hh] at hS; exact hS
  clear hr hh
  unfold f_HF_best at hx
  refine Ev.blk (pc' := 1) (lv' := [some (vr 0 0 0), none, none]) (st' := [vr 0 0 0]) (h' := h) 0 1 (Nat.le_of_ble_eq_true rfl) tk_HF_best rfl rfl ⟨trivial, trivial⟩ ?_
  refine Ev.callV (ν := m_HF_hasHeath) (av := []) (rest := []) (r1 := some (vi (p_HF_hasHeath h))) (h1 := h) (ci := 0) (nn := 0) (o := 0) 1 0 tk_HF_best rfl bb_HF_hasHeath vv_HF_hasHeath lk_0_137 (by decide) rfl rfl (Or.inl rfl) (Nat.le_of_ble_eq_true rfl) (s_HF_hasHeath Γ h) ?_
  show Ev Γ m_HF_best 4 [some (vr 0 0 0), none, none] [vi (p_HF_hasHeath h)] h r h'
  refine Ev.if_ne 2 9 tk_HF_best rfl (by decide) (fun hc1 => ?_) (fun hc1 => ?_)
  · replace hx := ia hc1 hx
    refine Ev.blk (pc' := 13) (lv' := [some (vr 0 0 0), some (vi (ii 0)), some (vi (ii 1))]) (st' := []) (h' := h) 5 4 (Nat.le_of_ble_eq_true rfl) tk_HF_best rfl rfl ⟨trivial, trivial, trivial, trivial, trivial⟩ ?_
    refine Ev.msk [true, true, true] ?_
    show Ev Γ m_HF_best 13 [some (vr 0 0 0), some (vi (ii 0)), some (vi (ii 1))] [] h r h'
    exact l_HF_best_L13 Γ FU (ii 0) (ii 1) h _ hx r h' hP
  · replace hx := ip hc1 hx
    refine Ev.blk (pc' := 8) (lv' := [some (vr 0 0 0), none, none]) (st' := [vi (ii (-1))]) (h' := h) 3 1 (Nat.le_of_ble_eq_true rfl) tk_HF_best rfl rfl ⟨trivial, trivial⟩ ?_
    obtain rfl := Option.some.inj hx
    obtain ⟨rfl, rfl⟩ := hP
    exact Ev.iret 4 tk_HF_best rfl rfl
set_option maxRecDepth 4000 in
theorem s_Heath_stepsBetween (Γ : AG) (o0 : Nat) (a1 : Int32) (a2 : Int32) (h : AH) (x : Int32) (hx : f_Heath_stepsBetween o0 a1 a2 h = some x) : MetA Γ m_Heath_stepsBetween [vr 3 0 o0, vi a1, vi a2] h (some (vi x)) h := by
  refine Ev.met rfl rfl (Nat.le_of_ble_eq_true rfl) ?_
  show Ev Γ m_Heath_stepsBetween 0 [some (vr 3 0 o0), some (vi a1), some (vi a2)] [] h _ _
  obtain ⟨r, hr⟩ : ∃ r : Option AV, r = some (vi x) := ⟨_, rfl⟩
  obtain ⟨h', hh⟩ : ∃ h' : AH, h' = h := ⟨_, rfl⟩
  have hP : r = some (vi x) ∧ h' = h := ⟨hr, hh⟩
  suffices hS : Ev Γ m_Heath_stepsBetween 0 [some (vr 3 0 o0), some (vi a1), some (vi a2)] [] h r h' by rw [hr, hh] at hS; exact hS
  clear hr hh
  unfold f_Heath_stepsBetween at hx
  refine Ev.blk (pc' := 2) (lv' := [some (vr 3 0 o0), some (vi a1), some (vi a2)]) (st' := [vi a1, vr 3 0 o0]) (h' := h) 0 2 (Nat.le_of_ble_eq_true rfl) tk_Heath_stepsBetween rfl rfl ⟨trivial, trivial, trivial⟩ ?_
  obtain ⟨q1, hq1, hx⟩ := bd hx
  refine Ev.callV (ν := m_Heath_columnOf) (av := [vi a1]) (rest := []) (r1 := some (vi q1)) (h1 := h) (ci := 3) (nn := 0) (o := o0) 2 1 tk_Heath_stepsBetween rfl bb_Heath_columnOf vv_Heath_columnOf lk_3_75 (by decide) rfl rfl (Or.inl rfl) (Nat.le_of_ble_eq_true rfl) (s_Heath_columnOf Γ o0 a1 h _ hq1) ?_
  show Ev Γ m_Heath_stepsBetween 5 [some (vr 3 0 o0), some (vi a1), some (vi a2)] [vi q1] h r h'
  refine Ev.blk (pc' := 7) (lv' := [some (vr 3 0 o0), some (vi a1), some (vi a2)]) (st' := [vi a2, vr 3 0 o0, vi q1]) (h' := h) 3 2 (Nat.le_of_ble_eq_true rfl) tk_Heath_stepsBetween rfl rfl ⟨trivial, trivial, trivial⟩ ?_
  obtain ⟨q2, hq2, hx⟩ := bd hx
  refine Ev.callV (ν := m_Heath_columnOf) (av := [vi a2]) (rest := [vi q1]) (r1 := some (vi q2)) (h1 := h) (ci := 3) (nn := 0) (o := o0) 5 1 tk_Heath_stepsBetween rfl bb_Heath_columnOf vv_Heath_columnOf lk_3_75 (by decide) rfl rfl (Or.inl rfl) (Nat.le_of_ble_eq_true rfl) (s_Heath_columnOf Γ o0 a2 h _ hq2) ?_
  show Ev Γ m_Heath_stepsBetween 10 [some (vr 3 0 o0), some (vi a1), some (vi a2)] [vi q2, vi q1] h r h'
  refine Ev.blk (pc' := 11) (lv' := [some (vr 3 0 o0), some (vi a1), some (vi a2)]) (st' := [vi (q1 - q2)]) (h' := h) 6 1 (Nat.le_of_ble_eq_true rfl) tk_Heath_stepsBetween rfl rfl ⟨trivial, trivial⟩ ?_
  refine Ev.mabs (rest := []) 7 tk_Heath_stepsBetween rfl lk_3_88 (by decide) (Nat.le_of_ble_eq_true rfl) ?_
  show Ev Γ m_Heath_stepsBetween 14 [some (vr 3 0 o0), some (vi a1), some (vi a2)] [vi (p_Math_abs (q1 - q2))] h r h'
  refine Ev.blk (pc' := 16) (lv' := [some (vr 3 0 o0), some (vi a1), some (vi a2)]) (st' := [vi a1, vr 3 0 o0, vi (p_Math_abs (q1 - q2))]) (h' := h) 8 2 (Nat.le_of_ble_eq_true rfl) tk_Heath_stepsBetween rfl rfl ⟨trivial, trivial, trivial⟩ ?_
  obtain ⟨q3, hq3, hx⟩ := bd hx
  refine Ev.callV (ν := m_Heath_rowOf) (av := [vi a1]) (rest := [vi (p_Math_abs (q1 - q2))]) (r1 := some (vi q3)) (h1 := h) (ci := 3) (nn := 0) (o := o0) 10 1 tk_Heath_stepsBetween rfl bb_Heath_rowOf vv_Heath_rowOf lk_3_78 (by decide) rfl rfl (Or.inl rfl) (Nat.le_of_ble_eq_true rfl) (s_Heath_rowOf Γ o0 a1 h _ hq3) ?_
  show Ev Γ m_Heath_stepsBetween 19 [some (vr 3 0 o0), some (vi a1), some (vi a2)] [vi q3, vi (p_Math_abs (q1 - q2))] h r h'
  refine Ev.blk (pc' := 21) (lv' := [some (vr 3 0 o0), some (vi a1), some (vi a2)]) (st' := [vi a2, vr 3 0 o0, vi q3, vi (p_Math_abs (q1 - q2))]) (h' := h) 11 2 (Nat.le_of_ble_eq_true rfl) tk_Heath_stepsBetween rfl rfl ⟨trivial, trivial, trivial⟩ ?_
  obtain ⟨q4, hq4, hx⟩ := bd hx
  refine Ev.callV (ν := m_Heath_rowOf) (av := [vi a2]) (rest := [vi q3, vi (p_Math_abs (q1 - q2))]) (r1 := some (vi q4)) (h1 := h) (ci := 3) (nn := 0) (o := o0) 13 1 tk_Heath_stepsBetween rfl bb_Heath_rowOf vv_Heath_rowOf lk_3_78 (by decide) rfl rfl (Or.inl rfl) (Nat.le_of_ble_eq_true rfl) (s_Heath_rowOf Γ o0 a2 h _ hq4) ?_
  show Ev Γ m_Heath_stepsBetween 24 [some (vr 3 0 o0), some (vi a1), some (vi a2)] [vi q4, vi q3, vi (p_Math_abs (q1 - q2))] h r h'
  refine Ev.blk (pc' := 25) (lv' := [some (vr 3 0 o0), some (vi a1), some (vi a2)]) (st' := [vi (q3 - q4), vi (p_Math_abs (q1 - q2))]) (h' := h) 14 1 (Nat.le_of_ble_eq_true rfl) tk_Heath_stepsBetween rfl rfl ⟨trivial, trivial⟩ ?_
  refine Ev.mabs (rest := [vi (p_Math_abs (q1 - q2))]) 15 tk_Heath_stepsBetween rfl lk_3_88 (by decide) (Nat.le_of_ble_eq_true rfl) ?_
  show Ev Γ m_Heath_stepsBetween 28 [some (vr 3 0 o0), some (vi a1), some (vi a2)] [vi (p_Math_abs (q3 - q4)), vi (p_Math_abs (q1 - q2))] h r h'
  refine Ev.blk (pc' := 29) (lv' := [some (vr 3 0 o0), some (vi a1), some (vi a2)]) (st' := [vi ((p_Math_abs (q1 - q2)) + (p_Math_abs (q3 - q4)))]) (h' := h) 16 1 (Nat.le_of_ble_eq_true rfl) tk_Heath_stepsBetween rfl rfl ⟨trivial, trivial⟩ ?_
  obtain rfl := Option.some.inj hx
  obtain ⟨rfl, rfl⟩ := hP
  exact Ev.iret 17 tk_Heath_stepsBetween rfl rfl
set_option maxRecDepth 4000 in
theorem l_HF_nearest_L17 (Γ : AG) : ∀ (n : Nat) (v1 : Int32) (v2 : Int32) (v3 : Int32) (h : AH) (x : Int32), HF_nearest_L17 n v1 v2 v3 h = some x → ∀ (r : Option AV) (h' : AH), r = some (vi x) ∧ h' = h → Ev Γ m_HF_nearest 17 [some (vr 0 0 0), some (vi v1), some (vi v2), some (vi v3), none] [] h r h' := by
  intro n
  induction n with
  | zero => intro v1 v2 v3 h x hx; cases hx
  | succ n ih =>
    intro v1 v2 v3 h x hx r h' hP
    replace hx : HF_nearest_L17_b (HF_nearest_L17 n) v1 v2 v3 h = some x := hx
    unfold HF_nearest_L17_b at hx
    refine Ev.blk (pc' := 25) (lv' := [some (vr 0 0 0), some (vi v1), some (vi v2), some (vi v3), none]) (st' := [vi (h.1 (h.2.2 0 13) 9), vi v3]) (h' := h) 11 4 (Nat.le_of_ble_eq_true rfl) tk_HF_nearest rfl rfl ⟨trivial, trivial, trivial, trivial, trivial⟩ ?_
    refine Ev.icmp_ge 15 81 tk_HF_nearest rfl (by decide) (fun hc1 => ?_) (fun hc1 => ?_)
    · replace hx := ip hc1 hx
      refine Ev.blk (pc' := 82) (lv' := [some (vr 0 0 0), some (vi v1), some (vi v2), some (vi v3), none]) (st' := [vi v2]) (h' := h) 42 1 (Nat.le_of_ble_eq_true rfl) tk_HF_nearest rfl rfl ⟨trivial, trivial⟩ ?_
      obtain rfl := Option.some.inj hx
      obtain ⟨rfl, rfl⟩ := hP
      exact Ev.iret 43 tk_HF_nearest rfl rfl
    · replace hx := ia hc1 hx
      refine Ev.blk (pc' := 33) (lv' := [some (vr 0 0 0), some (vi v1), some (vi v2), some (vi v3), none]) (st' := [vi v3, vr 3 0 (h.2.2 0 13)]) (h' := h) 16 3 (Nat.le_of_ble_eq_true rfl) tk_HF_nearest rfl rfl ⟨trivial, trivial, trivial, trivial⟩ ?_
      obtain ⟨q1, hq2, hx⟩ := bd hx
      refine Ev.callV (ν := m_Heath_hasWater) (av := [vi v3]) (rest := []) (r1 := some (vi q1)) (h1 := h) (ci := 3) (nn := 0) (o := (h.2.2 0 13)) 19 1 tk_HF_nearest rfl bb_Heath_hasWater vv_Heath_hasWater lk_0_370 (by decide) rfl rfl (Or.inl rfl) (Nat.le_of_ble_eq_true rfl) (s_Heath_hasWater Γ (h.2.2 0 13) v3 h _ hq2) ?_
      show Ev Γ m_HF_nearest 36 [some (vr 0 0 0), some (vi v1), some (vi v2), some (vi v3), none] [vi q1] h r h'
      obtain ⟨q4, hq3, hx⟩ := bd hx
      have K4 : Ev Γ m_HF_nearest 75 [some (vr 0 0 0), some (vi v1), some (vi q4), some (vi v3), none] [] h r h' := by
        refine Ev.blk (pc' := 17) (lv' := [some (vr 0 0 0), some (vi v1), some (vi q4), some (vi (v3 + ii 1)), none]) (st' := []) (h' := h) 40 2 (Nat.le_of_ble_eq_true rfl) tk_HF_nearest rfl rfl ⟨trivial, trivial, trivial⟩ ?_
        exact Ev.msk [true, true, true, true, false] (ih v1 q4 (v3 + ii 1) h _ hx r h' hP)
      clear hx
      refine Ev.if_eq 20 75 tk_HF_nearest rfl (by decide) (fun hc5 => ?_) (fun hc5 => ?_)
      · replace hq3 := ip hc5 hq3
        obtain rfl := Option.some.inj hq3
        exact Ev.msk [true, true, true, true, false] K4
      · replace hq3 := ia hc5 hq3
        refine Ev.blk (pc' := 48) (lv' := [some (vr 0 0 0), some (vi v1), some (vi v2), some (vi v3), none]) (st' := [vi v1, vr 8 0 13, vr 3 0 (h.2.2 0 13)]) (h' := h) 21 5 (Nat.le_of_ble_eq_true rfl) tk_HF_nearest rfl rfl ⟨trivial, trivial, trivial, trivial, trivial, trivial⟩ ?_
        obtain ⟨q2, hq6, hq3⟩ := bd hq3
        refine Ev.callV (ν := m_Moor_placeOf) (av := [vi v1]) (rest := [vr 3 0 (h.2.2 0 13)]) (r1 := some (vi q2)) (h1 := h) (ci := 8) (nn := 0) (o := 13) 26 1 tk_HF_nearest rfl bb_Moor_placeOf vv_Moor_placeOf lk_0_190 (by decide) rfl rfl (Or.inl rfl) (Nat.le_of_ble_eq_true rfl) (s_Moor_placeOf Γ 13 v1 h _ hq6) ?_
        show Ev Γ m_HF_nearest 51 [some (vr 0 0 0), some (vi v1), some (vi v2), some (vi v3), none] [vi q2, vr 3 0 (h.2.2 0 13)] h r h'
        refine Ev.blk (pc' := 52) (lv' := [some (vr 0 0 0), some (vi v1), some (vi v2), some (vi v3), none]) (st' := [vi v3, vi q2, vr 3 0 (h.2.2 0 13)]) (h' := h) 27 1 (Nat.le_of_ble_eq_true rfl) tk_HF_nearest rfl rfl ⟨trivial, trivial⟩ ?_
        obtain ⟨q3, hq7, hq3⟩ := bd hq3
        refine Ev.callV (ν := m_Heath_stepsBetween) (av := [vi q2, vi v3]) (rest := []) (r1 := some (vi q3)) (h1 := h) (ci := 3) (nn := 0) (o := (h.2.2 0 13)) 28 2 tk_HF_nearest rfl bb_Heath_stepsBetween vv_Heath_stepsBetween lk_0_376 (by decide) rfl rfl (Or.inl rfl) (Nat.le_of_ble_eq_true rfl) (s_Heath_stepsBetween Γ (h.2.2 0 13) q2 v3 h _ hq7) ?_
        show Ev Γ m_HF_nearest 55 [some (vr 0 0 0), some (vi v1), some (vi v2), some (vi v3), none] [vi q3] h r h'
        refine Ev.blk (pc' := 59) (lv' := [some (vr 0 0 0), some (vi v1), some (vi v2), some (vi v3), some (vi q3)]) (st' := [vi (ii (-1)), vi v2]) (h' := h) 29 3 (Nat.le_of_ble_eq_true rfl) tk_HF_nearest rfl rfl ⟨trivial, trivial, trivial, trivial⟩ ?_
        have K8 : ∀ v8_0 : Int32, v8_0 = (if v2 = (ii (-1)) then q3 else (if v2 ≤ q3 then v2 else q3)) → Ev Γ m_HF_nearest 74 [some (vr 0 0 0), some (vi v1), none, some (vi v3), none] [vi v8_0] h r h' := by
          intro v8_0 e9
          subst e9
          refine Ev.blk (pc' := 75) (lv' := [some (vr 0 0 0), some (vi v1), some (vi (if v2 = (ii (-1)) then q3 else (if v2 ≤ q3 then v2 else q3))), some (vi v3), none]) (st' := []) (h' := h) 39 1 (Nat.le_of_ble_eq_true rfl) tk_HF_nearest rfl rfl ⟨trivial, trivial⟩ ?_
          obtain rfl := Option.some.inj hq3
          exact Ev.msk [true, true, true, true, false] K4
        refine Ev.icmp_eq 32 68 tk_HF_nearest rfl (by decide) (fun hc10 => ?_) (fun hc10 => ?_)
        · refine Ev.blk (pc' := 74) (lv' := [some (vr 0 0 0), some (vi v1), some (vi v2), some (vi v3), some (vi q3)]) (st' := [vi q3]) (h' := h) 36 2 (Nat.le_of_ble_eq_true rfl) tk_HF_nearest rfl rfl ⟨trivial, trivial, trivial⟩ ?_
          exact Ev.msk [true, true, false, true, false] (K8 _ (by first | rfl | simp only [if_pos hc10]))
        · refine Ev.blk (pc' := 65) (lv' := [some (vr 0 0 0), some (vi v1), some (vi v2), some (vi v3), some (vi q3)]) (st' := [vi v2, vi q3]) (h' := h) 33 2 (Nat.le_of_ble_eq_true rfl) tk_HF_nearest rfl rfl ⟨trivial, trivial, trivial⟩ ?_
          refine Ev.icmp_ge 35 73 tk_HF_nearest rfl (by decide) (fun hc11 => ?_) (fun hc11 => ?_)
          · refine Ev.blk (pc' := 74) (lv' := [some (vr 0 0 0), some (vi v1), some (vi v2), some (vi v3), some (vi q3)]) (st' := [vi v2]) (h' := h) 38 1 (Nat.le_of_ble_eq_true rfl) tk_HF_nearest rfl rfl ⟨trivial, trivial⟩ ?_
            exact Ev.msk [true, true, false, true, false] (K8 _ (by first | rfl | simp only [if_neg hc10, if_pos hc11]))
          · refine Ev.blk (pc' := 74) (lv' := [some (vr 0 0 0), some (vi v1), some (vi v2), some (vi v3), some (vi q3)]) (st' := [vi q3]) (h' := h) 36 2 (Nat.le_of_ble_eq_true rfl) tk_HF_nearest rfl rfl ⟨trivial, trivial, trivial⟩ ?_
            exact Ev.msk [true, true, false, true, false] (K8 _ (by first | rfl | simp only [if_neg hc10, if_neg hc11]))
set_option maxRecDepth 4000 in
theorem s_HF_nearest (Γ : AG) (a1 : Int32) (h : AH) (x : Int32) (hx : f_HF_nearest a1 h = some x) : MetA Γ m_HF_nearest [vr 0 0 0, vi a1] h (some (vi x)) h := by
  refine Ev.met rfl rfl (Nat.le_of_ble_eq_true rfl) ?_
  show Ev Γ m_HF_nearest 0 [some (vr 0 0 0), some (vi a1), none, none, none] [] h _ _
  obtain ⟨r, hr⟩ : ∃ r : Option AV, r = some (vi x) := ⟨_, rfl⟩
  obtain ⟨h', hh⟩ : ∃ h' : AH, h' = h := ⟨_, rfl⟩
  have hP : r = some (vi x) ∧ h' = h := ⟨hr, hh⟩
  suffices hS : Ev Γ m_HF_nearest 0 [some (vr 0 0 0), some (vi a1), none, none, none] [] h r h' by rw [hr, hh] at hS; exact hS
  clear hr hh
  unfold f_HF_nearest at hx
  refine Ev.blk (pc' := 5) (lv' := [some (vr 0 0 0), some (vi a1), none, none, none]) (st' := [vi a1, vr 3 0 (h.2.2 0 13)]) (h' := h) 0 3 (Nat.le_of_ble_eq_true rfl) tk_HF_nearest rfl rfl ⟨trivial, trivial, trivial, trivial⟩ ?_
  refine Ev.callV (ν := m_Heath_isFork) (av := [vi a1]) (rest := []) (r1 := some (vi (p_Heath_isFork (h.2.2 0 13) a1 h))) (h1 := h) (ci := 3) (nn := 0) (o := (h.2.2 0 13)) 3 1 tk_HF_nearest rfl bb_Heath_isFork vv_Heath_isFork lk_0_180 (by decide) rfl rfl (Or.inl rfl) (Nat.le_of_ble_eq_true rfl) (s_Heath_isFork Γ (h.2.2 0 13) a1 h) ?_
  show Ev Γ m_HF_nearest 8 [some (vr 0 0 0), some (vi a1), none, none, none] [vi (p_Heath_isFork (h.2.2 0 13) a1 h)] h r h'
  refine Ev.if_ne 4 13 tk_HF_nearest rfl (by decide) (fun hc1 => ?_) (fun hc1 => ?_)
  · replace hx := ia hc1 hx
    refine Ev.blk (pc' := 17) (lv' := [some (vr 0 0 0), some (vi a1), some (vi (ii (-1))), some (vi (ii 0)), none]) (st' := []) (h' := h) 7 4 (Nat.le_of_ble_eq_true rfl) tk_HF_nearest rfl rfl ⟨trivial, trivial, trivial, trivial, trivial⟩ ?_
    refine Ev.msk [true, true, true, true, false] ?_
    show Ev Γ m_HF_nearest 17 [some (vr 0 0 0), some (vi a1), some (vi (ii (-1))), some (vi (ii 0)), none] [] h r h'
    exact l_HF_nearest_L17 Γ FU a1 (ii (-1)) (ii 0) h _ hx r h' hP
  · replace hx := ip hc1 hx
    refine Ev.blk (pc' := 12) (lv' := [some (vr 0 0 0), some (vi a1), none, none, none]) (st' := [vi (ii (-1))]) (h' := h) 5 1 (Nat.le_of_ble_eq_true rfl) tk_HF_nearest rfl rfl ⟨trivial, trivial⟩ ?_
    obtain rfl := Option.some.inj hx
    obtain ⟨rfl, rfl⟩ := hP
    exact Ev.iret 6 tk_HF_nearest rfl rfl
theorem s_HF_meets (Γ : AG) (h : AH) : MetA Γ m_HF_meets [vr 0 0 0] h (some (vi (p_HF_meets h))) h := by
  refine Ev.met rfl rfl (Nat.le_of_ble_eq_true rfl) ?_
  generalize hx : p_HF_meets h = x
  show Ev Γ m_HF_meets 0 [some (vr 0 0 0)] [] h _ _
  obtain ⟨r, hr⟩ : ∃ r : Option AV, r = some (vi x) := ⟨_, rfl⟩
  obtain ⟨h', hh⟩ : ∃ h' : AH, h' = h := ⟨_, rfl⟩
  have hP : r = some (vi x) ∧ h' = h := ⟨hr, hh⟩
  suffices hS : Ev Γ m_HF_meets 0 [some (vr 0 0 0)] [] h r h' by rw [hr, hh] at hS; exact hS
  clear hr hh
  unfold p_HF_meets at hx
  refine Ev.blk (pc' := 1) (lv' := [some (vr 0 0 0)]) (st' := [vr 0 0 0]) (h' := h) 0 1 (Nat.le_of_ble_eq_true rfl) tk_HF_meets rfl rfl ⟨trivial, trivial⟩ ?_
  refine Ev.callV (ν := m_HF_hasHeath) (av := []) (rest := []) (r1 := some (vi (p_HF_hasHeath h))) (h1 := h) (ci := 0) (nn := 0) (o := 0) 1 0 tk_HF_meets rfl bb_HF_hasHeath vv_HF_hasHeath lk_0_137 (by decide) rfl rfl (Or.inl rfl) (Nat.le_of_ble_eq_true rfl) (s_HF_hasHeath Γ h) ?_
  show Ev Γ m_HF_meets 4 [some (vr 0 0 0)] [vi (p_HF_hasHeath h)] h r h'
  refine Ev.if_eq 2 17 tk_HF_meets rfl (by decide) (fun hc1 => ?_) (fun hc1 => ?_)
  · replace hx := ip hc1 hx
    refine Ev.blk (pc' := 18) (lv' := [some (vr 0 0 0)]) (st' := [vi (ii (-1))]) (h' := h) 7 1 (Nat.le_of_ble_eq_true rfl) tk_HF_meets rfl rfl ⟨trivial, trivial⟩ ?_
    subst hx
    obtain ⟨rfl, rfl⟩ := hP
    exact Ev.iret 8 tk_HF_meets rfl rfl
  · replace hx := ia hc1 hx
    refine Ev.blk (pc' := 18) (lv' := [some (vr 0 0 0)]) (st' := [vi (h.1 (h.2.2 0 13) 13)]) (h' := h) 3 4 (Nat.le_of_ble_eq_true rfl) tk_HF_meets rfl rfl ⟨trivial, trivial, trivial, trivial, trivial⟩ ?_
    subst hx
    obtain ⟨rfl, rfl⟩ := hP
    exact Ev.iret 8 tk_HF_meets rfl rfl
set_option maxRecDepth 4000 in
theorem l_HF_shallow_L7 (Γ : AG) : ∀ (n : Nat) (v1 : Int32) (v2 : Int32) (v3 : Int32) (h : AH) (x : Int32), HF_shallow_L7 n v1 v2 v3 h = some x → ∀ (r : Option AV) (h' : AH), r = some (vi x) ∧ h' = h → Ev Γ m_HF_shallow 7 [some (vr 0 0 0), some (vi v1), some (vi v2), some (vi v3), none] [] h r h' := by
  intro n
  induction n with
  | zero => intro v1 v2 v3 h x hx; cases hx
  | succ n ih =>
    intro v1 v2 v3 h x hx r h' hP
    replace hx : HF_shallow_L7_b (HF_shallow_L7 n) v1 v2 v3 h = some x := hx
    unfold HF_shallow_L7_b at hx
    refine Ev.blk (pc' := 15) (lv' := [some (vr 0 0 0), some (vi v1), some (vi v2), some (vi v3), none]) (st' := [vi (h.1 (h.2.2 0 13) 9), vi v3]) (h' := h) 6 4 (Nat.le_of_ble_eq_true rfl) tk_HF_shallow rfl rfl ⟨trivial, trivial, trivial, trivial, trivial⟩ ?_
    refine Ev.icmp_ge 10 58 tk_HF_shallow rfl (by decide) (fun hc1 => ?_) (fun hc1 => ?_)
    · replace hx := ip hc1 hx
      refine Ev.blk (pc' := 59) (lv' := [some (vr 0 0 0), some (vi v1), some (vi v2), some (vi v3), none]) (st' := [vi v1]) (h' := h) 31 1 (Nat.le_of_ble_eq_true rfl) tk_HF_shallow rfl rfl ⟨trivial, trivial⟩ ?_
      obtain rfl := Option.some.inj hx
      obtain ⟨rfl, rfl⟩ := hP
      exact Ev.iret 32 tk_HF_shallow rfl rfl
    · replace hx := ia hc1 hx
      refine Ev.blk (pc' := 30) (lv' := [some (vr 0 0 0), some (vi v1), some (vi v2), some (vi v3), none]) (st' := [vi (h.1 13 8), vi v3, vr 3 0 (h.2.2 0 13)]) (h' := h) 11 6 (Nat.le_of_ble_eq_true rfl) tk_HF_shallow rfl rfl ⟨trivial, trivial, trivial, trivial, trivial, trivial, trivial⟩ ?_
      obtain ⟨q1, hq2, hx⟩ := bd hx
      refine Ev.callV (ν := m_Heath_waterIn) (av := [vi v3, vi (h.1 13 8)]) (rest := []) (r1 := some (vi q1)) (h1 := h) (ci := 3) (nn := 0) (o := (h.2.2 0 13)) 17 2 tk_HF_shallow rfl bb_Heath_waterIn vv_Heath_waterIn lk_0_160 (by decide) rfl rfl (Or.inl rfl) (Nat.le_of_ble_eq_true rfl) (s_Heath_waterIn Γ (h.2.2 0 13) v3 (h.1 13 8) h _ hq2) ?_
      show Ev Γ m_HF_shallow 33 [some (vr 0 0 0), some (vi v1), some (vi v2), some (vi v3), none] [vi q1] h r h'
      refine Ev.blk (pc' := 38) (lv' := [some (vr 0 0 0), some (vi v1), some (vi v2), some (vi v3), some (vi q1)]) (st' := [vi (ii (-1)), vi q1]) (h' := h) 18 3 (Nat.le_of_ble_eq_true rfl) tk_HF_shallow rfl rfl ⟨trivial, trivial, trivial, trivial⟩ ?_
      have K3 : ∀ v3_0 : Int32, ∀ v3_1 : Int32, v3_0 = (if q1 = (ii (-1)) then v1 else (if v2 ≤ q1 then v1 else v3)) → v3_1 = (if q1 = (ii (-1)) then v2 else (if v2 ≤ q1 then v2 else q1)) → Ev Γ m_HF_shallow 52 [some (vr 0 0 0), some (vi v3_0), some (vi v3_1), some (vi v3), none] [] h r h' := by
        intro v3_0 v3_1 e4 e5
        subst e4
        subst e5
        refine Ev.blk (pc' := 7) (lv' := [some (vr 0 0 0), some (vi (if q1 = (ii (-1)) then v1 else (if v2 ≤ q1 then v1 else v3))), some (vi (if q1 = (ii (-1)) then v2 else (if v2 ≤ q1 then v2 else q1))), some (vi (v3 + ii 1)), none]) (st' := []) (h' := h) 29 2 (Nat.le_of_ble_eq_true rfl) tk_HF_shallow rfl rfl ⟨trivial, trivial, trivial⟩ ?_
        exact Ev.msk [true, true, true, true, false] (ih (if q1 = (ii (-1)) then v1 else (if v2 ≤ q1 then v1 else v3)) (if q1 = (ii (-1)) then v2 else (if v2 ≤ q1 then v2 else q1)) (v3 + ii 1) h _ hx r h' hP)
      refine Ev.icmp_eq 21 52 tk_HF_shallow rfl (by decide) (fun hc6 => ?_) (fun hc6 => ?_)
      · exact Ev.msk [true, true, true, true, false] (K3 _ _ (by first | rfl | simp only [if_pos hc6]) (by first | rfl | simp only [if_pos hc6]))
      · refine Ev.blk (pc' := 44) (lv' := [some (vr 0 0 0), some (vi v1), some (vi v2), some (vi v3), some (vi q1)]) (st' := [vi v2, vi q1]) (h' := h) 22 2 (Nat.le_of_ble_eq_true rfl) tk_HF_shallow rfl rfl ⟨trivial, trivial, trivial⟩ ?_
        refine Ev.icmp_ge 24 52 tk_HF_shallow rfl (by decide) (fun hc7 => ?_) (fun hc7 => ?_)
        · exact Ev.msk [true, true, true, true, false] (K3 _ _ (by first | rfl | simp only [if_neg hc6, if_pos hc7]) (by first | rfl | simp only [if_neg hc6, if_pos hc7]))
        · refine Ev.blk (pc' := 52) (lv' := [some (vr 0 0 0), some (vi v3), some (vi q1), some (vi v3), some (vi q1)]) (st' := []) (h' := h) 25 4 (Nat.le_of_ble_eq_true rfl) tk_HF_shallow rfl rfl ⟨trivial, trivial, trivial, trivial, trivial⟩ ?_
          exact Ev.msk [true, true, true, true, false] (K3 _ _ (by first | rfl | simp only [if_neg hc6, if_neg hc7]) (by first | rfl | simp only [if_neg hc6, if_neg hc7]))
set_option maxRecDepth 4000 in
theorem s_HF_shallow (Γ : AG) (h : AH) (x : Int32) (hx : f_HF_shallow  h = some x) : MetA Γ m_HF_shallow [vr 0 0 0] h (some (vi x)) h := by
  refine Ev.met rfl rfl (Nat.le_of_ble_eq_true rfl) ?_
  show Ev Γ m_HF_shallow 0 [some (vr 0 0 0), none, none, none, none] [] h _ _
  obtain ⟨r, hr⟩ : ∃ r : Option AV, r = some (vi x) := ⟨_, rfl⟩
  obtain ⟨h', hh⟩ : ∃ h' : AH, h' = h := ⟨_, rfl⟩
  have hP : r = some (vi x) ∧ h' = h := ⟨hr, hh⟩
  suffices hS : Ev Γ m_HF_shallow 0 [some (vr 0 0 0), none, none, none, none] [] h r h' by rw [hr, hh] at hS; exact hS
  clear hr hh
  unfold f_HF_shallow at hx
  refine Ev.blk (pc' := 7) (lv' := [some (vr 0 0 0), some (vi (ii (-1))), some (vi (ii 100)), some (vi (ii 0)), none]) (st' := []) (h' := h) 0 6 (Nat.le_of_ble_eq_true rfl) tk_HF_shallow rfl rfl ⟨trivial, trivial, trivial, trivial, trivial, trivial, trivial⟩ ?_
  refine Ev.msk [true, true, true, true, false] ?_
  show Ev Γ m_HF_shallow 7 [some (vr 0 0 0), some (vi (ii (-1))), some (vi (ii 100)), some (vi (ii 0)), none] [] h r h'
  exact l_HF_shallow_L7 Γ FU (ii (-1)) (ii 100) (ii 0) h _ hx r h' hP
set_option maxRecDepth 4000 in
theorem l_Moor_twitchesIn_L4 (Γ : AG) : ∀ (n : Nat) (o0 : Nat) (v1 : Int32) (v2 : Int32) (v3 : Int32) (h : AH) (x : Int32), Moor_twitchesIn_L4 n o0 v1 v2 v3 h = some x → ∀ (r : Option AV) (h' : AH), r = some (vi x) ∧ h' = h → Ev Γ m_Moor_twitchesIn 4 [some (vr 8 0 o0), some (vi v1), some (vi v2), some (vi v3)] [] h r h' := by
  intro n
  induction n with
  | zero => intro o0 v1 v2 v3 h x hx; cases hx
  | succ n ih =>
    intro o0 v1 v2 v3 h x hx r h' hP
    replace hx : Moor_twitchesIn_L4_b (Moor_twitchesIn_L4 n) o0 v1 v2 v3 h = some x := hx
    unfold Moor_twitchesIn_L4_b at hx
    refine Ev.blk (pc' := 6) (lv' := [some (vr 8 0 o0), some (vi v1), some (vi v2), some (vi v3)]) (st' := [vr 8 0 o0, vi v3]) (h' := h) 4 2 (Nat.le_of_ble_eq_true rfl) tk_Moor_twitchesIn rfl rfl ⟨trivial, trivial, trivial⟩ ?_
    refine Ev.callV (ν := m_Moor_bookLength) (av := []) (rest := [vi v3]) (r1 := some (vi (p_Moor_bookLength o0 h))) (h1 := h) (ci := 8) (nn := 0) (o := o0) 6 0 tk_Moor_twitchesIn rfl bb_Moor_bookLength vv_Moor_bookLength lk_8_78 (by decide) rfl rfl (Or.inl rfl) (Nat.le_of_ble_eq_true rfl) (s_Moor_bookLength Γ o0 h) ?_
    show Ev Γ m_Moor_twitchesIn 9 [some (vr 8 0 o0), some (vi v1), some (vi v2), some (vi v3)] [vi (p_Moor_bookLength o0 h), vi v3] h r h'
    refine Ev.icmp_ge 7 43 tk_Moor_twitchesIn rfl (by decide) (fun hc1 => ?_) (fun hc1 => ?_)
    · replace hx := ip hc1 hx
      refine Ev.blk (pc' := 44) (lv' := [some (vr 8 0 o0), some (vi v1), some (vi v2), some (vi v3)]) (st' := [vi v2]) (h' := h) 25 1 (Nat.le_of_ble_eq_true rfl) tk_Moor_twitchesIn rfl rfl ⟨trivial, trivial⟩ ?_
      obtain rfl := Option.some.inj hx
      obtain ⟨rfl, rfl⟩ := hP
      exact Ev.iret 26 tk_Moor_twitchesIn rfl rfl
    · replace hx := ia hc1 hx
      refine Ev.blk (pc' := 15) (lv' := [some (vr 8 0 o0), some (vi v1), some (vi v2), some (vi v3)]) (st' := [vi v3, vr 8 0 o0, vi v2]) (h' := h) 8 3 (Nat.le_of_ble_eq_true rfl) tk_Moor_twitchesIn rfl rfl ⟨trivial, trivial, trivial, trivial⟩ ?_
      obtain ⟨q1, hq2, hx⟩ := bd hx
      refine Ev.callV (ν := m_Moor_cellOn) (av := [vi v3]) (rest := [vi v2]) (r1 := some (vi q1)) (h1 := h) (ci := 8) (nn := 0) (o := o0) 11 1 tk_Moor_twitchesIn rfl bb_Moor_cellOn vv_Moor_cellOn lk_8_82 (by decide) rfl rfl (Or.inl rfl) (Nat.le_of_ble_eq_true rfl) (s_Moor_cellOn Γ o0 v3 h _ hq2) ?_
      show Ev Γ m_Moor_twitchesIn 18 [some (vr 8 0 o0), some (vi v1), some (vi v2), some (vi v3)] [vi q1, vi v2] h r h'
      refine Ev.blk (pc' := 19) (lv' := [some (vr 8 0 o0), some (vi v1), some (vi v2), some (vi v3)]) (st' := [vi v1, vi q1, vi v2]) (h' := h) 12 1 (Nat.le_of_ble_eq_true rfl) tk_Moor_twitchesIn rfl rfl ⟨trivial, trivial⟩ ?_
      obtain ⟨q3, hq3, hx⟩ := bd hx
      have K4 : Ev Γ m_Moor_twitchesIn 35 [some (vr 8 0 o0), some (vi v1), none, some (vi v3)] [vi q3, vi v2] h r h' := by
        refine Ev.blk (pc' := 4) (lv' := [some (vr 8 0 o0), some (vi v1), some (vi (v2 + q3)), some (vi (v3 + ii 1))]) (st' := []) (h' := h) 21 4 (Nat.le_of_ble_eq_true rfl) tk_Moor_twitchesIn rfl rfl ⟨trivial, trivial, trivial, trivial, trivial⟩ ?_
        exact Ev.msk [true, true, true, true] (ih o0 v1 (v2 + q3) (v3 + ii 1) h _ hx r h' hP)
      clear hx
      refine Ev.icmp_ne 13 34 tk_Moor_twitchesIn rfl (by decide) (fun hc5 => ?_) (fun hc5 => ?_)
      · replace hq3 := ia hc5 hq3
        refine Ev.blk (pc' := 35) (lv' := [some (vr 8 0 o0), some (vi v1), some (vi v2), some (vi v3)]) (st' := [vi (ii 0), vi v2]) (h' := h) 20 1 (Nat.le_of_ble_eq_true rfl) tk_Moor_twitchesIn rfl rfl ⟨trivial, trivial⟩ ?_
        obtain rfl := Option.some.inj hq3
        exact Ev.msk [true, true, false, true] K4
      · replace hq3 := ip hc5 hq3
        refine Ev.blk (pc' := 24) (lv' := [some (vr 8 0 o0), some (vi v1), some (vi v2), some (vi v3)]) (st' := [vi v3, vr 8 0 o0, vi v2]) (h' := h) 14 2 (Nat.le_of_ble_eq_true rfl) tk_Moor_twitchesIn rfl rfl ⟨trivial, trivial, trivial⟩ ?_
        obtain ⟨q2, hq6, hq3⟩ := bd hq3
        refine Ev.callV (ν := m_Moor_twitchOn) (av := [vi v3]) (rest := [vi v2]) (r1 := some (vi q2)) (h1 := h) (ci := 8) (nn := 0) (o := o0) 16 1 tk_Moor_twitchesIn rfl bb_Moor_twitchOn vv_Moor_twitchOn lk_8_85 (by decide) rfl rfl (Or.inl rfl) (Nat.le_of_ble_eq_true rfl) (s_Moor_twitchOn Γ o0 v3 h _ hq6) ?_
        show Ev Γ m_Moor_twitchesIn 27 [some (vr 8 0 o0), some (vi v1), some (vi v2), some (vi v3)] [vi q2, vi v2] h r h'
        refine Ev.if_le 17 34 tk_Moor_twitchesIn rfl (by decide) (fun hc7 => ?_) (fun hc7 => ?_)
        · replace hq3 := ip hc7 hq3
          refine Ev.blk (pc' := 35) (lv' := [some (vr 8 0 o0), some (vi v1), some (vi v2), some (vi v3)]) (st' := [vi (ii 0), vi v2]) (h' := h) 20 1 (Nat.le_of_ble_eq_true rfl) tk_Moor_twitchesIn rfl rfl ⟨trivial, trivial⟩ ?_
          obtain rfl := Option.some.inj hq3
          exact Ev.msk [true, true, false, true] K4
        · replace hq3 := ia hc7 hq3
          refine Ev.blk (pc' := 35) (lv' := [some (vr 8 0 o0), some (vi v1), some (vi v2), some (vi v3)]) (st' := [vi (ii 1), vi v2]) (h' := h) 18 2 (Nat.le_of_ble_eq_true rfl) tk_Moor_twitchesIn rfl rfl ⟨trivial, trivial, trivial⟩ ?_
          obtain rfl := Option.some.inj hq3
          exact Ev.msk [true, true, false, true] K4
set_option maxRecDepth 4000 in
theorem s_Moor_twitchesIn (Γ : AG) (o0 : Nat) (a1 : Int32) (h : AH) (x : Int32) (hx : f_Moor_twitchesIn o0 a1 h = some x) : MetA Γ m_Moor_twitchesIn [vr 8 0 o0, vi a1] h (some (vi x)) h := by
  refine Ev.met rfl rfl (Nat.le_of_ble_eq_true rfl) ?_
  show Ev Γ m_Moor_twitchesIn 0 [some (vr 8 0 o0), some (vi a1), none, none] [] h _ _
  obtain ⟨r, hr⟩ : ∃ r : Option AV, r = some (vi x) := ⟨_, rfl⟩
  obtain ⟨h', hh⟩ : ∃ h' : AH, h' = h := ⟨_, rfl⟩
  have hP : r = some (vi x) ∧ h' = h := ⟨hr, hh⟩
  suffices hS : Ev Γ m_Moor_twitchesIn 0 [some (vr 8 0 o0), some (vi a1), none, none] [] h r h' by rw [hr, hh] at hS; exact hS
  clear hr hh
  unfold f_Moor_twitchesIn at hx
  refine Ev.blk (pc' := 4) (lv' := [some (vr 8 0 o0), some (vi a1), some (vi (ii 0)), some (vi (ii 0))]) (st' := []) (h' := h) 0 4 (Nat.le_of_ble_eq_true rfl) tk_Moor_twitchesIn rfl rfl ⟨trivial, trivial, trivial, trivial, trivial⟩ ?_
  refine Ev.msk [true, true, true, true] ?_
  show Ev Γ m_Moor_twitchesIn 4 [some (vr 8 0 o0), some (vi a1), some (vi (ii 0)), some (vi (ii 0))] [] h r h'
  exact l_Moor_twitchesIn_L4 Γ FU o0 a1 (ii 0) (ii 0) h _ hx r h' hP
set_option maxRecDepth 4000 in
theorem l_HF_heap_L6 (Γ : AG) : ∀ (n : Nat) (v1 : Int32) (v2 : Int32) (v3 : Int32) (h : AH) (x : Int32), HF_heap_L6 n v1 v2 v3 h = some x → ∀ (r : Option AV) (h' : AH), r = some (vi x) ∧ h' = h → Ev Γ m_HF_heap 6 [some (vr 0 0 0), some (vi v1), some (vi v2), some (vi v3), none] [] h r h' := by
  intro n
  induction n with
  | zero => intro v1 v2 v3 h x hx; cases hx
  | succ n ih =>
    intro v1 v2 v3 h x hx r h' hP
    replace hx : HF_heap_L6_b (HF_heap_L6 n) v1 v2 v3 h = some x := hx
    unfold HF_heap_L6_b at hx
    refine Ev.blk (pc' := 14) (lv' := [some (vr 0 0 0), some (vi v1), some (vi v2), some (vi v3), none]) (st' := [vi (h.1 (h.2.2 0 13) 9), vi v3]) (h' := h) 6 4 (Nat.le_of_ble_eq_true rfl) tk_HF_heap rfl rfl ⟨trivial, trivial, trivial, trivial, trivial⟩ ?_
    refine Ev.icmp_ge 10 44 tk_HF_heap rfl (by decide) (fun hc1 => ?_) (fun hc1 => ?_)
    · replace hx := ip hc1 hx
      refine Ev.blk (pc' := 45) (lv' := [some (vr 0 0 0), some (vi v1), some (vi v2), some (vi v3), none]) (st' := [vi v1]) (h' := h) 25 1 (Nat.le_of_ble_eq_true rfl) tk_HF_heap rfl rfl ⟨trivial, trivial⟩ ?_
      obtain rfl := Option.some.inj hx
      obtain ⟨rfl, rfl⟩ := hP
      exact Ev.iret 26 tk_HF_heap rfl rfl
    · replace hx := ia hc1 hx
      refine Ev.blk (pc' := 22) (lv' := [some (vr 0 0 0), some (vi v1), some (vi v2), some (vi v3), none]) (st' := [vi v3, vr 8 0 13]) (h' := h) 11 3 (Nat.le_of_ble_eq_true rfl) tk_HF_heap rfl rfl ⟨trivial, trivial, trivial, trivial⟩ ?_
      obtain ⟨q1, hq2, hx⟩ := bd hx
      refine Ev.callV (ν := m_Moor_twitchesIn) (av := [vi v3]) (rest := []) (r1 := some (vi q1)) (h1 := h) (ci := 8) (nn := 0) (o := 13) 14 1 tk_HF_heap rfl bb_Moor_twitchesIn vv_Moor_twitchesIn lk_0_382 (by decide) rfl rfl (Or.inl rfl) (Nat.le_of_ble_eq_true rfl) (s_Moor_twitchesIn Γ 13 v3 h _ hq2) ?_
      show Ev Γ m_HF_heap 25 [some (vr 0 0 0), some (vi v1), some (vi v2), some (vi v3), none] [vi q1] h r h'
      refine Ev.blk (pc' := 30) (lv' := [some (vr 0 0 0), some (vi v1), some (vi v2), some (vi v3), some (vi q1)]) (st' := [vi v2, vi q1]) (h' := h) 15 3 (Nat.le_of_ble_eq_true rfl) tk_HF_heap rfl rfl ⟨trivial, trivial, trivial, trivial⟩ ?_
      have K3 : ∀ v3_0 : Int32, ∀ v3_1 : Int32, v3_0 = (if q1 ≤ v2 then v1 else v3) → v3_1 = (if q1 ≤ v2 then v2 else q1) → Ev Γ m_HF_heap 38 [some (vr 0 0 0), some (vi v3_0), some (vi v3_1), some (vi v3), none] [] h r h' := by
        intro v3_0 v3_1 e4 e5
        subst e4
        subst e5
        refine Ev.blk (pc' := 6) (lv' := [some (vr 0 0 0), some (vi (if q1 ≤ v2 then v1 else v3)), some (vi (if q1 ≤ v2 then v2 else q1)), some (vi (v3 + ii 1)), none]) (st' := []) (h' := h) 23 2 (Nat.le_of_ble_eq_true rfl) tk_HF_heap rfl rfl ⟨trivial, trivial, trivial⟩ ?_
        exact Ev.msk [true, true, true, true, false] (ih (if q1 ≤ v2 then v1 else v3) (if q1 ≤ v2 then v2 else q1) (v3 + ii 1) h _ hx r h' hP)
      refine Ev.icmp_le 18 38 tk_HF_heap rfl (by decide) (fun hc6 => ?_) (fun hc6 => ?_)
      · exact Ev.msk [true, true, true, true, false] (K3 _ _ (by first | rfl | simp only [if_pos hc6]) (by first | rfl | simp only [if_pos hc6]))
      · refine Ev.blk (pc' := 38) (lv' := [some (vr 0 0 0), some (vi v3), some (vi q1), some (vi v3), some (vi q1)]) (st' := []) (h' := h) 19 4 (Nat.le_of_ble_eq_true rfl) tk_HF_heap rfl rfl ⟨trivial, trivial, trivial, trivial, trivial⟩ ?_
        exact Ev.msk [true, true, true, true, false] (K3 _ _ (by first | rfl | simp only [if_neg hc6]) (by first | rfl | simp only [if_neg hc6]))
set_option maxRecDepth 4000 in
theorem s_HF_heap (Γ : AG) (h : AH) (x : Int32) (hx : f_HF_heap  h = some x) : MetA Γ m_HF_heap [vr 0 0 0] h (some (vi x)) h := by
  refine Ev.met rfl rfl (Nat.le_of_ble_eq_true rfl) ?_
  show Ev Γ m_HF_heap 0 [some (vr 0 0 0), none, none, none, none] [] h _ _
  obtain ⟨r, hr⟩ : ∃ r : Option AV, r = some (vi x) := ⟨_, rfl⟩
  obtain ⟨h', hh⟩ : ∃ h' : AH, h' = h := ⟨_, rfl⟩
  have hP : r = some (vi x) ∧ h' = h := ⟨hr, hh⟩
  suffices hS : Ev Γ m_HF_heap 0 [some (vr 0 0 0), none, none, none, none] [] h r h' by rw [hr, hh] at hS; exact hS
  clear hr hh
  unfold f_HF_heap at hx
  refine Ev.blk (pc' := 6) (lv' := [some (vr 0 0 0), some (vi (ii (-1))), some (vi (ii 0)), some (vi (ii 0)), none]) (st' := []) (h' := h) 0 6 (Nat.le_of_ble_eq_true rfl) tk_HF_heap rfl rfl ⟨trivial, trivial, trivial, trivial, trivial, trivial, trivial⟩ ?_
  refine Ev.msk [true, true, true, true, false] ?_
  show Ev Γ m_HF_heap 6 [some (vr 0 0 0), some (vi (ii (-1))), some (vi (ii 0)), some (vi (ii 0)), none] [] h r h'
  exact l_HF_heap_L6 Γ FU (ii (-1)) (ii 0) (ii 0) h _ hx r h' hP
set_option maxRecDepth 4000 in
theorem s_HF_costs (Γ : AG) (a1 : Int32) (h : AH) (x : Int32) (hx : f_HF_costs a1 h = some x) : MetA Γ m_HF_costs [vr 0 0 0, vi a1] h (some (vi x)) h := by
  refine Ev.met rfl rfl (Nat.le_of_ble_eq_true rfl) ?_
  show Ev Γ m_HF_costs 0 [some (vr 0 0 0), some (vi a1)] [] h _ _
  obtain ⟨r, hr⟩ : ∃ r : Option AV, r = some (vi x) := ⟨_, rfl⟩
  obtain ⟨h', hh⟩ : ∃ h' : AH, h' = h := ⟨_, rfl⟩
  have hP : r = some (vi x) ∧ h' = h := ⟨hr, hh⟩
  suffices hS : Ev Γ m_HF_costs 0 [some (vr 0 0 0), some (vi a1)] [] h r h' by rw [hr, hh] at hS; exact hS
  clear hr hh
  unfold f_HF_costs at hx
  refine Ev.blk (pc' := 2) (lv' := [some (vr 0 0 0), some (vi a1)]) (st' := [vi a1, vr 0 0 0]) (h' := h) 0 2 (Nat.le_of_ble_eq_true rfl) tk_HF_costs rfl rfl ⟨trivial, trivial, trivial⟩ ?_
  refine Ev.callV (ν := m_HF_canSink) (av := [vi a1]) (rest := []) (r1 := some (vi (p_HF_canSink a1 h))) (h1 := h) (ci := 0) (nn := 0) (o := 0) 2 1 tk_HF_costs rfl bb_HF_canSink vv_HF_canSink lk_0_210 (by decide) rfl rfl (Or.inl rfl) (Nat.le_of_ble_eq_true rfl) (s_HF_canSink Γ a1 h) ?_
  show Ev Γ m_HF_costs 5 [some (vr 0 0 0), some (vi a1)] [vi (p_HF_canSink a1 h)] h r h'
  refine Ev.if_eq 3 16 tk_HF_costs rfl (by decide) (fun hc1 => ?_) (fun hc1 => ?_)
  · replace hx := ip hc1 hx
    refine Ev.blk (pc' := 17) (lv' := [some (vr 0 0 0), some (vi a1)]) (st' := [vi (ii (-1))]) (h' := h) 8 1 (Nat.le_of_ble_eq_true rfl) tk_HF_costs rfl rfl ⟨trivial, trivial⟩ ?_
    obtain rfl := Option.some.inj hx
    obtain ⟨rfl, rfl⟩ := hP
    exact Ev.iret 9 tk_HF_costs rfl rfl
  · replace hx := ia hc1 hx
    refine Ev.blk (pc' := 10) (lv' := [some (vr 0 0 0), some (vi a1)]) (st' := [vi a1, vr 0 0 0]) (h' := h) 4 2 (Nat.le_of_ble_eq_true rfl) tk_HF_costs rfl rfl ⟨trivial, trivial, trivial⟩ ?_
    obtain ⟨q1, hq2, hx⟩ := bd hx
    refine Ev.callV (ν := m_HF_priceNow) (av := [vi a1]) (rest := []) (r1 := some (vi q1)) (h1 := h) (ci := 0) (nn := 0) (o := 0) 6 1 tk_HF_costs rfl bb_HF_priceNow vv_HF_priceNow lk_0_213 (by decide) rfl rfl (Or.inl rfl) (Nat.le_of_ble_eq_true rfl) (s_HF_priceNow Γ a1 h _ hq2) ?_
    show Ev Γ m_HF_costs 13 [some (vr 0 0 0), some (vi a1)] [vi q1] h r h'
    refine Ev.blk (pc' := 17) (lv' := [some (vr 0 0 0), some (vi a1)]) (st' := [vi q1]) (h' := h) 7 1 (Nat.le_of_ble_eq_true rfl) tk_HF_costs rfl rfl ⟨trivial, trivial⟩ ?_
    obtain rfl := Option.some.inj hx
    obtain ⟨rfl, rfl⟩ := hP
    exact Ev.iret 9 tk_HF_costs rfl rfl
set_option maxRecDepth 4000 in
theorem s_HF_loses (Γ : AG) (a1 : Int32) (h : AH) (x : Int32) (hx : f_HF_loses a1 h = some x) : MetA Γ m_HF_loses [vr 0 0 0, vi a1] h (some (vi x)) h := by
  refine Ev.met rfl rfl (Nat.le_of_ble_eq_true rfl) ?_
  show Ev Γ m_HF_loses 0 [some (vr 0 0 0), some (vi a1)] [] h _ _
  obtain ⟨r, hr⟩ : ∃ r : Option AV, r = some (vi x) := ⟨_, rfl⟩
  obtain ⟨h', hh⟩ : ∃ h' : AH, h' = h := ⟨_, rfl⟩
  have hP : r = some (vi x) ∧ h' = h := ⟨hr, hh⟩
  suffices hS : Ev Γ m_HF_loses 0 [some (vr 0 0 0), some (vi a1)] [] h r h' by rw [hr, hh] at hS; exact hS
  clear hr hh
  unfold f_HF_loses at hx
  refine Ev.blk (pc' := 2) (lv' := [some (vr 0 0 0), some (vi a1)]) (st' := [vi a1, vr 0 0 0]) (h' := h) 0 2 (Nat.le_of_ble_eq_true rfl) tk_HF_loses rfl rfl ⟨trivial, trivial, trivial⟩ ?_
  refine Ev.callV (ν := m_HF_canSink) (av := [vi a1]) (rest := []) (r1 := some (vi (p_HF_canSink a1 h))) (h1 := h) (ci := 0) (nn := 0) (o := 0) 2 1 tk_HF_loses rfl bb_HF_canSink vv_HF_canSink lk_0_210 (by decide) rfl rfl (Or.inl rfl) (Nat.le_of_ble_eq_true rfl) (s_HF_canSink Γ a1 h) ?_
  show Ev Γ m_HF_loses 5 [some (vr 0 0 0), some (vi a1)] [vi (p_HF_canSink a1 h)] h r h'
  refine Ev.if_ne 3 10 tk_HF_loses rfl (by decide) (fun hc1 => ?_) (fun hc1 => ?_)
  · replace hx := ia hc1 hx
    refine Ev.blk (pc' := 25) (lv' := [some (vr 0 0 0), some (vi a1)]) (st' := [vi (h.1 13 6), vi (h.1 13 8), vr 0 0 0]) (h' := h) 6 7 (Nat.le_of_ble_eq_true rfl) tk_HF_loses rfl rfl ⟨trivial, trivial, trivial, trivial, trivial, trivial, trivial, trivial⟩ ?_
    obtain ⟨q1, hq2, hx⟩ := bd hx
    refine Ev.callV (ν := m_HF_allBring) (av := [vi (h.1 13 8), vi (h.1 13 6)]) (rest := []) (r1 := some (vi q1)) (h1 := h) (ci := 0) (nn := 0) (o := 0) 13 2 tk_HF_loses rfl bb_HF_allBring vv_HF_allBring lk_0_301 (by decide) rfl rfl (Or.inl rfl) (Nat.le_of_ble_eq_true rfl) (s_HF_allBring Γ (h.1 13 8) (h.1 13 6) h _ hq2) ?_
    show Ev Γ m_HF_loses 28 [some (vr 0 0 0), some (vi a1)] [vi q1] h r h'
    refine Ev.blk (pc' := 44) (lv' := [some (vr 0 0 0), some (vi a1)]) (st' := [vi a1, vi (h.1 13 6), vi (h.1 13 8), vr 0 0 0, vi q1]) (h' := h) 14 8 (Nat.le_of_ble_eq_true rfl) tk_HF_loses rfl rfl ⟨trivial, trivial, trivial, trivial, trivial, trivial, trivial, trivial, trivial⟩ ?_
    refine Ev.callS (ν := m_HF_bit) (av := [vi a1]) (rest := [vi (h.1 13 6), vi (h.1 13 8), vr 0 0 0, vi q1]) (r1 := some (vi (p_HF_bit a1))) (h1 := h) 22 1 tk_HF_loses rfl bb_HF_bit vv_HF_bit lk_0_327 (by decide) rfl rfl (Nat.le_of_ble_eq_true rfl) (s_HF_bit Γ a1 h) ?_
    show Ev Γ m_HF_loses 47 [some (vr 0 0 0), some (vi a1)] [vi (p_HF_bit a1), vi (h.1 13 6), vi (h.1 13 8), vr 0 0 0, vi q1] h r h'
    refine Ev.blk (pc' := 48) (lv' := [some (vr 0 0 0), some (vi a1)]) (st' := [vi ((h.1 13 6) ||| (p_HF_bit a1)), vi (h.1 13 8), vr 0 0 0, vi q1]) (h' := h) 23 1 (Nat.le_of_ble_eq_true rfl) tk_HF_loses rfl rfl ⟨trivial, trivial⟩ ?_
    obtain ⟨q2, hq3, hx⟩ := bd hx
    refine Ev.callV (ν := m_HF_allBring) (av := [vi (h.1 13 8), vi ((h.1 13 6) ||| (p_HF_bit a1))]) (rest := [vi q1]) (r1 := some (vi q2)) (h1 := h) (ci := 0) (nn := 0) (o := 0) 24 2 tk_HF_loses rfl bb_HF_allBring vv_HF_allBring lk_0_301 (by decide) rfl rfl (Or.inl rfl) (Nat.le_of_ble_eq_true rfl) (s_HF_allBring Γ (h.1 13 8) ((h.1 13 6) ||| (p_HF_bit a1)) h _ hq3) ?_
    show Ev Γ m_HF_loses 51 [some (vr 0 0 0), some (vi a1)] [vi q2, vi q1] h r h'
    refine Ev.blk (pc' := 52) (lv' := [some (vr 0 0 0), some (vi a1)]) (st' := [vi (q1 - q2)]) (h' := h) 25 1 (Nat.le_of_ble_eq_true rfl) tk_HF_loses rfl rfl ⟨trivial, trivial⟩ ?_
    obtain rfl := Option.some.inj hx
    obtain ⟨rfl, rfl⟩ := hP
    exact Ev.iret 26 tk_HF_loses rfl rfl
  · replace hx := ip hc1 hx
    refine Ev.blk (pc' := 9) (lv' := [some (vr 0 0 0), some (vi a1)]) (st' := [vi (ii (-1))]) (h' := h) 4 1 (Nat.le_of_ble_eq_true rfl) tk_HF_loses rfl rfl ⟨trivial, trivial⟩ ?_
    obtain rfl := Option.some.inj hx
    obtain ⟨rfl, rfl⟩ := hP
    exact Ev.iret 5 tk_HF_loses rfl rfl
set_option maxRecDepth 4000 in
theorem s_Moor_payOf (Γ : AG) (o0 : Nat) (a1 : Int32) (h : AH) (x : Int32) (hx : f_Moor_payOf o0 a1 h = some x) : MetA Γ m_Moor_payOf [vr 8 0 o0, vi a1] h (some (vi x)) h := by
  refine Ev.met rfl rfl (Nat.le_of_ble_eq_true rfl) ?_
  show Ev Γ m_Moor_payOf 0 [some (vr 8 0 o0), some (vi a1)] [] h _ _
  obtain ⟨r, hr⟩ : ∃ r : Option AV, r = some (vi x) := ⟨_, rfl⟩
  obtain ⟨h', hh⟩ : ∃ h' : AH, h' = h := ⟨_, rfl⟩
  have hP : r = some (vi x) ∧ h' = h := ⟨hr, hh⟩
  suffices hS : Ev Γ m_Moor_payOf 0 [some (vr 8 0 o0), some (vi a1)] [] h r h' by rw [hr, hh] at hS; exact hS
  clear hr hh
  unfold f_Moor_payOf at hx
  refine Ev.blk (pc' := 1) (lv' := [some (vr 8 0 o0), some (vi a1)]) (st' := [vi a1]) (h' := h) 0 1 (Nat.le_of_ble_eq_true rfl) tk_Moor_payOf rfl rfl ⟨trivial, trivial⟩ ?_
  refine Ev.if_lt 1 19 tk_Moor_payOf rfl (by decide) (fun hc1 => ?_) (fun hc1 => ?_)
  · replace hx := ip hc1 hx
    refine Ev.blk (pc' := 20) (lv' := [some (vr 8 0 o0), some (vi a1)]) (st' := [vi (ii 0)]) (h' := h) 10 1 (Nat.le_of_ble_eq_true rfl) tk_Moor_payOf rfl rfl ⟨trivial, trivial⟩ ?_
    obtain rfl := Option.some.inj hx
    obtain ⟨rfl, rfl⟩ := hP
    exact Ev.iret 11 tk_Moor_payOf rfl rfl
  · replace hx := ia hc1 hx
    refine Ev.blk (pc' := 7) (lv' := [some (vr 8 0 o0), some (vi a1)]) (st' := [vi (ii 6), vi a1]) (h' := h) 2 2 (Nat.le_of_ble_eq_true rfl) tk_Moor_payOf rfl rfl ⟨trivial, trivial, trivial⟩ ?_
    refine Ev.icmp_ge 4 19 tk_Moor_payOf rfl (by decide) (fun hc2 => ?_) (fun hc2 => ?_)
    · replace hx := ip hc2 hx
      refine Ev.blk (pc' := 20) (lv' := [some (vr 8 0 o0), some (vi a1)]) (st' := [vi (ii 0)]) (h' := h) 10 1 (Nat.le_of_ble_eq_true rfl) tk_Moor_payOf rfl rfl ⟨trivial, trivial⟩ ?_
      obtain rfl := Option.some.inj hx
      obtain ⟨rfl, rfl⟩ := hP
      exact Ev.iret 11 tk_Moor_payOf rfl rfl
    · replace hx := ia hc2 hx
      obtain ⟨hg3, hx⟩ := gd hx
      refine Ev.blk (pc' := 20) (lv' := [some (vr 8 0 o0), some (vi a1)]) (st' := [vi (h.1 (o0 + 2) (a1).toNatClampNeg)]) (h' := h) 5 5 (Nat.le_of_ble_eq_true rfl) tk_Moor_payOf rfl rfl ⟨trivial, trivial, trivial, hg3, trivial, trivial⟩ ?_
      obtain rfl := Option.some.inj hx
      obtain ⟨rfl, rfl⟩ := hP
      exact Ev.iret 11 tk_Moor_payOf rfl rfl
set_option maxRecDepth 4000 in
theorem l_HF_richest_L6 (Γ : AG) : ∀ (n : Nat) (v1 : Int32) (v2 : Int32) (v3 : Int32) (h : AH) (x : Int32), HF_richest_L6 n v1 v2 v3 h = some x → ∀ (r : Option AV) (h' : AH), r = some (vi x) ∧ h' = h → Ev Γ m_HF_richest 6 [some (vr 0 0 0), some (vi v1), some (vi v2), some (vi v3)] [] h r h' := by
  intro n
  induction n with
  | zero => intro v1 v2 v3 h x hx; cases hx
  | succ n ih =>
    intro v1 v2 v3 h x hx r h' hP
    replace hx : HF_richest_L6_b (HF_richest_L6 n) v1 v2 v3 h = some x := hx
    unfold HF_richest_L6_b at hx
    refine Ev.blk (pc' := 14) (lv' := [some (vr 0 0 0), some (vi v1), some (vi v2), some (vi v3)]) (st' := [vi (h.1 (h.2.2 0 13) 10), vi v3]) (h' := h) 6 4 (Nat.le_of_ble_eq_true rfl) tk_HF_richest rfl rfl ⟨trivial, trivial, trivial, trivial, trivial⟩ ?_
    refine Ev.icmp_ge 10 46 tk_HF_richest rfl (by decide) (fun hc1 => ?_) (fun hc1 => ?_)
    · replace hx := ip hc1 hx
      refine Ev.blk (pc' := 47) (lv' := [some (vr 0 0 0), some (vi v1), some (vi v2), some (vi v3)]) (st' := [vi v1]) (h' := h) 26 1 (Nat.le_of_ble_eq_true rfl) tk_HF_richest rfl rfl ⟨trivial, trivial⟩ ?_
      obtain rfl := Option.some.inj hx
      obtain ⟨rfl, rfl⟩ := hP
      exact Ev.iret 27 tk_HF_richest rfl rfl
    · replace hx := ia hc1 hx
      refine Ev.blk (pc' := 22) (lv' := [some (vr 0 0 0), some (vi v1), some (vi v2), some (vi v3)]) (st' := [vi v3, vr 8 0 13]) (h' := h) 11 3 (Nat.le_of_ble_eq_true rfl) tk_HF_richest rfl rfl ⟨trivial, trivial, trivial, trivial⟩ ?_
      obtain ⟨q1, hq2, hx⟩ := bd hx
      refine Ev.callV (ν := m_Moor_payOf) (av := [vi v3]) (rest := []) (r1 := some (vi q1)) (h1 := h) (ci := 8) (nn := 0) (o := 13) 14 1 tk_HF_richest rfl bb_Moor_payOf vv_Moor_payOf lk_0_193 (by decide) rfl rfl (Or.inl rfl) (Nat.le_of_ble_eq_true rfl) (s_Moor_payOf Γ 13 v3 h _ hq2) ?_
      show Ev Γ m_HF_richest 25 [some (vr 0 0 0), some (vi v1), some (vi v2), some (vi v3)] [vi q1] h r h'
      refine Ev.blk (pc' := 26) (lv' := [some (vr 0 0 0), some (vi v1), some (vi v2), some (vi v3)]) (st' := [vi v2, vi q1]) (h' := h) 15 1 (Nat.le_of_ble_eq_true rfl) tk_HF_richest rfl rfl ⟨trivial, trivial⟩ ?_
      obtain ⟨q3, hq3, hx⟩ := bd hx
      have K4 : Ev Γ m_HF_richest 40 [some (vr 0 0 0), some (vi q3.1), some (vi q3.2), some (vi v3)] [] h r h' := by
        refine Ev.blk (pc' := 6) (lv' := [some (vr 0 0 0), some (vi q3.1), some (vi q3.2), some (vi (v3 + ii 1))]) (st' := []) (h' := h) 24 2 (Nat.le_of_ble_eq_true rfl) tk_HF_richest rfl rfl ⟨trivial, trivial, trivial⟩ ?_
        exact Ev.msk [true, true, true, true] (ih q3.1 q3.2 (v3 + ii 1) h _ hx r h' hP)
      clear hx
      refine Ev.icmp_le 16 40 tk_HF_richest rfl (by decide) (fun hc5 => ?_) (fun hc5 => ?_)
      · replace hq3 := ip hc5 hq3
        obtain rfl := Option.some.inj hq3
        exact Ev.msk [true, true, true, true] K4
      · replace hq3 := ia hc5 hq3
        refine Ev.blk (pc' := 34) (lv' := [some (vr 0 0 0), some (vi v1), some (vi v2), some (vi v3)]) (st' := [vi v3, vr 8 0 13]) (h' := h) 17 3 (Nat.le_of_ble_eq_true rfl) tk_HF_richest rfl rfl ⟨trivial, trivial, trivial, trivial⟩ ?_
        obtain ⟨q2, hq6, hq3⟩ := bd hq3
        refine Ev.callV (ν := m_Moor_payOf) (av := [vi v3]) (rest := []) (r1 := some (vi q2)) (h1 := h) (ci := 8) (nn := 0) (o := 13) 20 1 tk_HF_richest rfl bb_Moor_payOf vv_Moor_payOf lk_0_193 (by decide) rfl rfl (Or.inl rfl) (Nat.le_of_ble_eq_true rfl) (s_Moor_payOf Γ 13 v3 h _ hq6) ?_
        show Ev Γ m_HF_richest 37 [some (vr 0 0 0), some (vi v1), some (vi v2), some (vi v3)] [vi q2] h r h'
        refine Ev.blk (pc' := 40) (lv' := [some (vr 0 0 0), some (vi v3), some (vi q2), some (vi v3)]) (st' := []) (h' := h) 21 3 (Nat.le_of_ble_eq_true rfl) tk_HF_richest rfl rfl ⟨trivial, trivial, trivial, trivial⟩ ?_
        obtain rfl := Option.some.inj hq3
        exact Ev.msk [true, true, true, true] K4
set_option maxRecDepth 4000 in
theorem s_HF_richest (Γ : AG) (h : AH) (x : Int32) (hx : f_HF_richest  h = some x) : MetA Γ m_HF_richest [vr 0 0 0] h (some (vi x)) h := by
  refine Ev.met rfl rfl (Nat.le_of_ble_eq_true rfl) ?_
  show Ev Γ m_HF_richest 0 [some (vr 0 0 0), none, none, none] [] h _ _
  obtain ⟨r, hr⟩ : ∃ r : Option AV, r = some (vi x) := ⟨_, rfl⟩
  obtain ⟨h', hh⟩ : ∃ h' : AH, h' = h := ⟨_, rfl⟩
  have hP : r = some (vi x) ∧ h' = h := ⟨hr, hh⟩
  suffices hS : Ev Γ m_HF_richest 0 [some (vr 0 0 0), none, none, none] [] h r h' by rw [hr, hh] at hS; exact hS
  clear hr hh
  unfold f_HF_richest at hx
  refine Ev.blk (pc' := 6) (lv' := [some (vr 0 0 0), some (vi (ii (-1))), some (vi (ii 0)), some (vi (ii 0))]) (st' := []) (h' := h) 0 6 (Nat.le_of_ble_eq_true rfl) tk_HF_richest rfl rfl ⟨trivial, trivial, trivial, trivial, trivial, trivial, trivial⟩ ?_
  refine Ev.msk [true, true, true, true] ?_
  show Ev Γ m_HF_richest 6 [some (vr 0 0 0), some (vi (ii (-1))), some (vi (ii 0)), some (vi (ii 0))] [] h r h'
  exact l_HF_richest_L6 Γ FU (ii (-1)) (ii 0) (ii 0) h _ hx r h' hP
set_option maxRecDepth 4000 in
theorem l_HF_driest_L13 (Γ : AG) : ∀ (n : Nat) (v1 : Int32) (v2 : Int32) (h : AH) (x : Int32), HF_driest_L13 n v1 v2 h = some x → ∀ (r : Option AV) (h' : AH), r = some (vi x) ∧ h' = h → Ev Γ m_HF_driest 13 [some (vr 0 0 0), some (vi v1), some (vi v2)] [] h r h' := by
  intro n
  induction n with
  | zero => intro v1 v2 h x hx; cases hx
  | succ n ih =>
    intro v1 v2 h x hx r h' hP
    replace hx : HF_driest_L13_b (HF_driest_L13 n) v1 v2 h = some x := hx
    unfold HF_driest_L13_b at hx
    refine Ev.blk (pc' := 15) (lv' := [some (vr 0 0 0), some (vi v1), some (vi v2)]) (st' := [vi (ii 4), vi v2]) (h' := h) 9 2 (Nat.le_of_ble_eq_true rfl) tk_HF_driest rfl rfl ⟨trivial, trivial, trivial⟩ ?_
    refine Ev.icmp_ge 11 53 tk_HF_driest rfl (by decide) (fun hc1 => ?_) (fun hc1 => ?_)
    · replace hx := ip hc1 hx
      refine Ev.blk (pc' := 54) (lv' := [some (vr 0 0 0), some (vi v1), some (vi v2)]) (st' := [vi v1]) (h' := h) 29 1 (Nat.le_of_ble_eq_true rfl) tk_HF_driest rfl rfl ⟨trivial, trivial⟩ ?_
      obtain rfl := Option.some.inj hx
      obtain ⟨rfl, rfl⟩ := hP
      exact Ev.iret 30 tk_HF_driest rfl rfl
    · replace hx := ia hc1 hx
      refine Ev.blk (pc' := 27) (lv' := [some (vr 0 0 0), some (vi v1), some (vi v2)]) (st' := [vi (h.1 13 6), vi v2, vr 0 0 0]) (h' := h) 12 5 (Nat.le_of_ble_eq_true rfl) tk_HF_driest rfl rfl ⟨trivial, trivial, trivial, trivial, trivial, trivial⟩ ?_
      obtain ⟨q1, hq2, hx⟩ := bd hx
      refine Ev.callV (ν := m_HF_allBring) (av := [vi v2, vi (h.1 13 6)]) (rest := []) (r1 := some (vi q1)) (h1 := h) (ci := 0) (nn := 0) (o := 0) 17 2 tk_HF_driest rfl bb_HF_allBring vv_HF_allBring lk_0_301 (by decide) rfl rfl (Or.inl rfl) (Nat.le_of_ble_eq_true rfl) (s_HF_allBring Γ v2 (h.1 13 6) h _ hq2) ?_
      show Ev Γ m_HF_driest 30 [some (vr 0 0 0), some (vi v1), some (vi v2)] [vi q1] h r h'
      refine Ev.blk (pc' := 39) (lv' := [some (vr 0 0 0), some (vi v1), some (vi v2)]) (st' := [vi (h.1 13 6), vi v1, vr 0 0 0, vi q1]) (h' := h) 18 5 (Nat.le_of_ble_eq_true rfl) tk_HF_driest rfl rfl ⟨trivial, trivial, trivial, trivial, trivial, trivial⟩ ?_
      obtain ⟨q2, hq3, hx⟩ := bd hx
      refine Ev.callV (ν := m_HF_allBring) (av := [vi v1, vi (h.1 13 6)]) (rest := [vi q1]) (r1 := some (vi q2)) (h1 := h) (ci := 0) (nn := 0) (o := 0) 23 2 tk_HF_driest rfl bb_HF_allBring vv_HF_allBring lk_0_301 (by decide) rfl rfl (Or.inl rfl) (Nat.le_of_ble_eq_true rfl) (s_HF_allBring Γ v1 (h.1 13 6) h _ hq3) ?_
      show Ev Γ m_HF_driest 42 [some (vr 0 0 0), some (vi v1), some (vi v2)] [vi q2, vi q1] h r h'
      have K4 : ∀ v4_0 : Int32, v4_0 = (if q2 ≤ q1 then v1 else v2) → Ev Γ m_HF_driest 47 [some (vr 0 0 0), some (vi v4_0), some (vi v2)] [] h r h' := by
        intro v4_0 e5
        subst e5
        refine Ev.blk (pc' := 13) (lv' := [some (vr 0 0 0), some (vi (if q2 ≤ q1 then v1 else v2)), some (vi (v2 + ii 1))]) (st' := []) (h' := h) 27 2 (Nat.le_of_ble_eq_true rfl) tk_HF_driest rfl rfl ⟨trivial, trivial, trivial⟩ ?_
        exact Ev.msk [true, true, true] (ih (if q2 ≤ q1 then v1 else v2) (v2 + ii 1) h _ hx r h' hP)
      refine Ev.icmp_ge 24 47 tk_HF_driest rfl (by decide) (fun hc6 => ?_) (fun hc6 => ?_)
      · exact Ev.msk [true, true, true] (K4 _ (by first | rfl | simp only [if_pos hc6]))
      · refine Ev.blk (pc' := 47) (lv' := [some (vr 0 0 0), some (vi v2), some (vi v2)]) (st' := []) (h' := h) 25 2 (Nat.le_of_ble_eq_true rfl) tk_HF_driest rfl rfl ⟨trivial, trivial, trivial⟩ ?_
        exact Ev.msk [true, true, true] (K4 _ (by first | rfl | simp only [if_neg hc6]))
set_option maxRecDepth 4000 in
theorem s_HF_driest (Γ : AG) (h : AH) (x : Int32) (hx : f_HF_driest  h = some x) : MetA Γ m_HF_driest [vr 0 0 0] h (some (vi x)) h := by
  refine Ev.met rfl rfl (Nat.le_of_ble_eq_true rfl) ?_
  show Ev Γ m_HF_driest 0 [some (vr 0 0 0), none, none] [] h _ _
  obtain ⟨r, hr⟩ : ∃ r : Option AV, r = some (vi x) := ⟨_, rfl⟩
  obtain ⟨h', hh⟩ : ∃ h' : AH, h' = h := ⟨_, rfl⟩
  have hP : r = some (vi x) ∧ h' = h := ⟨hr, hh⟩
  suffices hS : Ev Γ m_HF_driest 0 [some (vr 0 0 0), none, none] [] h r h' by rw [hr, hh] at hS; exact hS
  clear hr hh
  unfold f_HF_driest at hx
  refine Ev.blk (pc' := 1) (lv' := [some (vr 0 0 0), none, none]) (st' := [vr 0 0 0]) (h' := h) 0 1 (Nat.le_of_ble_eq_true rfl) tk_HF_driest rfl rfl ⟨trivial, trivial⟩ ?_
  refine Ev.callV (ν := m_HF_hasHeath) (av := []) (rest := []) (r1 := some (vi (p_HF_hasHeath h))) (h1 := h) (ci := 0) (nn := 0) (o := 0) 1 0 tk_HF_driest rfl bb_HF_hasHeath vv_HF_hasHeath lk_0_137 (by decide) rfl rfl (Or.inl rfl) (Nat.le_of_ble_eq_true rfl) (s_HF_hasHeath Γ h) ?_
  show Ev Γ m_HF_driest 4 [some (vr 0 0 0), none, none] [vi (p_HF_hasHeath h)] h r h'
  refine Ev.if_ne 2 9 tk_HF_driest rfl (by decide) (fun hc1 => ?_) (fun hc1 => ?_)
  · replace hx := ia hc1 hx
    refine Ev.blk (pc' := 13) (lv' := [some (vr 0 0 0), some (vi (ii 0)), some (vi (ii 1))]) (st' := []) (h' := h) 5 4 (Nat.le_of_ble_eq_true rfl) tk_HF_driest rfl rfl ⟨trivial, trivial, trivial, trivial, trivial⟩ ?_
    refine Ev.msk [true, true, true] ?_
    show Ev Γ m_HF_driest 13 [some (vr 0 0 0), some (vi (ii 0)), some (vi (ii 1))] [] h r h'
    exact l_HF_driest_L13 Γ FU (ii 0) (ii 1) h _ hx r h' hP
  · replace hx := ip hc1 hx
    refine Ev.blk (pc' := 8) (lv' := [some (vr 0 0 0), none, none]) (st' := [vi (ii (-1))]) (h' := h) 3 1 (Nat.le_of_ble_eq_true rfl) tk_HF_driest rfl rfl ⟨trivial, trivial⟩ ?_
    obtain rfl := Option.some.inj hx
    obtain ⟨rfl, rfl⟩ := hP
    exact Ev.iret 4 tk_HF_driest rfl rfl
set_option maxRecDepth 4000 in
theorem s_HF_image (Γ : AG) (h : AH) (x : Int32 × AH) (hx : f_HF_image  h = some x) : MetA Γ m_HF_image [vr 0 0 0] h (some (vi x.1)) x.2 := by
  refine Ev.met rfl rfl (Nat.le_of_ble_eq_true rfl) ?_
  show Ev Γ m_HF_image 0 [some (vr 0 0 0)] [] h _ _
  obtain ⟨r, hr⟩ : ∃ r : Option AV, r = some (vi x.1) := ⟨_, rfl⟩
  obtain ⟨h', hh⟩ : ∃ h' : AH, h' = x.2 := ⟨_, rfl⟩
  have hP : r = some (vi x.1) ∧ h' = x.2 := ⟨hr, hh⟩
  suffices hS : Ev Γ m_HF_image 0 [some (vr 0 0 0)] [] h r h' by rw [hr, hh] at hS; exact hS
  clear hr hh
  unfold f_HF_image at hx
  refine Ev.blk (pc' := 1) (lv' := [some (vr 0 0 0)]) (st' := [vr 0 0 0]) (h' := h) 0 1 (Nat.le_of_ble_eq_true rfl) tk_HF_image rfl rfl ⟨trivial, trivial⟩ ?_
  refine Ev.callV (ν := m_HF_hasHeath) (av := []) (rest := []) (r1 := some (vi (p_HF_hasHeath h))) (h1 := h) (ci := 0) (nn := 0) (o := 0) 1 0 tk_HF_image rfl bb_HF_hasHeath vv_HF_hasHeath lk_0_137 (by decide) rfl rfl (Or.inl rfl) (Nat.le_of_ble_eq_true rfl) (s_HF_hasHeath Γ h) ?_
  show Ev Γ m_HF_image 4 [some (vr 0 0 0)] [vi (p_HF_hasHeath h)] h r h'
  refine Ev.if_ne 2 9 tk_HF_image rfl (by decide) (fun hc1 => ?_) (fun hc1 => ?_)
  · replace hx := ia hc1 hx
    refine Ev.blk (pc' := 17) (lv' := [some (vr 0 0 0)]) (st' := [vr 8 0 13, vr 8 0 19]) (h' := h) 5 4 (Nat.le_of_ble_eq_true rfl) tk_HF_image rfl rfl ⟨trivial, trivial, trivial, trivial, trivial⟩ ?_
    obtain ⟨q1, hq2, hx⟩ := bd hx
    refine Ev.callV (ν := m_Moor_copy) (av := [vr 8 0 13]) (rest := []) (r1 := none) (h1 := q1) (ci := 8) (nn := 0) (o := 19) 9 1 tk_HF_image rfl bb_Moor_copy vv_Moor_copy lk_0_294 (by decide) rfl rfl (Or.inl rfl) (Nat.le_of_ble_eq_true rfl) (s_Moor_copy Γ 19 13 h _ hq2) ?_
    show Ev Γ m_HF_image 20 [some (vr 0 0 0)] [] q1 r h'
    refine Ev.blk (pc' := 32) (lv' := [some (vr 0 0 0)]) (st' := [vi ((wI q1 0 17 (ii 1)).1 13 8)]) (h' := (wI q1 0 17 (ii 1))) 10 6 (Nat.le_of_ble_eq_true rfl) tk_HF_image rfl rfl ⟨trivial, trivial, (by decide), trivial, trivial, trivial, trivial⟩ ?_
    obtain rfl := Option.some.inj hx
    obtain ⟨rfl, rfl⟩ := hP
    exact Ev.iret 16 tk_HF_image rfl rfl
  · replace hx := ip hc1 hx
    refine Ev.blk (pc' := 8) (lv' := [some (vr 0 0 0)]) (st' := [vi (ii (-1))]) (h' := h) 3 1 (Nat.le_of_ble_eq_true rfl) tk_HF_image rfl rfl ⟨trivial, trivial⟩ ?_
    obtain rfl := Option.some.inj hx
    obtain ⟨rfl, rfl⟩ := hP
    exact Ev.iret 4 tk_HF_image rfl rfl
set_option maxRecDepth 4000 in
theorem s_HF_back (Γ : AG) (h : AH) (x : Int32 × AH) (hx : f_HF_back  h = some x) : MetA Γ m_HF_back [vr 0 0 0] h (some (vi x.1)) x.2 := by
  refine Ev.met rfl rfl (Nat.le_of_ble_eq_true rfl) ?_
  show Ev Γ m_HF_back 0 [some (vr 0 0 0)] [] h _ _
  obtain ⟨r, hr⟩ : ∃ r : Option AV, r = some (vi x.1) := ⟨_, rfl⟩
  obtain ⟨h', hh⟩ : ∃ h' : AH, h' = x.2 := ⟨_, rfl⟩
  have hP : r = some (vi x.1) ∧ h' = x.2 := ⟨hr, hh⟩
  suffices hS : Ev Γ m_HF_back 0 [some (vr 0 0 0)] [] h r h' by rw [hr, hh] at hS; exact hS
  clear hr hh
  unfold f_HF_back at hx
  refine Ev.blk (pc' := 4) (lv' := [some (vr 0 0 0)]) (st' := [vi (h.1 0 17)]) (h' := h) 0 2 (Nat.le_of_ble_eq_true rfl) tk_HF_back rfl rfl ⟨trivial, trivial, trivial⟩ ?_
  refine Ev.if_ne 2 9 tk_HF_back rfl (by decide) (fun hc1 => ?_) (fun hc1 => ?_)
  · replace hx := ia hc1 hx
    refine Ev.blk (pc' := 17) (lv' := [some (vr 0 0 0)]) (st' := [vr 8 0 19, vr 8 0 13]) (h' := h) 5 4 (Nat.le_of_ble_eq_true rfl) tk_HF_back rfl rfl ⟨trivial, trivial, trivial, trivial, trivial⟩ ?_
    obtain ⟨q1, hq2, hx⟩ := bd hx
    refine Ev.callV (ν := m_Moor_copy) (av := [vr 8 0 19]) (rest := []) (r1 := none) (h1 := q1) (ci := 8) (nn := 0) (o := 13) 9 1 tk_HF_back rfl bb_Moor_copy vv_Moor_copy lk_0_294 (by decide) rfl rfl (Or.inl rfl) (Nat.le_of_ble_eq_true rfl) (s_Moor_copy Γ 13 19 h _ hq2) ?_
    show Ev Γ m_HF_back 20 [some (vr 0 0 0)] [] q1 r h'
    refine Ev.blk (pc' := 24) (lv' := [some (vr 0 0 0)]) (st' := [vr 9 0 31]) (h' := q1) 10 2 (Nat.le_of_ble_eq_true rfl) tk_HF_back rfl rfl ⟨trivial, trivial, trivial⟩ ?_
    obtain ⟨q2, hq3, hx⟩ := bd hx
    refine Ev.callV (ν := m_Acts_clear) (av := []) (rest := []) (r1 := none) (h1 := q2) (ci := 9) (nn := 0) (o := 31) 12 0 tk_HF_back rfl bb_Acts_clear vv_Acts_clear lk_0_385 (by decide) rfl rfl (Or.inl rfl) (Nat.le_of_ble_eq_true rfl) (s_Acts_clear Γ q1 _ hq3) ?_
    show Ev Γ m_HF_back 27 [some (vr 0 0 0)] [] q2 r h'
    refine Ev.blk (pc' := 34) (lv' := [some (vr 0 0 0)]) (st' := [vi (q2.1 13 8)]) (h' := q2) 13 3 (Nat.le_of_ble_eq_true rfl) tk_HF_back rfl rfl ⟨trivial, trivial, trivial, trivial⟩ ?_
    obtain rfl := Option.some.inj hx
    obtain ⟨rfl, rfl⟩ := hP
    exact Ev.iret 16 tk_HF_back rfl rfl
  · replace hx := ip hc1 hx
    refine Ev.blk (pc' := 8) (lv' := [some (vr 0 0 0)]) (st' := [vi (ii (-1))]) (h' := h) 3 1 (Nat.le_of_ble_eq_true rfl) tk_HF_back rfl rfl ⟨trivial, trivial⟩ ?_
    obtain rfl := Option.some.inj hx
    obtain ⟨rfl, rfl⟩ := hP
    exact Ev.iret 4 tk_HF_back rfl rfl
set_option maxRecDepth 4000 in
theorem l_Moor_payOfAll_L4 (Γ : AG) : ∀ (n : Nat) (o0 : Nat) (v1 : Int32) (v2 : Int32) (h : AH) (x : Int32), Moor_payOfAll_L4 n o0 v1 v2 h = some x → ∀ (r : Option AV) (h' : AH), r = some (vi x) ∧ h' = h → Ev Γ m_Moor_payOfAll 4 [some (vr 8 0 o0), some (vi v1), some (vi v2)] [] h r h' := by
  intro n
  induction n with
  | zero => intro o0 v1 v2 h x hx; cases hx
  | succ n ih =>
    intro o0 v1 v2 h x hx r h' hP
    replace hx : Moor_payOfAll_L4_b (Moor_payOfAll_L4 n) o0 v1 v2 h = some x := hx
    unfold Moor_payOfAll_L4_b at hx
    refine Ev.blk (pc' := 7) (lv' := [some (vr 8 0 o0), some (vi v1), some (vi v2)]) (st' := [vi (ii 6), vi v2]) (h' := h) 4 2 (Nat.le_of_ble_eq_true rfl) tk_Moor_payOfAll rfl rfl ⟨trivial, trivial, trivial⟩ ?_
    refine Ev.icmp_ge 6 25 tk_Moor_payOfAll rfl (by decide) (fun hc1 => ?_) (fun hc1 => ?_)
    · replace hx := ip hc1 hx
      refine Ev.blk (pc' := 26) (lv' := [some (vr 8 0 o0), some (vi v1), some (vi v2)]) (st' := [vi v1]) (h' := h) 16 1 (Nat.le_of_ble_eq_true rfl) tk_Moor_payOfAll rfl rfl ⟨trivial, trivial⟩ ?_
      obtain rfl := Option.some.inj hx
      obtain ⟨rfl, rfl⟩ := hP
      exact Ev.iret 17 tk_Moor_payOfAll rfl rfl
    · replace hx := ia hc1 hx
      obtain ⟨hg2, hx⟩ := gd hx
      refine Ev.blk (pc' := 4) (lv' := [some (vr 8 0 o0), some (vi (v1 + (h.1 (o0 + 2) (v2).toNatClampNeg))), some (vi (v2 + ii 1))]) (st' := []) (h' := h) 7 9 (Nat.le_of_ble_eq_true rfl) tk_Moor_payOfAll rfl rfl ⟨trivial, trivial, trivial, trivial, hg2, trivial, trivial, trivial, trivial, trivial⟩ ?_
      exact Ev.msk [true, true, true] (ih o0 (v1 + (h.1 (o0 + 2) (v2).toNatClampNeg)) (v2 + ii 1) h _ hx r h' hP)
set_option maxRecDepth 4000 in
theorem s_Moor_payOfAll (Γ : AG) (o0 : Nat) (h : AH) (x : Int32) (hx : f_Moor_payOfAll o0 h = some x) : MetA Γ m_Moor_payOfAll [vr 8 0 o0] h (some (vi x)) h := by
  refine Ev.met rfl rfl (Nat.le_of_ble_eq_true rfl) ?_
  show Ev Γ m_Moor_payOfAll 0 [some (vr 8 0 o0), none, none] [] h _ _
  obtain ⟨r, hr⟩ : ∃ r : Option AV, r = some (vi x) := ⟨_, rfl⟩
  obtain ⟨h', hh⟩ : ∃ h' : AH, h' = h := ⟨_, rfl⟩
  have hP : r = some (vi x) ∧ h' = h := ⟨hr, hh⟩
  suffices hS : Ev Γ m_Moor_payOfAll 0 [some (vr 8 0 o0), none, none] [] h r h' by rw [hr, hh] at hS; exact hS
  clear hr hh
  unfold f_Moor_payOfAll at hx
  refine Ev.blk (pc' := 4) (lv' := [some (vr 8 0 o0), some (vi (ii 0)), some (vi (ii 0))]) (st' := []) (h' := h) 0 4 (Nat.le_of_ble_eq_true rfl) tk_Moor_payOfAll rfl rfl ⟨trivial, trivial, trivial, trivial, trivial⟩ ?_
  refine Ev.msk [true, true, true] ?_
  show Ev Γ m_Moor_payOfAll 4 [some (vr 8 0 o0), some (vi (ii 0)), some (vi (ii 0))] [] h r h'
  exact l_Moor_payOfAll_L4 Γ FU o0 (ii 0) (ii 0) h _ hx r h' hP
set_option maxRecDepth 4000 in
theorem s_HF_countOfMoor (Γ : AG) (a1 : Int32) (h : AH) (x : Int32) (hx : f_HF_countOfMoor a1 h = some x) : MetA Γ m_HF_countOfMoor [vr 0 0 0, vi a1] h (some (vi x)) h := by
  refine Ev.met rfl rfl (Nat.le_of_ble_eq_true rfl) ?_
  show Ev Γ m_HF_countOfMoor 0 [some (vr 0 0 0), some (vi a1)] [] h _ _
  obtain ⟨r, hr⟩ : ∃ r : Option AV, r = some (vi x) := ⟨_, rfl⟩
  obtain ⟨h', hh⟩ : ∃ h' : AH, h' = h := ⟨_, rfl⟩
  have hP : r = some (vi x) ∧ h' = h := ⟨hr, hh⟩
  suffices hS : Ev Γ m_HF_countOfMoor 0 [some (vr 0 0 0), some (vi a1)] [] h r h' by rw [hr, hh] at hS; exact hS
  clear hr hh
  unfold f_HF_countOfMoor at hx
  refine Ev.blk (pc' := 1) (lv' := [some (vr 0 0 0), some (vi a1)]) (st' := [vi a1]) (h' := h) 0 1 (Nat.le_of_ble_eq_true rfl) tk_HF_countOfMoor rfl rfl ⟨trivial, trivial⟩ ?_
  by_cases hc1 : a1 = ii 7
  · replace hx := ip hc1 hx
    refine Ev.tabIn (off := 43) 1 44 7 tk_HF_countOfMoor rfl hc1 (by decide) (by decide) ?_
    refine Ev.blk (pc' := 51) (lv' := [some (vr 0 0 0), some (vi a1)]) (st' := [vi (h.1 13 8)]) (h' := h) 2 3 (Nat.le_of_ble_eq_true rfl) tk_HF_countOfMoor rfl rfl ⟨trivial, trivial, trivial, trivial⟩ ?_
    obtain rfl := Option.some.inj hx
    obtain ⟨rfl, rfl⟩ := hP
    exact Ev.iret 5 tk_HF_countOfMoor rfl rfl
  replace hx := ia hc1 hx
  by_cases hc2 : a1 = ii 8
  · replace hx := ip hc2 hx
    refine Ev.tabIn (off := 51) 1 52 8 tk_HF_countOfMoor rfl hc2 (by decide) (by decide) ?_
    refine Ev.blk (pc' := 59) (lv' := [some (vr 0 0 0), some (vi a1)]) (st' := [vi (h.1 13 6)]) (h' := h) 6 3 (Nat.le_of_ble_eq_true rfl) tk_HF_countOfMoor rfl rfl ⟨trivial, trivial, trivial, trivial⟩ ?_
    obtain rfl := Option.some.inj hx
    obtain ⟨rfl, rfl⟩ := hP
    exact Ev.iret 9 tk_HF_countOfMoor rfl rfl
  replace hx := ia hc2 hx
  by_cases hc3 : a1 = ii 9
  · replace hx := ip hc3 hx
    refine Ev.tabIn (off := 59) 1 60 9 tk_HF_countOfMoor rfl hc3 (by decide) (by decide) ?_
    refine Ev.blk (pc' := 64) (lv' := [some (vr 0 0 0), some (vi a1)]) (st' := [vr 8 0 13]) (h' := h) 10 2 (Nat.le_of_ble_eq_true rfl) tk_HF_countOfMoor rfl rfl ⟨trivial, trivial, trivial⟩ ?_
    obtain ⟨q1, hq4, hx⟩ := bd hx
    refine Ev.callV (ν := m_Moor_payOfAll) (av := []) (rest := []) (r1 := some (vi q1)) (h1 := h) (ci := 8) (nn := 0) (o := 13) 12 0 tk_HF_countOfMoor rfl bb_Moor_payOfAll vv_Moor_payOfAll lk_0_394 (by decide) rfl rfl (Or.inl rfl) (Nat.le_of_ble_eq_true rfl) (s_Moor_payOfAll Γ 13 h _ hq4) ?_
    show Ev Γ m_HF_countOfMoor 67 [some (vr 0 0 0), some (vi a1)] [vi q1] h r h'
    obtain rfl := Option.some.inj hx
    obtain ⟨rfl, rfl⟩ := hP
    exact Ev.iret 13 tk_HF_countOfMoor rfl rfl
  replace hx := ia hc3 hx
  by_cases hc5 : a1 = ii 10
  · replace hx := ip hc5 hx
    refine Ev.tabIn (off := 67) 1 68 10 tk_HF_countOfMoor rfl hc5 (by decide) (by decide) ?_
    refine Ev.blk (pc' := 75) (lv' := [some (vr 0 0 0), some (vi a1)]) (st' := [vi (h.1 13 7)]) (h' := h) 14 3 (Nat.le_of_ble_eq_true rfl) tk_HF_countOfMoor rfl rfl ⟨trivial, trivial, trivial, trivial⟩ ?_
    obtain rfl := Option.some.inj hx
    obtain ⟨rfl, rfl⟩ := hP
    exact Ev.iret 17 tk_HF_countOfMoor rfl rfl
  replace hx := ia hc5 hx
  by_cases hc6 : a1 = ii 11
  · replace hx := ip hc6 hx
    refine Ev.tabIn (off := 75) 1 76 11 tk_HF_countOfMoor rfl hc6 (by decide) (by decide) ?_
    refine Ev.blk (pc' := 83) (lv' := [some (vr 0 0 0), some (vi a1)]) (st' := [vi (h.1 33 5)]) (h' := h) 18 3 (Nat.le_of_ble_eq_true rfl) tk_HF_countOfMoor rfl rfl ⟨trivial, trivial, trivial, trivial⟩ ?_
    obtain rfl := Option.some.inj hx
    obtain ⟨rfl, rfl⟩ := hP
    exact Ev.iret 21 tk_HF_countOfMoor rfl rfl
  replace hx := ia hc6 hx
  by_cases hc7 : a1 = ii 12
  · replace hx := ip hc7 hx
    refine Ev.tabIn (off := 83) 1 84 12 tk_HF_countOfMoor rfl hc7 (by decide) (by decide) ?_
    refine Ev.blk (pc' := 88) (lv' := [some (vr 0 0 0), some (vi a1)]) (st' := [vr 8 0 13]) (h' := h) 22 2 (Nat.le_of_ble_eq_true rfl) tk_HF_countOfMoor rfl rfl ⟨trivial, trivial, trivial⟩ ?_
    refine Ev.callV (ν := m_Moor_bookLength) (av := []) (rest := []) (r1 := some (vi (p_Moor_bookLength 13 h))) (h1 := h) (ci := 8) (nn := 0) (o := 13) 24 0 tk_HF_countOfMoor rfl bb_Moor_bookLength vv_Moor_bookLength lk_0_271 (by decide) rfl rfl (Or.inl rfl) (Nat.le_of_ble_eq_true rfl) (s_Moor_bookLength Γ 13 h) ?_
    show Ev Γ m_HF_countOfMoor 91 [some (vr 0 0 0), some (vi a1)] [vi (p_Moor_bookLength 13 h)] h r h'
    obtain rfl := Option.some.inj hx
    obtain ⟨rfl, rfl⟩ := hP
    exact Ev.iret 25 tk_HF_countOfMoor rfl rfl
  replace hx := ia hc7 hx
  by_cases hc8 : a1 = ii 13
  · replace hx := ip hc8 hx
    refine Ev.tabIn (off := 91) 1 92 13 tk_HF_countOfMoor rfl hc8 (by decide) (by decide) ?_
    refine Ev.blk (pc' := 99) (lv' := [some (vr 0 0 0), some (vi a1)]) (st' := [vi (h.1 31 1)]) (h' := h) 26 3 (Nat.le_of_ble_eq_true rfl) tk_HF_countOfMoor rfl rfl ⟨trivial, trivial, trivial, trivial⟩ ?_
    obtain rfl := Option.some.inj hx
    obtain ⟨rfl, rfl⟩ := hP
    exact Ev.iret 29 tk_HF_countOfMoor rfl rfl
  replace hx := ia hc8 hx
  refine Ev.tabOut 1 100 7 tk_HF_countOfMoor rfl (by decide) (fun k hk => ?_) (by decide) ?_
  · rcases (show k = 0 ∨ k = 1 ∨ k = 2 ∨ k = 3 ∨ k = 4 ∨ k = 5 ∨ k = 6 by omega) with rfl | rfl | rfl | rfl | rfl | rfl | rfl
    · exact hc1
    · exact hc2
    · exact hc3
    · exact hc5
    · exact hc6
    · exact hc7
    · exact hc8
  · refine Ev.blk (pc' := 103) (lv' := [some (vr 0 0 0), some (vi a1)]) (st' := [vi (ii (-1000000))]) (h' := h) 30 1 (Nat.le_of_ble_eq_true rfl) tk_HF_countOfMoor rfl rfl ⟨trivial, trivial⟩ ?_
    obtain rfl := Option.some.inj hx
    obtain ⟨rfl, rfl⟩ := hP
    exact Ev.iret 31 tk_HF_countOfMoor rfl rfl
