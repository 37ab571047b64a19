set_option maxRecDepth 4000 in
theorem s_R_rule (Γ : AG) (a1 : Int32) (h : AH) (x : Int32 × AH) (hx : f_R_rule a1 h = some x) : MetA Γ m_R_rule [vr 12 0 80, vi a1] h (some (vi x.1)) x.2 := by
  refine Ev.met rfl rfl (Nat.le_of_ble_eq_true rfl) ?_
  show Ev Γ m_R_rule 0 [some (vr 12 0 80), some (vi a1)] [] h _ _
  obtain ⟨r, hr⟩ : ∃ r : Option AV, r = some (vi x.1) := ⟨_, rfl⟩
  obtain ⟨h', hh⟩ : ∃ h' : AH, h' = x.2 := ⟨_, rfl⟩
  have hP : r = some (vi x.1) ∧ h' = x.2 := ⟨hr, hh⟩
  suffices hS : Ev Γ m_R_rule 0 [some (vr 12 0 80), some (vi a1)] [] h r h' by rw [hr, hh] at hS; exact hS
  clear hr hh
  unfold f_R_rule at hx
  refine Ev.blk (pc' := 9) (lv' := [some (vr 12 0 80), some (vi a1)]) (st' := [vi ((wI h 80 0 (ii 0)).1 80 34)]) (h' := (wI h 80 0 (ii 0))) 0 5 (Nat.le_of_ble_eq_true rfl) tk_R_rule rfl rfl ⟨trivial, trivial, trivial, trivial, trivial, trivial⟩ ?_
  refine Ev.if_le 5 33 tk_R_rule rfl (by decide) (fun hc1 => ?_) (fun hc1 => ?_)
  · replace hx := ip hc1 hx
    refine Ev.blk (pc' := 34) (lv' := [some (vr 12 0 80), some (vi a1)]) (st' := [vi (ii (-1))]) (h' := (wI h 80 0 (ii 0))) 17 1 (Nat.le_of_ble_eq_true rfl) tk_R_rule rfl rfl ⟨trivial, trivial⟩ ?_
    obtain rfl := Option.some.inj hx
    obtain ⟨rfl, rfl⟩ := hP
    exact Ev.iret 18 tk_R_rule rfl rfl
  · replace hx := ia hc1 hx
    refine Ev.blk (pc' := 18) (lv' := [some (vr 12 0 80), some (vi a1)]) (st' := [vl (Int64.ofInt 3), vl (Int64.ofNat 0), vl a1.toInt64]) (h' := (wI h 80 0 (ii 0))) 6 4 (Nat.le_of_ble_eq_true rfl) tk_R_rule rfl rfl ⟨trivial, trivial, trivial, trivial, trivial⟩ ?_
    refine Ev.callS (ν := m_R_isIn) (av := [vl a1.toInt64, vl (Int64.ofNat 0), vl (Int64.ofInt 3)]) (rest := []) (r1 := some (vi (p_R_isIn a1.toInt64 (Int64.ofNat 0) (Int64.ofInt 3)))) (h1 := (wI h 80 0 (ii 0))) 10 3 tk_R_rule rfl bb_R_isIn vv_R_isIn lk_12_223 (by decide) rfl rfl (Nat.le_of_ble_eq_true rfl) (s_R_isIn Γ a1.toInt64 (Int64.ofNat 0) (Int64.ofInt 3) (wI h 80 0 (ii 0))) ?_
    show Ev Γ m_R_rule 21 [some (vr 12 0 80), some (vi a1)] [vi (p_R_isIn a1.toInt64 (Int64.ofNat 0) (Int64.ofInt 3))] (wI h 80 0 (ii 0)) r h'
    refine Ev.if_eq 11 33 tk_R_rule rfl (by decide) (fun hc2 => ?_) (fun hc2 => ?_)
    · replace hx := ip hc2 hx
      refine Ev.blk (pc' := 34) (lv' := [some (vr 12 0 80), some (vi a1)]) (st' := [vi (ii (-1))]) (h' := (wI h 80 0 (ii 0))) 17 1 (Nat.le_of_ble_eq_true rfl) tk_R_rule rfl rfl ⟨trivial, trivial⟩ ?_
      obtain rfl := Option.some.inj hx
      obtain ⟨rfl, rfl⟩ := hP
      exact Ev.iret 18 tk_R_rule rfl rfl
    · replace hx := ia hc2 hx
      obtain ⟨hg3, hx⟩ := gd hx
      refine Ev.blk (pc' := 34) (lv' := [some (vr 12 0 80), some (vi a1)]) (st' := [vi ((wI h 80 0 (ii 0)).1 85 (a1).toNatClampNeg)]) (h' := (wI h 80 0 (ii 0))) 12 5 (Nat.le_of_ble_eq_true rfl) tk_R_rule rfl rfl ⟨trivial, trivial, trivial, hg3, trivial, trivial⟩ ?_
      obtain rfl := Option.some.inj hx
      obtain ⟨rfl, rfl⟩ := hP
      exact Ev.iret 18 tk_R_rule rfl rfl
theorem s_R_isCell (Γ : AG) (a1 : Int32) (h : AH) : MetA Γ m_R_isCell [vr 12 0 80, vi a1] h (some (vi (p_R_isCell a1 h))) h := by
  refine Ev.met rfl rfl (Nat.le_of_ble_eq_true rfl) ?_
  generalize hx : p_R_isCell a1 h = x
  show Ev Γ m_R_isCell 0 [some (vr 12 0 80), some (vi a1)] [] h _ _
  obtain ⟨r, hr⟩ : ∃ r : Option AV, r = some (vi x) := ⟨_, rfl⟩
  obtain ⟨h', hh⟩ : ∃ h' : AH, h' = h := ⟨_, rfl⟩
  have hP : r = some (vi x) ∧ h' = h := ⟨hr, hh⟩
  suffices hS : Ev Γ m_R_isCell 0 [some (vr 12 0 80), some (vi a1)] [] h r h' by rw [hr, hh] at hS; exact hS
  clear hr hh
  unfold p_R_isCell at hx
  refine Ev.blk (pc' := 1) (lv' := [some (vr 12 0 80), some (vi a1)]) (st' := [vi a1]) (h' := h) 0 1 (Nat.le_of_ble_eq_true rfl) tk_R_isCell rfl rfl ⟨trivial, trivial⟩ ?_
  refine Ev.if_lt 1 16 tk_R_isCell rfl (by decide) (fun hc1 => ?_) (fun hc1 => ?_)
  · replace hx := ip hc1 hx
    refine Ev.blk (pc' := 17) (lv' := [some (vr 12 0 80), some (vi a1)]) (st' := [vi (ii 0)]) (h' := h) 8 1 (Nat.le_of_ble_eq_true rfl) tk_R_isCell rfl rfl ⟨trivial, trivial⟩ ?_
    subst hx
    obtain ⟨rfl, rfl⟩ := hP
    exact Ev.zret 9 tk_R_isCell rfl rfl rfl
  · replace hx := ia hc1 hx
    refine Ev.blk (pc' := 9) (lv' := [some (vr 12 0 80), some (vi a1)]) (st' := [vi (h.1 80 34), vi a1]) (h' := h) 2 3 (Nat.le_of_ble_eq_true rfl) tk_R_isCell rfl rfl ⟨trivial, trivial, trivial, trivial⟩ ?_
    refine Ev.icmp_ge 5 16 tk_R_isCell rfl (by decide) (fun hc2 => ?_) (fun hc2 => ?_)
    · replace hx := ip hc2 hx
      refine Ev.blk (pc' := 17) (lv' := [some (vr 12 0 80), some (vi a1)]) (st' := [vi (ii 0)]) (h' := h) 8 1 (Nat.le_of_ble_eq_true rfl) tk_R_isCell rfl rfl ⟨trivial, trivial⟩ ?_
      subst hx
      obtain ⟨rfl, rfl⟩ := hP
      exact Ev.zret 9 tk_R_isCell rfl rfl rfl
    · replace hx := ia hc2 hx
      refine Ev.blk (pc' := 17) (lv' := [some (vr 12 0 80), some (vi a1)]) (st' := [vi (ii 1)]) (h' := h) 6 2 (Nat.le_of_ble_eq_true rfl) tk_R_isCell rfl rfl ⟨trivial, trivial, trivial⟩ ?_
      subst hx
      obtain ⟨rfl, rfl⟩ := hP
      exact Ev.zret 9 tk_R_isCell rfl rfl rfl
set_option maxRecDepth 4000 in
theorem s_R_stepTo (Γ : AG) (a1 : Int32) (a2 : Int32) (h : AH) (x : Int32) (hx : f_R_stepTo a1 a2 h = some x) : MetA Γ m_R_stepTo [vr 12 0 80, vi a1, vi a2] h (some (vi x)) h := by
  refine Ev.met rfl rfl (Nat.le_of_ble_eq_true rfl) ?_
  show Ev Γ m_R_stepTo 0 [some (vr 12 0 80), some (vi a1), some (vi a2)] [] h _ _
  obtain ⟨r, hr⟩ : ∃ r : Option AV, r = some (vi x) := ⟨_, rfl⟩
  obtain ⟨h', hh⟩ : ∃ h' : AH, h' = h := ⟨_, rfl⟩
  have hP : r = some (vi x) ∧ h' = h := ⟨hr, hh⟩
  suffices hS : Ev Γ m_R_stepTo 0 [some (vr 12 0 80), some (vi a1), some (vi a2)] [] h r h' by rw [hr, hh] at hS; exact hS
  clear hr hh
  unfold f_R_stepTo at hx
  obtain ⟨hg1, hx⟩ := gd hx
  obtain ⟨hg2, hx⟩ := gd hx
  refine Ev.blk (pc' := 14) (lv' := [some (vr 12 0 80), some (vi a1), some (vi a2)]) (st' := [vi (h.1 85 (ii 1).toNatClampNeg), vi (h.1 85 (ii 0).toNatClampNeg), vi a2, vi a1]) (h' := h) 0 10 (Nat.le_of_ble_eq_true rfl) tk_R_stepTo rfl rfl ⟨trivial, trivial, trivial, trivial, trivial, hg1, trivial, trivial, trivial, hg2, trivial⟩ ?_
  obtain ⟨q1, hq3, hx⟩ := bd hx
  refine Ev.callS (ν := m_R_beside) (av := [vi a1, vi a2, vi (h.1 85 (ii 0).toNatClampNeg), vi (h.1 85 (ii 1).toNatClampNeg)]) (rest := []) (r1 := some (vi q1)) (h1 := h) 10 4 tk_R_stepTo rfl bb_R_beside vv_R_beside lk_12_286 (by decide) rfl rfl (Nat.le_of_ble_eq_true rfl) (s_R_beside Γ a1 a2 (h.1 85 (ii 0).toNatClampNeg) (h.1 85 (ii 1).toNatClampNeg) h _ hq3) ?_
  show Ev Γ m_R_stepTo 17 [some (vr 12 0 80), some (vi a1), some (vi a2)] [vi q1] h r h'
  obtain rfl := Option.some.inj hx
  obtain ⟨rfl, rfl⟩ := hP
  exact Ev.iret 11 tk_R_stepTo rfl rfl
set_option maxRecDepth 4000 in
theorem l_R_veinAt_L13 (Γ : AG) : ∀ (n : Nat) (v1 : Int32) (v2 : Int32) (v3 : Int32) (v4 : Int32) (h : AH) (x : Int32), R_veinAt_L13 n v1 v2 v3 v4 h = some x → ∀ (r : Option AV) (h' : AH), r = some (vi x) ∧ h' = h → Ev Γ m_R_veinAt 13 [some (vr 12 0 80), some (vi v1), some (vi v2), some (vi v3), some (vi v4)] [] h r h' := by
  intro n
  induction n with
  | zero => intro v1 v2 v3 v4 h x hx; cases hx
  | succ n ih =>
    intro v1 v2 v3 v4 h x hx r h' hP
    replace hx : R_veinAt_L13_b (R_veinAt_L13 n) v1 v2 v3 v4 h = some x := hx
    unfold R_veinAt_L13_b at hx
    obtain ⟨hg1, hx⟩ := gd hx
    refine Ev.blk (pc' := 26) (lv' := [some (vr 12 0 80), some (vi v1), some (vi v2), some (vi v3), some (vi v4)]) (st' := [vi (h.1 87 (((ii 13) * v1) + (ii 3)).toNatClampNeg), vi v4]) (h' := h) 9 9 (Nat.le_of_ble_eq_true rfl) tk_R_veinAt rfl rfl ⟨trivial, trivial, trivial, trivial, trivial, trivial, trivial, trivial, hg1, trivial⟩ ?_
    refine Ev.icmp_gt 18 103 tk_R_veinAt rfl (by decide) (fun hc2 => ?_) (fun hc2 => ?_)
    · replace hx := ip hc2 hx
      refine Ev.blk (pc' := 104) (lv' := [some (vr 12 0 80), some (vi v1), some (vi v2), some (vi v3), some (vi v4)]) (st' := [vi (ii (-1))]) (h' := h) 68 1 (Nat.le_of_ble_eq_true rfl) tk_R_veinAt rfl rfl ⟨trivial, trivial⟩ ?_
      obtain rfl := Option.some.inj hx
      obtain ⟨rfl, rfl⟩ := hP
      exact Ev.iret 69 tk_R_veinAt rfl rfl
    · replace hx := ia hc2 hx
      refine Ev.blk (pc' := 31) (lv' := [some (vr 12 0 80), some (vi v1), some (vi v2), some (vi v3), some (vi v4)]) (st' := [vi v2, vi v3]) (h' := h) 19 2 (Nat.le_of_ble_eq_true rfl) tk_R_veinAt rfl rfl ⟨trivial, trivial, trivial⟩ ?_
      refine Ev.icmp_ne 21 61 tk_R_veinAt rfl (by decide) (fun hc3 => ?_) (fun hc3 => ?_)
      · replace hx := ia hc3 hx
        obtain ⟨hg4, hx⟩ := gd hx
        refine Ev.blk (pc' := 74) (lv' := [some (vr 12 0 80), some (vi v1), some (vi v2), some (vi v3), some (vi v4)]) (st' := [vi (h.1 87 (((ii 13) * v1) + (ii 3)).toNatClampNeg), vi v4]) (h' := h) 42 9 (Nat.le_of_ble_eq_true rfl) tk_R_veinAt rfl rfl ⟨trivial, trivial, trivial, trivial, trivial, trivial, trivial, trivial, hg4, trivial⟩ ?_
        obtain ⟨q2, hq5, hx⟩ := bd hx
        have K6 : Ev Γ m_R_veinAt 97 [some (vr 12 0 80), some (vi v1), some (vi v2), some (vi q2), some (vi v4)] [] h r h' := by
          refine Ev.blk (pc' := 13) (lv' := [some (vr 12 0 80), some (vi v1), some (vi v2), some (vi q2), some (vi (v4 + ii 1))]) (st' := []) (h' := h) 66 2 (Nat.le_of_ble_eq_true rfl) tk_R_veinAt rfl rfl ⟨trivial, trivial, trivial⟩ ?_
          exact Ev.msk [true, true, true, true, true] (ih v1 v2 q2 (v4 + ii 1) h _ hx r h' hP)
        clear hx
        refine Ev.icmp_ge 51 97 tk_R_veinAt rfl (by decide) (fun hc7 => ?_) (fun hc7 => ?_)
        · replace hq5 := ip hc7 hq5
          obtain rfl := Option.some.inj hq5
          exact Ev.msk [true, true, true, true, true] K6
        · replace hq5 := ia hc7 hq5
          obtain ⟨hg8, hq5⟩ := gd hq5
          refine Ev.blk (pc' := 93) (lv' := [some (vr 12 0 80), some (vi v1), some (vi v2), some (vi v3), some (vi v4)]) (st' := [vi (h.1 87 ((((ii 13) * v1) + (ii 4)) + v4).toNatClampNeg), vi v3, vr 12 0 80]) (h' := h) 52 12 (Nat.le_of_ble_eq_true rfl) tk_R_veinAt rfl rfl ⟨trivial, trivial, trivial, trivial, trivial, trivial, trivial, trivial, trivial, trivial, trivial, hg8, trivial⟩ ?_
          obtain ⟨q1, hq9, hq5⟩ := bd hq5
          refine Ev.callV (ν := m_R_stepTo) (av := [vi v3, vi (h.1 87 ((((ii 13) * v1) + (ii 4)) + v4).toNatClampNeg)]) (rest := []) (r1 := some (vi q1)) (h1 := h) (ci := 12) (nn := 0) (o := 80) 64 2 tk_R_veinAt rfl bb_R_stepTo vv_R_stepTo lk_12_350 (by decide) rfl rfl (Or.inl rfl) (Nat.le_of_ble_eq_true rfl) (s_R_stepTo Γ v3 (h.1 87 ((((ii 13) * v1) + (ii 4)) + v4).toNatClampNeg) h _ hq9) ?_
          show Ev Γ m_R_veinAt 96 [some (vr 12 0 80), some (vi v1), some (vi v2), some (vi v3), some (vi v4)] [vi q1] h r h'
          refine Ev.blk (pc' := 97) (lv' := [some (vr 12 0 80), some (vi v1), some (vi v2), some (vi q1), some (vi v4)]) (st' := []) (h' := h) 65 1 (Nat.le_of_ble_eq_true rfl) tk_R_veinAt rfl rfl ⟨trivial, trivial⟩ ?_
          obtain rfl := Option.some.inj hq5
          exact Ev.msk [true, true, true, true, true] K6
      · replace hx := ip hc3 hx
        obtain ⟨hg10, hx⟩ := gd hx
        obtain ⟨hg11, hx⟩ := gd hx
        refine Ev.blk (pc' := 60) (lv' := [some (vr 12 0 80), some (vi v1), some (vi v2), some (vi v3), some (vi v4)]) (st' := [vi ((h.1 87 (((ii 13) * v1) + (ii 1)).toNatClampNeg) + (v4 * (h.1 87 (((ii 13) * v1) + (ii 2)).toNatClampNeg)))]) (h' := h) 22 19 (Nat.le_of_ble_eq_true rfl) tk_R_veinAt rfl rfl ⟨trivial, trivial, trivial, trivial, trivial, trivial, trivial, hg10, trivial, trivial, trivial, trivial, trivial, trivial, trivial, trivial, hg11, trivial, trivial, trivial⟩ ?_
        obtain rfl := Option.some.inj hx
        obtain ⟨rfl, rfl⟩ := hP
        exact Ev.iret 41 tk_R_veinAt rfl rfl
set_option maxRecDepth 4000 in
theorem s_R_veinAt (Γ : AG) (a1 : Int32) (a2 : Int32) (h : AH) (x : Int32) (hx : f_R_veinAt a1 a2 h = some x) : MetA Γ m_R_veinAt [vr 12 0 80, vi a1, vi a2] h (some (vi x)) h := by
  refine Ev.met rfl rfl (Nat.le_of_ble_eq_true rfl) ?_
  show Ev Γ m_R_veinAt 0 [some (vr 12 0 80), some (vi a1), some (vi a2), none, none] [] h _ _
  obtain ⟨r, hr⟩ : ∃ r : Option AV, r = some (vi x) := ⟨_, rfl⟩
  obtain ⟨h', hh⟩ : ∃ h' : AH, h' = h := ⟨_, rfl⟩
  have hP : r = some (vi x) ∧ h' = h := ⟨hr, hh⟩
  suffices hS : Ev Γ m_R_veinAt 0 [some (vr 12 0 80), some (vi a1), some (vi a2), none, none] [] h r h' by rw [hr, hh] at hS; exact hS
  clear hr hh
  unfold f_R_veinAt at hx
  obtain ⟨hg1, hx⟩ := gd hx
  refine Ev.blk (pc' := 13) (lv' := [some (vr 12 0 80), some (vi a1), some (vi a2), some (vi (h.1 87 ((ii 13) * a1).toNatClampNeg)), some (vi (ii 0))]) (st' := []) (h' := h) 0 9 (Nat.le_of_ble_eq_true rfl) tk_R_veinAt rfl rfl ⟨trivial, trivial, trivial, trivial, trivial, hg1, trivial, trivial, trivial, trivial⟩ ?_
  refine Ev.msk [true, true, true, true, true] ?_
  show Ev Γ m_R_veinAt 13 [some (vr 12 0 80), some (vi a1), some (vi a2), some (vi (h.1 87 ((ii 13) * a1).toNatClampNeg)), some (vi (ii 0))] [] h r h'
  exact l_R_veinAt_L13 Γ FU a1 a2 (h.1 87 ((ii 13) * a1).toNatClampNeg) (ii 0) h _ hx r h' hP
set_option maxRecDepth 4000 in
theorem l_R_depthOf_L5 (Γ : AG) : ∀ (n : Nat) (v1 : Int32) (v2 : Int32) (v3 : Int32) (v4 : Int32) (h : AH) (x : Int32), R_depthOf_L5 n v1 v2 v3 v4 h = some x → ∀ (r : Option AV) (h' : AH), r = some (vi x) ∧ h' = h → Ev Γ m_R_depthOf 5 [some (vr 12 0 80), some (vi v1), some (vi v2), some (vi v3), some (vi v4), none] [] h r h' := by
  intro n
  induction n with
  | zero => intro v1 v2 v3 v4 h x hx; cases hx
  | succ n ih =>
    intro v1 v2 v3 v4 h x hx r h' hP
    replace hx : R_depthOf_L5_b (R_depthOf_L5 n) v1 v2 v3 v4 h = some x := hx
    unfold R_depthOf_L5_b at hx
    refine Ev.blk (pc' := 11) (lv' := [some (vr 12 0 80), some (vi v1), some (vi v2), some (vi v3), some (vi v4), none]) (st' := [vi (h.1 80 30), vi v4]) (h' := h) 4 3 (Nat.le_of_ble_eq_true rfl) tk_R_depthOf rfl rfl ⟨trivial, trivial, trivial, trivial⟩ ?_
    refine Ev.icmp_ge 7 49 tk_R_depthOf rfl (by decide) (fun hc1 => ?_) (fun hc1 => ?_)
    · replace hx := ip hc1 hx
      refine Ev.blk (pc' := 51) (lv' := [some (vr 12 0 80), some (vi v1), some (vi v2), some (vi v3), some (vi v4), none]) (st' := [vi (ii (-1)), vi v3]) (h' := h) 26 2 (Nat.le_of_ble_eq_true rfl) tk_R_depthOf rfl rfl ⟨trivial, trivial, trivial⟩ ?_
      refine Ev.icmp_ne 28 56 tk_R_depthOf rfl (by decide) (fun hc2 => ?_) (fun hc2 => ?_)
      · replace hx := ia hc2 hx
        refine Ev.blk (pc' := 60) (lv' := [some (vr 12 0 80), some (vi v1), some (vi v2), some (vi v3), some (vi v4), none]) (st' := [vi v2, vi v3, vi (ii 99)]) (h' := h) 31 3 (Nat.le_of_ble_eq_true rfl) tk_R_depthOf rfl rfl ⟨trivial, trivial, trivial, trivial⟩ ?_
        refine Ev.if_ne 34 67 tk_R_depthOf rfl (by decide) (fun hc3 => ?_) (fun hc3 => ?_)
        · replace hx := ia hc3 hx
          refine Ev.blk (pc' := 69) (lv' := [some (vr 12 0 80), some (vi v1), some (vi v2), some (vi v3), some (vi v4), none]) (st' := [vi (ii 2), vi v2, vi v3, vi (ii 99)]) (h' := h) 37 2 (Nat.le_of_ble_eq_true rfl) tk_R_depthOf rfl rfl ⟨trivial, trivial, trivial⟩ ?_
          refine Ev.icmp_ne 39 83 tk_R_depthOf rfl (by decide) (fun hc4 => ?_) (fun hc4 => ?_)
          · replace hx := ia hc4 hx
            obtain ⟨hg5, hx⟩ := gd hx
            refine Ev.blk (pc' := 90) (lv' := [some (vr 12 0 80), some (vi v1), some (vi v2), some (vi v3), some (vi v4), none]) (st' := [vi (v3 + (h.1 85 (ii 2).toNatClampNeg)), vi (ii 99)]) (h' := h) 47 5 (Nat.le_of_ble_eq_true rfl) tk_R_depthOf rfl rfl ⟨trivial, trivial, trivial, hg5, trivial, trivial⟩ ?_
            refine Ev.mmin (rest := []) 52 tk_R_depthOf rfl lk_12_356 (by decide) (Nat.le_of_ble_eq_true rfl) ?_
            show Ev Γ m_R_depthOf 93 [some (vr 12 0 80), some (vi v1), some (vi v2), some (vi v3), some (vi v4), none] [vi (p_Math_min (ii 99) (v3 + (h.1 85 (ii 2).toNatClampNeg)))] h r h'
            obtain rfl := Option.some.inj hx
            obtain ⟨rfl, rfl⟩ := hP
            exact Ev.iret 53 tk_R_depthOf rfl rfl
          · replace hx := ip hc4 hx
            obtain ⟨hg6, hx⟩ := gd hx
            refine Ev.blk (pc' := 89) (lv' := [some (vr 12 0 80), some (vi v1), some (vi v2), some (vi v3), some (vi v4), none]) (st' := [vi ((ii 2) * (h.1 85 (ii 2).toNatClampNeg)), vi v3, vi (ii 99)]) (h' := h) 40 7 (Nat.le_of_ble_eq_true rfl) tk_R_depthOf rfl rfl ⟨trivial, trivial, trivial, trivial, hg6, trivial, trivial, trivial⟩ ?_
            refine Ev.blk (pc' := 90) (lv' := [some (vr 12 0 80), some (vi v1), some (vi v2), some (vi v3), some (vi v4), none]) (st' := [vi (v3 + ((ii 2) * (h.1 85 (ii 2).toNatClampNeg))), vi (ii 99)]) (h' := h) 51 1 (Nat.le_of_ble_eq_true rfl) tk_R_depthOf rfl rfl ⟨trivial, trivial⟩ ?_
            refine Ev.mmin (rest := []) 52 tk_R_depthOf rfl lk_12_356 (by decide) (Nat.le_of_ble_eq_true rfl) ?_
            show Ev Γ m_R_depthOf 93 [some (vr 12 0 80), some (vi v1), some (vi v2), some (vi v3), some (vi v4), none] [vi (p_Math_min (ii 99) (v3 + ((ii 2) * (h.1 85 (ii 2).toNatClampNeg))))] h r h'
            obtain rfl := Option.some.inj hx
            obtain ⟨rfl, rfl⟩ := hP
            exact Ev.iret 53 tk_R_depthOf rfl rfl
        · replace hx := ip hc3 hx
          refine Ev.blk (pc' := 89) (lv' := [some (vr 12 0 80), some (vi v1), some (vi v2), some (vi v3), some (vi v4), none]) (st' := [vi (ii 0), vi v3, vi (ii 99)]) (h' := h) 35 2 (Nat.le_of_ble_eq_true rfl) tk_R_depthOf rfl rfl ⟨trivial, trivial, trivial⟩ ?_
          refine Ev.blk (pc' := 90) (lv' := [some (vr 12 0 80), some (vi v1), some (vi v2), some (vi v3), some (vi v4), none]) (st' := [vi (v3 + (ii 0)), vi (ii 99)]) (h' := h) 51 1 (Nat.le_of_ble_eq_true rfl) tk_R_depthOf rfl rfl ⟨trivial, trivial⟩ ?_
          refine Ev.mmin (rest := []) 52 tk_R_depthOf rfl lk_12_356 (by decide) (Nat.le_of_ble_eq_true rfl) ?_
          show Ev Γ m_R_depthOf 93 [some (vr 12 0 80), some (vi v1), some (vi v2), some (vi v3), some (vi v4), none] [vi (p_Math_min (ii 99) (v3 + (ii 0)))] h r h'
          obtain rfl := Option.some.inj hx
          obtain ⟨rfl, rfl⟩ := hP
          exact Ev.iret 53 tk_R_depthOf rfl rfl
      · replace hx := ip hc2 hx
        refine Ev.blk (pc' := 55) (lv' := [some (vr 12 0 80), some (vi v1), some (vi v2), some (vi v3), some (vi v4), none]) (st' := [vi (ii (-1))]) (h' := h) 29 1 (Nat.le_of_ble_eq_true rfl) tk_R_depthOf rfl rfl ⟨trivial, trivial⟩ ?_
        obtain rfl := Option.some.inj hx
        obtain ⟨rfl, rfl⟩ := hP
        exact Ev.iret 30 tk_R_depthOf rfl rfl
    · replace hx := ia hc1 hx
      refine Ev.blk (pc' := 18) (lv' := [some (vr 12 0 80), some (vi v1), some (vi v2), some (vi v3), some (vi v4), none]) (st' := [vi v1, vi v4, vr 12 0 80]) (h' := h) 8 3 (Nat.le_of_ble_eq_true rfl) tk_R_depthOf rfl rfl ⟨trivial, trivial, trivial, trivial⟩ ?_
      obtain ⟨q1, hq7, hx⟩ := bd hx
      refine Ev.callV (ν := m_R_veinAt) (av := [vi v4, vi v1]) (rest := []) (r1 := some (vi q1)) (h1 := h) (ci := 12) (nn := 0) (o := 80) 11 2 tk_R_depthOf rfl bb_R_veinAt vv_R_veinAt lk_12_353 (by decide) rfl rfl (Or.inl rfl) (Nat.le_of_ble_eq_true rfl) (s_R_veinAt Γ v4 v1 h _ hq7) ?_
      show Ev Γ m_R_depthOf 21 [some (vr 12 0 80), some (vi v1), some (vi v2), some (vi v3), some (vi v4), none] [vi q1] h r h'
      refine Ev.blk (pc' := 26) (lv' := [some (vr 12 0 80), some (vi v1), some (vi v2), some (vi v3), some (vi v4), some (vi q1)]) (st' := [vi (ii (-1)), vi q1]) (h' := h) 12 3 (Nat.le_of_ble_eq_true rfl) tk_R_depthOf rfl rfl ⟨trivial, trivial, trivial, trivial⟩ ?_
      have K8 : ∀ v8_0 : Int32, v8_0 = (if q1 = (ii (-1)) then v3 else (if v3 = (ii (-1)) then q1 else (if v3 ≤ q1 then v3 else q1))) → Ev Γ m_R_depthOf 43 [some (vr 12 0 80), some (vi v1), some (vi v2), some (vi v8_0), some (vi v4), none] [] h r h' := by
        intro v8_0 e9
        subst e9
        refine Ev.blk (pc' := 5) (lv' := [some (vr 12 0 80), some (vi v1), some (vi v2), some (vi (if q1 = (ii (-1)) then v3 else (if v3 = (ii (-1)) then q1 else (if v3 ≤ q1 then v3 else q1)))), some (vi (v4 + ii 1)), none]) (st' := []) (h' := h) 24 2 (Nat.le_of_ble_eq_true rfl) tk_R_depthOf rfl rfl ⟨trivial, trivial, trivial⟩ ?_
        exact Ev.msk [true, true, true, true, true, false] (ih v1 v2 (if q1 = (ii (-1)) then v3 else (if v3 = (ii (-1)) then q1 else (if v3 ≤ q1 then v3 else q1))) (v4 + ii 1) h _ hx r h' hP)
      refine Ev.icmp_eq 15 43 tk_R_depthOf rfl (by decide) (fun hc10 => ?_) (fun hc10 => ?_)
      · exact Ev.msk [true, true, true, true, true, false] (K8 _ (by first | rfl | simp only [if_pos hc10]))
      · refine Ev.blk (pc' := 31) (lv' := [some (vr 12 0 80), some (vi v1), some (vi v2), some (vi v3), some (vi v4), some (vi q1)]) (st' := [vi (ii (-1)), vi v3]) (h' := h) 16 2 (Nat.le_of_ble_eq_true rfl) tk_R_depthOf rfl rfl ⟨trivial, trivial, trivial⟩ ?_
        refine Ev.icmp_eq 18 40 tk_R_depthOf rfl (by decide) (fun hc11 => ?_) (fun hc11 => ?_)
        · refine Ev.blk (pc' := 43) (lv' := [some (vr 12 0 80), some (vi v1), some (vi v2), some (vi q1), some (vi v4), some (vi q1)]) (st' := []) (h' := h) 22 2 (Nat.le_of_ble_eq_true rfl) tk_R_depthOf rfl rfl ⟨trivial, trivial, trivial⟩ ?_
          exact Ev.msk [true, true, true, true, true, false] (K8 _ (by first | rfl | simp only [if_neg hc10, if_pos hc11]))
        · refine Ev.blk (pc' := 37) (lv' := [some (vr 12 0 80), some (vi v1), some (vi v2), some (vi v3), some (vi v4), some (vi q1)]) (st' := [vi v3, vi q1]) (h' := h) 19 2 (Nat.le_of_ble_eq_true rfl) tk_R_depthOf rfl rfl ⟨trivial, trivial, trivial⟩ ?_
          refine Ev.icmp_ge 21 43 tk_R_depthOf rfl (by decide) (fun hc12 => ?_) (fun hc12 => ?_)
          · exact Ev.msk [true, true, true, true, true, false] (K8 _ (by first | rfl | simp only [if_neg hc10, if_neg hc11, if_pos hc12]))
          · refine Ev.blk (pc' := 43) (lv' := [some (vr 12 0 80), some (vi v1), some (vi v2), some (vi q1), some (vi v4), some (vi q1)]) (st' := []) (h' := h) 22 2 (Nat.le_of_ble_eq_true rfl) tk_R_depthOf rfl rfl ⟨trivial, trivial, trivial⟩ ?_
            exact Ev.msk [true, true, true, true, true, false] (K8 _ (by first | rfl | simp only [if_neg hc10, if_neg hc11, if_neg hc12]))
set_option maxRecDepth 4000 in
theorem s_R_depthOf (Γ : AG) (a1 : Int32) (a2 : Int32) (h : AH) (x : Int32) (hx : f_R_depthOf a1 a2 h = some x) : MetA Γ m_R_depthOf [vr 12 0 80, vi a1, vi a2] h (some (vi x)) h := by
  refine Ev.met rfl rfl (Nat.le_of_ble_eq_true rfl) ?_
  show Ev Γ m_R_depthOf 0 [some (vr 12 0 80), some (vi a1), some (vi a2), none, none, none] [] h _ _
  obtain ⟨r, hr⟩ : ∃ r : Option AV, r = some (vi x) := ⟨_, rfl⟩
  obtain ⟨h', hh⟩ : ∃ h' : AH, h' = h := ⟨_, rfl⟩
  have hP : r = some (vi x) ∧ h' = h := ⟨hr, hh⟩
  suffices hS : Ev Γ m_R_depthOf 0 [some (vr 12 0 80), some (vi a1), some (vi a2), none, none, none] [] h r h' by rw [hr, hh] at hS; exact hS
  clear hr hh
  unfold f_R_depthOf at hx
  refine Ev.blk (pc' := 5) (lv' := [some (vr 12 0 80), some (vi a1), some (vi a2), some (vi (ii (-1))), some (vi (ii 0)), none]) (st' := []) (h' := h) 0 4 (Nat.le_of_ble_eq_true rfl) tk_R_depthOf rfl rfl ⟨trivial, trivial, trivial, trivial, trivial⟩ ?_
  refine Ev.msk [true, true, true, true, true, false] ?_
  show Ev Γ m_R_depthOf 5 [some (vr 12 0 80), some (vi a1), some (vi a2), some (vi (ii (-1))), some (vi (ii 0)), none] [] h r h'
  exact l_R_depthOf_L5 Γ FU a1 a2 (ii (-1)) (ii 0) h _ hx r h' hP
set_option maxRecDepth 4000 in
theorem l_R_numberAt_L3 (Γ : AG) : ∀ (n : Nat) (n0 : Nat) (o0 : Nat) (v1 : Int32) (v2 : Int32) (v3 : Int32) (v4 : Int32) (h : AH) (x : Int32), R_numberAt_L3 n n0 o0 v1 v2 v3 v4 h = some x → ∀ (r : Option AV) (h' : AH), r = some (vi x) ∧ h' = h → Ev Γ m_R_numberAt 3 [some (vr 20 n0 o0), some (vi v1), some (vi v2), some (vi v3), some (vi v4)] [] h r h' := by
  intro n
  induction n with
  | zero => intro n0 o0 v1 v2 v3 v4 h x hx; cases hx
  | succ n ih =>
    intro n0 o0 v1 v2 v3 v4 h x hx r h' hP
    replace hx : R_numberAt_L3_b (R_numberAt_L3 n) n0 o0 v1 v2 v3 v4 h = some x := hx
    unfold R_numberAt_L3_b at hx
    refine Ev.blk (pc' := 6) (lv' := [some (vr 20 n0 o0), some (vi v1), some (vi v2), some (vi v3), some (vi v4)]) (st' := [vi v1, vi v4]) (h' := h) 2 2 (Nat.le_of_ble_eq_true rfl) tk_R_numberAt rfl rfl ⟨trivial, trivial, trivial⟩ ?_
    refine Ev.icmp_ge 4 34 tk_R_numberAt rfl (by decide) (fun hc1 => ?_) (fun hc1 => ?_)
    · replace hx := ip hc1 hx
      refine Ev.blk (pc' := 35) (lv' := [some (vr 20 n0 o0), some (vi v1), some (vi v2), some (vi v3), some (vi v4)]) (st' := [vi v3]) (h' := h) 22 1 (Nat.le_of_ble_eq_true rfl) tk_R_numberAt rfl rfl ⟨trivial, trivial⟩ ?_
      obtain rfl := Option.some.inj hx
      obtain ⟨rfl, rfl⟩ := hP
      exact Ev.iret 23 tk_R_numberAt rfl rfl
    · replace hx := ia hc1 hx
      obtain ⟨hg2, hx⟩ := gd hx
      refine Ev.blk (pc' := 16) (lv' := [some (vr 20 n0 o0), some (vi v1), some (vi v2), some (vi v3), some (vi v4)]) (st' := [vi v2, vi (h.1 o0 ((ii 2) * v4).toNatClampNeg)]) (h' := h) 5 6 (Nat.le_of_ble_eq_true rfl) tk_R_numberAt rfl rfl ⟨trivial, trivial, trivial, trivial, hg2, trivial, trivial⟩ ?_
      refine Ev.icmp_ne 11 28 tk_R_numberAt rfl (by decide) (fun hc3 => ?_) (fun hc3 => ?_)
      · replace hx := ia hc3 hx
        refine Ev.blk (pc' := 3) (lv' := [some (vr 20 n0 o0), some (vi v1), some (vi v2), some (vi v3), some (vi (v4 + ii 1))]) (st' := []) (h' := h) 20 2 (Nat.le_of_ble_eq_true rfl) tk_R_numberAt rfl rfl ⟨trivial, trivial, trivial⟩ ?_
        exact Ev.msk [true, true, true, true, true] (ih n0 o0 v1 v2 v3 (v4 + ii 1) h _ hx r h' hP)
      · replace hx := ip hc3 hx
        obtain ⟨hg4, hx⟩ := gd hx
        refine Ev.blk (pc' := 27) (lv' := [some (vr 20 n0 o0), some (vi v1), some (vi v2), some (vi v3), some (vi v4)]) (st' := [vi (h.1 o0 (((ii 2) * v4) + (ii 1)).toNatClampNeg)]) (h' := h) 12 7 (Nat.le_of_ble_eq_true rfl) tk_R_numberAt rfl rfl ⟨trivial, trivial, trivial, trivial, trivial, trivial, hg4, trivial⟩ ?_
        obtain rfl := Option.some.inj hx
        obtain ⟨rfl, rfl⟩ := hP
        exact Ev.iret 19 tk_R_numberAt rfl rfl
set_option maxRecDepth 4000 in
theorem s_R_numberAt (Γ : AG) (n0 : Nat) (o0 : Nat) (a1 : Int32) (a2 : Int32) (a3 : Int32) (h : AH) (x : Int32) (hx : f_R_numberAt n0 o0 a1 a2 a3 h = some x) : MetA Γ m_R_numberAt [vr 20 n0 o0, vi a1, vi a2, vi a3] h (some (vi x)) h := by
  refine Ev.met rfl rfl (Nat.le_of_ble_eq_true rfl) ?_
  show Ev Γ m_R_numberAt 0 [some (vr 20 n0 o0), some (vi a1), some (vi a2), some (vi a3), none] [] h _ _
  obtain ⟨r, hr⟩ : ∃ r : Option AV, r = some (vi x) := ⟨_, rfl⟩
  obtain ⟨h', hh⟩ : ∃ h' : AH, h' = h := ⟨_, rfl⟩
  have hP : r = some (vi x) ∧ h' = h := ⟨hr, hh⟩
  suffices hS : Ev Γ m_R_numberAt 0 [some (vr 20 n0 o0), some (vi a1), some (vi a2), some (vi a3), none] [] h r h' by rw [hr, hh] at hS; exact hS
  clear hr hh
  unfold f_R_numberAt at hx
  refine Ev.blk (pc' := 3) (lv' := [some (vr 20 n0 o0), some (vi a1), some (vi a2), some (vi a3), some (vi (ii 0))]) (st' := []) (h' := h) 0 2 (Nat.le_of_ble_eq_true rfl) tk_R_numberAt rfl rfl ⟨trivial, trivial, trivial⟩ ?_
  refine Ev.msk [true, true, true, true, true] ?_
  show Ev Γ m_R_numberAt 3 [some (vr 20 n0 o0), some (vi a1), some (vi a2), some (vi a3), some (vi (ii 0))] [] h r h'
  exact l_R_numberAt_L3 Γ FU n0 o0 a1 a2 a3 (ii 0) h _ hx r h' hP
set_option maxRecDepth 4000 in
theorem s_R_ironAt (Γ : AG) (a1 : Int32) (h : AH) (x : Int32) (hx : f_R_ironAt a1 h = some x) : MetA Γ m_R_ironAt [vr 12 0 80, vi a1] h (some (vi x)) h := by
  refine Ev.met rfl rfl (Nat.le_of_ble_eq_true rfl) ?_
  show Ev Γ m_R_ironAt 0 [some (vr 12 0 80), some (vi a1)] [] h _ _
  obtain ⟨r, hr⟩ : ∃ r : Option AV, r = some (vi x) := ⟨_, rfl⟩
  obtain ⟨h', hh⟩ : ∃ h' : AH, h' = h := ⟨_, rfl⟩
  have hP : r = some (vi x) ∧ h' = h := ⟨hr, hh⟩
  suffices hS : Ev Γ m_R_ironAt 0 [some (vr 12 0 80), some (vi a1)] [] h r h' by rw [hr, hh] at hS; exact hS
  clear hr hh
  unfold f_R_ironAt at hx
  refine Ev.blk (pc' := 10) (lv' := [some (vr 12 0 80), some (vi a1)]) (st' := [vi (ii (-1)), vi a1, vi (h.1 80 31), vr 20 12 89]) (h' := h) 0 6 (Nat.le_of_ble_eq_true rfl) tk_R_ironAt rfl rfl ⟨trivial, trivial, trivial, trivial, trivial, trivial, trivial⟩ ?_
  obtain ⟨q1, hq1, hx⟩ := bd hx
  refine Ev.callS (ν := m_R_numberAt) (av := [vr 20 12 89, vi (h.1 80 31), vi a1, vi (ii (-1))]) (rest := []) (r1 := some (vi q1)) (h1 := h) 6 4 tk_R_ironAt rfl bb_R_numberAt vv_R_numberAt lk_12_358 (by decide) rfl rfl (Nat.le_of_ble_eq_true rfl) (s_R_numberAt Γ 12 89 (h.1 80 31) a1 (ii (-1)) h _ hq1) ?_
  show Ev Γ m_R_ironAt 13 [some (vr 12 0 80), some (vi a1)] [vi q1] h r h'
  obtain rfl := Option.some.inj hx
  obtain ⟨rfl, rfl⟩ := hP
  exact Ev.iret 7 tk_R_ironAt rfl rfl
set_option maxRecDepth 4000 in
theorem s_R_cell (Γ : AG) (a1 : Int32) (a2 : Int32) (h : AH) (x : Int32 × AH) (hx : f_R_cell a1 a2 h = some x) : MetA Γ m_R_cell [vr 12 0 80, vi a1, vi a2] h (some (vi x.1)) x.2 := by
  refine Ev.met rfl rfl (Nat.le_of_ble_eq_true rfl) ?_
  show Ev Γ m_R_cell 0 [some (vr 12 0 80), some (vi a1), some (vi a2)] [] h _ _
  obtain ⟨r, hr⟩ : ∃ r : Option AV, r = some (vi x.1) := ⟨_, rfl⟩
  obtain ⟨h', hh⟩ : ∃ h' : AH, h' = x.2 := ⟨_, rfl⟩
  have hP : r = some (vi x.1) ∧ h' = x.2 := ⟨hr, hh⟩
  suffices hS : Ev Γ m_R_cell 0 [some (vr 12 0 80), some (vi a1), some (vi a2)] [] h r h' by rw [hr, hh] at hS; exact hS
  clear hr hh
  unfold f_R_cell at hx
  refine Ev.blk (pc' := 7) (lv' := [some (vr 12 0 80), some (vi a1), some (vi a2)]) (st' := [vi a1, vr 12 0 80]) (h' := (wI h 80 0 (ii 0))) 0 5 (Nat.le_of_ble_eq_true rfl) tk_R_cell rfl rfl ⟨trivial, trivial, trivial, trivial, trivial, trivial⟩ ?_
  refine Ev.callV (ν := m_R_isCell) (av := [vi a1]) (rest := []) (r1 := some (vi (p_R_isCell a1 (wI h 80 0 (ii 0))))) (h1 := (wI h 80 0 (ii 0))) (ci := 12) (nn := 0) (o := 80) 5 1 tk_R_cell rfl bb_R_isCell vv_R_isCell lk_12_372 (by decide) rfl rfl (Or.inl rfl) (Nat.le_of_ble_eq_true rfl) (s_R_isCell Γ a1 (wI h 80 0 (ii 0))) ?_
  show Ev Γ m_R_cell 10 [some (vr 12 0 80), some (vi a1), some (vi a2)] [vi (p_R_isCell a1 (wI h 80 0 (ii 0)))] (wI h 80 0 (ii 0)) r h'
  refine Ev.if_eq 6 25 tk_R_cell rfl (by decide) (fun hc1 => ?_) (fun hc1 => ?_)
  · replace hx := ip hc1 hx
    refine Ev.blk (pc' := 26) (lv' := [some (vr 12 0 80), some (vi a1), some (vi a2)]) (st' := [vi (ii (-1))]) (h' := (wI h 80 0 (ii 0))) 13 1 (Nat.le_of_ble_eq_true rfl) tk_R_cell rfl rfl ⟨trivial, trivial⟩ ?_
    obtain rfl := Option.some.inj hx
    obtain ⟨rfl, rfl⟩ := hP
    exact Ev.iret 14 tk_R_cell rfl rfl
  · replace hx := ia hc1 hx
    refine Ev.blk (pc' := 19) (lv' := [some (vr 12 0 80), some (vi a1), some (vi a2)]) (st' := [vl (Int64.ofInt 4), vl (Int64.ofNat 0), vl a2.toInt64]) (h' := (wI h 80 0 (ii 0))) 7 4 (Nat.le_of_ble_eq_true rfl) tk_R_cell rfl rfl ⟨trivial, trivial, trivial, trivial, trivial⟩ ?_
    refine Ev.callS (ν := m_R_isIn) (av := [vl a2.toInt64, vl (Int64.ofNat 0), vl (Int64.ofInt 4)]) (rest := []) (r1 := some (vi (p_R_isIn a2.toInt64 (Int64.ofNat 0) (Int64.ofInt 4)))) (h1 := (wI h 80 0 (ii 0))) 11 3 tk_R_cell rfl bb_R_isIn vv_R_isIn lk_12_223 (by decide) rfl rfl (Nat.le_of_ble_eq_true rfl) (s_R_isIn Γ a2.toInt64 (Int64.ofNat 0) (Int64.ofInt 4) (wI h 80 0 (ii 0))) ?_
    show Ev Γ m_R_cell 22 [some (vr 12 0 80), some (vi a1), some (vi a2)] [vi (p_R_isIn a2.toInt64 (Int64.ofNat 0) (Int64.ofInt 4))] (wI h 80 0 (ii 0)) r h'
    refine Ev.if_ne 12 27 tk_R_cell rfl (by decide) (fun hc2 => ?_) (fun hc2 => ?_)
    · replace hx := ia hc2 hx
      refine Ev.blk (pc' := 28) (lv' := [some (vr 12 0 80), some (vi a1), some (vi a2)]) (st' := [vi a2]) (h' := (wI h 80 0 (ii 0))) 15 1 (Nat.le_of_ble_eq_true rfl) tk_R_cell rfl rfl ⟨trivial, trivial⟩ ?_
      by_cases hc3 : a2 = ii 0
      · replace hx := ip hc3 hx
        refine Ev.tabIn (off := 32) 16 60 0 tk_R_cell rfl hc3 (by decide) (by decide) ?_
        obtain ⟨hg4, hx⟩ := gd hx
        refine Ev.blk (pc' := 69) (lv' := [some (vr 12 0 80), some (vi a1), some (vi a2)]) (st' := [vi ((wI h 80 0 (ii 0)).1 97 (ii 45).toNatClampNeg), vi a1, vr 12 0 80]) (h' := (wI h 80 0 (ii 0))) 17 6 (Nat.le_of_ble_eq_true rfl) tk_R_cell rfl rfl ⟨trivial, trivial, trivial, trivial, trivial, hg4, trivial⟩ ?_
        obtain ⟨q1, hq5, hx⟩ := bd hx
        refine Ev.callV (ν := m_R_depthOf) (av := [vi a1, vi ((wI h 80 0 (ii 0)).1 97 (ii 45).toNatClampNeg)]) (rest := []) (r1 := some (vi q1)) (h1 := (wI h 80 0 (ii 0))) (ci := 12) (nn := 0) (o := 80) 23 2 tk_R_cell rfl bb_R_depthOf vv_R_depthOf lk_12_362 (by decide) rfl rfl (Or.inl rfl) (Nat.le_of_ble_eq_true rfl) (s_R_depthOf Γ a1 ((wI h 80 0 (ii 0)).1 97 (ii 45).toNatClampNeg) (wI h 80 0 (ii 0)) _ hq5) ?_
        show Ev Γ m_R_cell 72 [some (vr 12 0 80), some (vi a1), some (vi a2)] [vi q1] (wI h 80 0 (ii 0)) r h'
        obtain rfl := Option.some.inj hx
        obtain ⟨rfl, rfl⟩ := hP
        exact Ev.iret 24 tk_R_cell rfl rfl
      replace hx := ia hc3 hx
      by_cases hc6 : a2 = ii 1
      · replace hx := ip hc6 hx
        refine Ev.tabIn (off := 45) 16 73 1 tk_R_cell rfl hc6 (by decide) (by decide) ?_
        refine Ev.blk (pc' := 75) (lv' := [some (vr 12 0 80), some (vi a1), some (vi a2)]) (st' := [vi a1, vr 12 0 80]) (h' := (wI h 80 0 (ii 0))) 25 2 (Nat.le_of_ble_eq_true rfl) tk_R_cell rfl rfl ⟨trivial, trivial, trivial⟩ ?_
        obtain ⟨q2, hq7, hx⟩ := bd hx
        refine Ev.callV (ν := m_R_ironAt) (av := [vi a1]) (rest := []) (r1 := some (vi q2)) (h1 := (wI h 80 0 (ii 0))) (ci := 12) (nn := 0) (o := 80) 27 1 tk_R_cell rfl bb_R_ironAt vv_R_ironAt lk_12_365 (by decide) rfl rfl (Or.inl rfl) (Nat.le_of_ble_eq_true rfl) (s_R_ironAt Γ a1 (wI h 80 0 (ii 0)) _ hq7) ?_
        show Ev Γ m_R_cell 78 [some (vr 12 0 80), some (vi a1), some (vi a2)] [vi q2] (wI h 80 0 (ii 0)) r h'
        obtain rfl := Option.some.inj hx
        obtain ⟨rfl, rfl⟩ := hP
        exact Ev.iret 28 tk_R_cell rfl rfl
      replace hx := ia hc6 hx
      by_cases hc8 : a2 = ii 2
      · replace hx := ip hc8 hx
        refine Ev.tabIn (off := 51) 16 79 2 tk_R_cell rfl hc8 (by decide) (by decide) ?_
        refine Ev.blk (pc' := 89) (lv' := [some (vr 12 0 80), some (vi a1), some (vi a2)]) (st' := [vi (ii 0), vi a1, vi ((wI h 80 0 (ii 0)).1 80 32), vr 20 12 91]) (h' := (wI h 80 0 (ii 0))) 29 6 (Nat.le_of_ble_eq_true rfl) tk_R_cell rfl rfl ⟨trivial, trivial, trivial, trivial, trivial, trivial, trivial⟩ ?_
        obtain ⟨q3, hq9, hx⟩ := bd hx
        refine Ev.callS (ν := m_R_numberAt) (av := [vr 20 12 91, vi ((wI h 80 0 (ii 0)).1 80 32), vi a1, vi (ii 0)]) (rest := []) (r1 := some (vi q3)) (h1 := (wI h 80 0 (ii 0))) 35 4 tk_R_cell rfl bb_R_numberAt vv_R_numberAt lk_12_358 (by decide) rfl rfl (Nat.le_of_ble_eq_true rfl) (s_R_numberAt Γ 12 91 ((wI h 80 0 (ii 0)).1 80 32) a1 (ii 0) (wI h 80 0 (ii 0)) _ hq9) ?_
        show Ev Γ m_R_cell 92 [some (vr 12 0 80), some (vi a1), some (vi a2)] [vi q3] (wI h 80 0 (ii 0)) r h'
        obtain rfl := Option.some.inj hx
        obtain ⟨rfl, rfl⟩ := hP
        exact Ev.iret 36 tk_R_cell rfl rfl
      replace hx := ia hc8 hx
      by_cases hc10 : a2 = ii 3
      · replace hx := ip hc10 hx
        refine Ev.tabIn (off := 65) 16 93 3 tk_R_cell rfl hc10 (by decide) (by decide) ?_
        obtain ⟨hg11, hx⟩ := gd hx
        refine Ev.blk (pc' := 102) (lv' := [some (vr 12 0 80), some (vi a1), some (vi a2)]) (st' := [vi ((wI h 80 0 (ii 0)).1 97 ((ii 14) + a1).toNatClampNeg)]) (h' := (wI h 80 0 (ii 0))) 37 6 (Nat.le_of_ble_eq_true rfl) tk_R_cell rfl rfl ⟨trivial, trivial, trivial, trivial, trivial, hg11, trivial⟩ ?_
        refine Ev.if_le 43 109 tk_R_cell rfl (by decide) (fun hc12 => ?_) (fun hc12 => ?_)
        · replace hx := ip hc12 hx
          refine Ev.blk (pc' := 110) (lv' := [some (vr 12 0 80), some (vi a1), some (vi a2)]) (st' := [vi (ii 0)]) (h' := (wI h 80 0 (ii 0))) 46 1 (Nat.le_of_ble_eq_true rfl) tk_R_cell rfl rfl ⟨trivial, trivial⟩ ?_
          obtain rfl := Option.some.inj hx
          obtain ⟨rfl, rfl⟩ := hP
          exact Ev.iret 47 tk_R_cell rfl rfl
        · replace hx := ia hc12 hx
          refine Ev.blk (pc' := 110) (lv' := [some (vr 12 0 80), some (vi a1), some (vi a2)]) (st' := [vi (ii 1)]) (h' := (wI h 80 0 (ii 0))) 44 2 (Nat.le_of_ble_eq_true rfl) tk_R_cell rfl rfl ⟨trivial, trivial, trivial⟩ ?_
          obtain rfl := Option.some.inj hx
          obtain ⟨rfl, rfl⟩ := hP
          exact Ev.iret 47 tk_R_cell rfl rfl
      replace hx := ia hc10 hx
      refine Ev.tabOut 16 111 4 tk_R_cell rfl (by decide) (fun k hk => ?_) (by decide) ?_
      · rcases (show k = 0 ∨ k = 1 ∨ k = 2 ∨ k = 3 by omega) with rfl | rfl | rfl | rfl
        · exact hc3
        · exact hc6
        · exact hc8
        · exact hc10
      · obtain ⟨hg13, hx⟩ := gd hx
        refine Ev.blk (pc' := 120) (lv' := [some (vr 12 0 80), some (vi a1), some (vi a2)]) (st' := [vi ((wI h 80 0 (ii 0)).1 97 ((ii 14) + a1).toNatClampNeg)]) (h' := (wI h 80 0 (ii 0))) 48 6 (Nat.le_of_ble_eq_true rfl) tk_R_cell rfl rfl ⟨trivial, trivial, trivial, trivial, trivial, hg13, trivial⟩ ?_
        obtain rfl := Option.some.inj hx
        obtain ⟨rfl, rfl⟩ := hP
        exact Ev.iret 54 tk_R_cell rfl rfl
    · replace hx := ip hc2 hx
      refine Ev.blk (pc' := 26) (lv' := [some (vr 12 0 80), some (vi a1), some (vi a2)]) (st' := [vi (ii (-1))]) (h' := (wI h 80 0 (ii 0))) 13 1 (Nat.le_of_ble_eq_true rfl) tk_R_cell rfl rfl ⟨trivial, trivial⟩ ?_
      obtain rfl := Option.some.inj hx
      obtain ⟨rfl, rfl⟩ := hP
      exact Ev.iret 14 tk_R_cell rfl rfl
theorem s_R_isFork (Γ : AG) (a1 : Int32) (h : AH) : MetA Γ m_R_isFork [vr 12 0 80, vi a1] h (some (vi (p_R_isFork a1 h))) h := by
  refine Ev.met rfl rfl (Nat.le_of_ble_eq_true rfl) ?_
  generalize hx : p_R_isFork a1 h = x
  show Ev Γ m_R_isFork 0 [some (vr 12 0 80), some (vi a1)] [] h _ _
  obtain ⟨r, hr⟩ : ∃ r : Option AV, r = some (vi x) := ⟨_, rfl⟩
  obtain ⟨h', hh⟩ : ∃ h' : AH, h' = h := ⟨_, rfl⟩
  have hP : r = some (vi x) ∧ h' = h := ⟨hr, hh⟩
  suffices hS : Ev Γ m_R_isFork 0 [some (vr 12 0 80), some (vi a1)] [] h r h' by rw [hr, hh] at hS; exact hS
  clear hr hh
  unfold p_R_isFork at hx
  refine Ev.blk (pc' := 1) (lv' := [some (vr 12 0 80), some (vi a1)]) (st' := [vi a1]) (h' := h) 0 1 (Nat.le_of_ble_eq_true rfl) tk_R_isFork rfl rfl ⟨trivial, trivial⟩ ?_
  refine Ev.if_lt 1 16 tk_R_isFork rfl (by decide) (fun hc1 => ?_) (fun hc1 => ?_)
  · replace hx := ip hc1 hx
    refine Ev.blk (pc' := 17) (lv' := [some (vr 12 0 80), some (vi a1)]) (st' := [vi (ii 0)]) (h' := h) 8 1 (Nat.le_of_ble_eq_true rfl) tk_R_isFork rfl rfl ⟨trivial, trivial⟩ ?_
    subst hx
    obtain ⟨rfl, rfl⟩ := hP
    exact Ev.zret 9 tk_R_isFork rfl rfl rfl
  · replace hx := ia hc1 hx
    refine Ev.blk (pc' := 9) (lv' := [some (vr 12 0 80), some (vi a1)]) (st' := [vi (h.1 80 33), vi a1]) (h' := h) 2 3 (Nat.le_of_ble_eq_true rfl) tk_R_isFork rfl rfl ⟨trivial, trivial, trivial, trivial⟩ ?_
    refine Ev.icmp_ge 5 16 tk_R_isFork rfl (by decide) (fun hc2 => ?_) (fun hc2 => ?_)
    · replace hx := ip hc2 hx
      refine Ev.blk (pc' := 17) (lv' := [some (vr 12 0 80), some (vi a1)]) (st' := [vi (ii 0)]) (h' := h) 8 1 (Nat.le_of_ble_eq_true rfl) tk_R_isFork rfl rfl ⟨trivial, trivial⟩ ?_
      subst hx
      obtain ⟨rfl, rfl⟩ := hP
      exact Ev.zret 9 tk_R_isFork rfl rfl rfl
    · replace hx := ia hc2 hx
      refine Ev.blk (pc' := 17) (lv' := [some (vr 12 0 80), some (vi a1)]) (st' := [vi (ii 1)]) (h' := h) 6 2 (Nat.le_of_ble_eq_true rfl) tk_R_isFork rfl rfl ⟨trivial, trivial, trivial⟩ ?_
      subst hx
      obtain ⟨rfl, rfl⟩ := hP
      exact Ev.zret 9 tk_R_isFork rfl rfl rfl
set_option maxRecDepth 4000 in
theorem s_R_fork (Γ : AG) (a1 : Int32) (a2 : Int32) (h : AH) (x : Int32 × AH) (hx : f_R_fork a1 a2 h = some x) : MetA Γ m_R_fork [vr 12 0 80, vi a1, vi a2] h (some (vi x.1)) x.2 := by
  refine Ev.met rfl rfl (Nat.le_of_ble_eq_true rfl) ?_
  show Ev Γ m_R_fork 0 [some (vr 12 0 80), some (vi a1), some (vi a2)] [] h _ _
  obtain ⟨r, hr⟩ : ∃ r : Option AV, r = some (vi x.1) := ⟨_, rfl⟩
  obtain ⟨h', hh⟩ : ∃ h' : AH, h' = x.2 := ⟨_, rfl⟩
  have hP : r = some (vi x.1) ∧ h' = x.2 := ⟨hr, hh⟩
  suffices hS : Ev Γ m_R_fork 0 [some (vr 12 0 80), some (vi a1), some (vi a2)] [] h r h' by rw [hr, hh] at hS; exact hS
  clear hr hh
  unfold f_R_fork at hx
  refine Ev.blk (pc' := 3) (lv' := [some (vr 12 0 80), some (vi a1), some (vi a2)]) (st' := [vi a1, vr 12 0 80, vr 12 0 80]) (h' := h) 0 3 (Nat.le_of_ble_eq_true rfl) tk_R_fork rfl rfl ⟨trivial, trivial, trivial, trivial⟩ ?_
  refine Ev.callV (ν := m_R_isFork) (av := [vi a1]) (rest := [vr 12 0 80]) (r1 := some (vi (p_R_isFork a1 h))) (h1 := h) (ci := 12) (nn := 0) (o := 80) 3 1 tk_R_fork rfl bb_R_isFork vv_R_isFork lk_12_377 (by decide) rfl rfl (Or.inl rfl) (Nat.le_of_ble_eq_true rfl) (s_R_isFork Γ a1 h) ?_
  show Ev Γ m_R_fork 6 [some (vr 12 0 80), some (vi a1), some (vi a2)] [vi (p_R_isFork a1 h), vr 12 0 80] h r h'
  have K1 : ∀ v1_0 : Int32, v1_0 = (if (p_R_isFork a1 h) = 0 then (ii 1) else (if (p_R_isIn a2.toInt64 (Int64.ofNat 0) (Int64.ofInt 6)) = 0 then (ii 1) else (ii 0))) → Ev Γ m_R_fork 26 [some (vr 12 0 80), some (vi a1), some (vi a2)] [vi v1_0, vr 12 0 80] h r h' := by
    intro v1_0 e2
    subst e2
    refine Ev.blk (pc' := 33) (lv' := [some (vr 12 0 80), some (vi a1), some (vi a2)]) (st' := [vi ((wI h 80 0 (if (p_R_isFork a1 h) = 0 then (ii 1) else (if (p_R_isIn a2.toInt64 (Int64.ofNat 0) (Int64.ofInt 6)) = 0 then (ii 1) else (ii 0)))).1 80 0)]) (h' := (wI h 80 0 (if (p_R_isFork a1 h) = 0 then (ii 1) else (if (p_R_isIn a2.toInt64 (Int64.ofNat 0) (Int64.ofInt 6)) = 0 then (ii 1) else (ii 0))))) 14 3 (Nat.le_of_ble_eq_true rfl) tk_R_fork rfl rfl ⟨trivial, trivial, trivial, trivial⟩ ?_
    refine Ev.if_le 17 38 tk_R_fork rfl (by decide) (fun hc3 => ?_) (fun hc3 => ?_)
    · replace hx := ip hc3 hx
      refine Ev.blk (pc' := 39) (lv' := [some (vr 12 0 80), some (vi a1), some (vi a2)]) (st' := [vi a2]) (h' := (wI h 80 0 (if (p_R_isFork a1 h) = 0 then (ii 1) else (if (p_R_isIn a2.toInt64 (Int64.ofNat 0) (Int64.ofInt 6)) = 0 then (ii 1) else (ii 0))))) 20 1 (Nat.le_of_ble_eq_true rfl) tk_R_fork rfl rfl ⟨trivial, trivial⟩ ?_
      refine Ev.if_ne 21 51 tk_R_fork rfl (by decide) (fun hc4 => ?_) (fun hc4 => ?_)
      · replace hx := ia hc4 hx
        refine Ev.blk (pc' := 54) (lv' := [some (vr 12 0 80), some (vi a1), some (vi a2)]) (st' := [vi (ii 6), vi a2]) (h' := (wI h 80 0 (if (p_R_isFork a1 h) = 0 then (ii 1) else (if (p_R_isIn a2.toInt64 (Int64.ofNat 0) (Int64.ofInt 6)) = 0 then (ii 1) else (ii 0))))) 29 2 (Nat.le_of_ble_eq_true rfl) tk_R_fork rfl rfl ⟨trivial, trivial, trivial⟩ ?_
        refine Ev.icmp_ne 31 68 tk_R_fork rfl (by decide) (fun hc5 => ?_) (fun hc5 => ?_)
        · replace hx := ia hc5 hx
          refine Ev.blk (pc' := 70) (lv' := [some (vr 12 0 80), some (vi a1), some (vi a2)]) (st' := [vi (ii 3), vi a2]) (h' := (wI h 80 0 (if (p_R_isFork a1 h) = 0 then (ii 1) else (if (p_R_isIn a2.toInt64 (Int64.ofNat 0) (Int64.ofInt 6)) = 0 then (ii 1) else (ii 0))))) 41 2 (Nat.le_of_ble_eq_true rfl) tk_R_fork rfl rfl ⟨trivial, trivial, trivial⟩ ?_
          refine Ev.icmp_ne 43 90 tk_R_fork rfl (by decide) (fun hc6 => ?_) (fun hc6 => ?_)
          · replace hx := ia hc6 hx
            refine Ev.blk (pc' := 93) (lv' := [some (vr 12 0 80), some (vi a1), some (vi a2)]) (st' := [vi a2, vi a1, vr 12 0 80]) (h' := (wI h 80 0 (if (p_R_isFork a1 h) = 0 then (ii 1) else (if (p_R_isIn a2.toInt64 (Int64.ofNat 0) (Int64.ofInt 6)) = 0 then (ii 1) else (ii 0))))) 53 3 (Nat.le_of_ble_eq_true rfl) tk_R_fork rfl rfl ⟨trivial, trivial, trivial, trivial⟩ ?_
            obtain ⟨q1, hq7, hx⟩ := bd hx
            refine Ev.callV (ν := m_R_told) (av := [vi a1, vi a2]) (rest := []) (r1 := some (vi q1)) (h1 := (wI h 80 0 (if (p_R_isFork a1 h) = 0 then (ii 1) else (if (p_R_isIn a2.toInt64 (Int64.ofNat 0) (Int64.ofInt 6)) = 0 then (ii 1) else (ii 0))))) (ci := 12) (nn := 0) (o := 80) 56 2 tk_R_fork rfl bb_R_told vv_R_told lk_12_338 (by decide) rfl rfl (Or.inl rfl) (Nat.le_of_ble_eq_true rfl) (s_R_told Γ a1 a2 (wI h 80 0 (if (p_R_isFork a1 h) = 0 then (ii 1) else (if (p_R_isIn a2.toInt64 (Int64.ofNat 0) (Int64.ofInt 6)) = 0 then (ii 1) else (ii 0)))) _ hq7) ?_
            show Ev Γ m_R_fork 96 [some (vr 12 0 80), some (vi a1), some (vi a2)] [vi q1] (wI h 80 0 (if (p_R_isFork a1 h) = 0 then (ii 1) else (if (p_R_isIn a2.toInt64 (Int64.ofNat 0) (Int64.ofInt 6)) = 0 then (ii 1) else (ii 0)))) r h'
            obtain rfl := Option.some.inj hx
            obtain ⟨rfl, rfl⟩ := hP
            exact Ev.iret 57 tk_R_fork rfl rfl
          · replace hx := ip hc6 hx
            refine Ev.blk (pc' := 76) (lv' := [some (vr 12 0 80), some (vi a1), some (vi a2)]) (st' := [vi (ii 3), vi a1, vr 12 0 80]) (h' := (wI h 80 0 (if (p_R_isFork a1 h) = 0 then (ii 1) else (if (p_R_isIn a2.toInt64 (Int64.ofNat 0) (Int64.ofInt 6)) = 0 then (ii 1) else (ii 0))))) 44 3 (Nat.le_of_ble_eq_true rfl) tk_R_fork rfl rfl ⟨trivial, trivial, trivial, trivial⟩ ?_
            obtain ⟨q2, hq8, hx⟩ := bd hx
            refine Ev.callV (ν := m_R_told) (av := [vi a1, vi (ii 3)]) (rest := []) (r1 := some (vi q2)) (h1 := (wI h 80 0 (if (p_R_isFork a1 h) = 0 then (ii 1) else (if (p_R_isIn a2.toInt64 (Int64.ofNat 0) (Int64.ofInt 6)) = 0 then (ii 1) else (ii 0))))) (ci := 12) (nn := 0) (o := 80) 47 2 tk_R_fork rfl bb_R_told vv_R_told lk_12_338 (by decide) rfl rfl (Or.inl rfl) (Nat.le_of_ble_eq_true rfl) (s_R_told Γ a1 (ii 3) (wI h 80 0 (if (p_R_isFork a1 h) = 0 then (ii 1) else (if (p_R_isIn a2.toInt64 (Int64.ofNat 0) (Int64.ofInt 6)) = 0 then (ii 1) else (ii 0)))) _ hq8) ?_
            show Ev Γ m_R_fork 79 [some (vr 12 0 80), some (vi a1), some (vi a2)] [vi q2] (wI h 80 0 (if (p_R_isFork a1 h) = 0 then (ii 1) else (if (p_R_isIn a2.toInt64 (Int64.ofNat 0) (Int64.ofInt 6)) = 0 then (ii 1) else (ii 0)))) r h'
            refine Ev.blk (pc' := 83) (lv' := [some (vr 12 0 80), some (vi a1), some (vi a2)]) (st' := [vi ((wI h 80 0 (if (p_R_isFork a1 h) = 0 then (ii 1) else (if (p_R_isIn a2.toInt64 (Int64.ofNat 0) (Int64.ofInt 6)) = 0 then (ii 1) else (ii 0)))).1 80 34), vi q2]) (h' := (wI h 80 0 (if (p_R_isFork a1 h) = 0 then (ii 1) else (if (p_R_isIn a2.toInt64 (Int64.ofNat 0) (Int64.ofInt 6)) = 0 then (ii 1) else (ii 0))))) 48 2 (Nat.le_of_ble_eq_true rfl) tk_R_fork rfl rfl ⟨trivial, trivial, trivial⟩ ?_
            refine Ev.icmp_lt 50 90 tk_R_fork rfl (by decide) (fun hc9 => ?_) (fun hc9 => ?_)
            · replace hx := ip hc9 hx
              refine Ev.blk (pc' := 93) (lv' := [some (vr 12 0 80), some (vi a1), some (vi a2)]) (st' := [vi a2, vi a1, vr 12 0 80]) (h' := (wI h 80 0 (if (p_R_isFork a1 h) = 0 then (ii 1) else (if (p_R_isIn a2.toInt64 (Int64.ofNat 0) (Int64.ofInt 6)) = 0 then (ii 1) else (ii 0))))) 53 3 (Nat.le_of_ble_eq_true rfl) tk_R_fork rfl rfl ⟨trivial, trivial, trivial, trivial⟩ ?_
              obtain ⟨q3, hq10, hx⟩ := bd hx
              refine Ev.callV (ν := m_R_told) (av := [vi a1, vi a2]) (rest := []) (r1 := some (vi q3)) (h1 := (wI h 80 0 (if (p_R_isFork a1 h) = 0 then (ii 1) else (if (p_R_isIn a2.toInt64 (Int64.ofNat 0) (Int64.ofInt 6)) = 0 then (ii 1) else (ii 0))))) (ci := 12) (nn := 0) (o := 80) 56 2 tk_R_fork rfl bb_R_told vv_R_told lk_12_338 (by decide) rfl rfl (Or.inl rfl) (Nat.le_of_ble_eq_true rfl) (s_R_told Γ a1 a2 (wI h 80 0 (if (p_R_isFork a1 h) = 0 then (ii 1) else (if (p_R_isIn a2.toInt64 (Int64.ofNat 0) (Int64.ofInt 6)) = 0 then (ii 1) else (ii 0)))) _ hq10) ?_
              show Ev Γ m_R_fork 96 [some (vr 12 0 80), some (vi a1), some (vi a2)] [vi q3] (wI h 80 0 (if (p_R_isFork a1 h) = 0 then (ii 1) else (if (p_R_isIn a2.toInt64 (Int64.ofNat 0) (Int64.ofInt 6)) = 0 then (ii 1) else (ii 0)))) r h'
              obtain rfl := Option.some.inj hx
              obtain ⟨rfl, rfl⟩ := hP
              exact Ev.iret 57 tk_R_fork rfl rfl
            · replace hx := ia hc9 hx
              refine Ev.blk (pc' := 96) (lv' := [some (vr 12 0 80), some (vi a1), some (vi a2)]) (st' := [vi (ii (-1))]) (h' := (wI h 80 0 (if (p_R_isFork a1 h) = 0 then (ii 1) else (if (p_R_isIn a2.toInt64 (Int64.ofNat 0) (Int64.ofInt 6)) = 0 then (ii 1) else (ii 0))))) 51 2 (Nat.le_of_ble_eq_true rfl) tk_R_fork rfl rfl ⟨trivial, trivial, trivial⟩ ?_
              obtain rfl := Option.some.inj hx
              obtain ⟨rfl, rfl⟩ := hP
              exact Ev.iret 57 tk_R_fork rfl rfl
        · replace hx := ip hc5 hx
          obtain ⟨hg11, hx⟩ := gd hx
          refine Ev.blk (pc' := 67) (lv' := [some (vr 12 0 80), some (vi a1), some (vi a2)]) (st' := [vi ((wI h 80 0 (if (p_R_isFork a1 h) = 0 then (ii 1) else (if (p_R_isIn a2.toInt64 (Int64.ofNat 0) (Int64.ofInt 6)) = 0 then (ii 1) else (ii 0)))).1 97 (((ii 2) * a1) + (ii 1)).toNatClampNeg)]) (h' := (wI h 80 0 (if (p_R_isFork a1 h) = 0 then (ii 1) else (if (p_R_isIn a2.toInt64 (Int64.ofNat 0) (Int64.ofInt 6)) = 0 then (ii 1) else (ii 0))))) 32 8 (Nat.le_of_ble_eq_true rfl) tk_R_fork rfl rfl ⟨trivial, trivial, trivial, trivial, trivial, trivial, trivial, hg11, trivial⟩ ?_
          obtain rfl := Option.some.inj hx
          obtain ⟨rfl, rfl⟩ := hP
          exact Ev.iret 40 tk_R_fork rfl rfl
      · replace hx := ip hc4 hx
        obtain ⟨hg12, hx⟩ := gd hx
        refine Ev.blk (pc' := 50) (lv' := [some (vr 12 0 80), some (vi a1), some (vi a2)]) (st' := [vi ((wI h 80 0 (if (p_R_isFork a1 h) = 0 then (ii 1) else (if (p_R_isIn a2.toInt64 (Int64.ofNat 0) (Int64.ofInt 6)) = 0 then (ii 1) else (ii 0)))).1 97 ((ii 2) * a1).toNatClampNeg)]) (h' := (wI h 80 0 (if (p_R_isFork a1 h) = 0 then (ii 1) else (if (p_R_isIn a2.toInt64 (Int64.ofNat 0) (Int64.ofInt 6)) = 0 then (ii 1) else (ii 0))))) 22 6 (Nat.le_of_ble_eq_true rfl) tk_R_fork rfl rfl ⟨trivial, trivial, trivial, trivial, trivial, hg12, trivial⟩ ?_
        obtain rfl := Option.some.inj hx
        obtain ⟨rfl, rfl⟩ := hP
        exact Ev.iret 28 tk_R_fork rfl rfl
    · replace hx := ia hc3 hx
      refine Ev.blk (pc' := 37) (lv' := [some (vr 12 0 80), some (vi a1), some (vi a2)]) (st' := [vi (ii 0)]) (h' := (wI h 80 0 (if (p_R_isFork a1 h) = 0 then (ii 1) else (if (p_R_isIn a2.toInt64 (Int64.ofNat 0) (Int64.ofInt 6)) = 0 then (ii 1) else (ii 0))))) 18 1 (Nat.le_of_ble_eq_true rfl) tk_R_fork rfl rfl ⟨trivial, trivial⟩ ?_
      obtain rfl := Option.some.inj hx
      obtain ⟨rfl, rfl⟩ := hP
      exact Ev.iret 19 tk_R_fork rfl rfl
  refine Ev.if_eq 4 25 tk_R_fork rfl (by decide) (fun hc13 => ?_) (fun hc13 => ?_)
  · refine Ev.blk (pc' := 26) (lv' := [some (vr 12 0 80), some (vi a1), some (vi a2)]) (st' := [vi (ii 1), vr 12 0 80]) (h' := h) 13 1 (Nat.le_of_ble_eq_true rfl) tk_R_fork rfl rfl ⟨trivial, trivial⟩ ?_
    exact Ev.msk [true, true, true] (K1 _ (by first | rfl | simp only [if_pos hc13]))
  · refine Ev.blk (pc' := 15) (lv' := [some (vr 12 0 80), some (vi a1), some (vi a2)]) (st' := [vl (Int64.ofInt 6), vl (Int64.ofNat 0), vl a2.toInt64, vr 12 0 80]) (h' := h) 5 4 (Nat.le_of_ble_eq_true rfl) tk_R_fork rfl rfl ⟨trivial, trivial, trivial, trivial, trivial⟩ ?_
    refine Ev.callS (ν := m_R_isIn) (av := [vl a2.toInt64, vl (Int64.ofNat 0), vl (Int64.ofInt 6)]) (rest := [vr 12 0 80]) (r1 := some (vi (p_R_isIn a2.toInt64 (Int64.ofNat 0) (Int64.ofInt 6)))) (h1 := h) 9 3 tk_R_fork rfl bb_R_isIn vv_R_isIn lk_12_223 (by decide) rfl rfl (Nat.le_of_ble_eq_true rfl) (s_R_isIn Γ a2.toInt64 (Int64.ofNat 0) (Int64.ofInt 6) h) ?_
    show Ev Γ m_R_fork 18 [some (vr 12 0 80), some (vi a1), some (vi a2)] [vi (p_R_isIn a2.toInt64 (Int64.ofNat 0) (Int64.ofInt 6)), vr 12 0 80] h r h'
    refine Ev.if_eq 10 25 tk_R_fork rfl (by decide) (fun hc14 => ?_) (fun hc14 => ?_)
    · refine Ev.blk (pc' := 26) (lv' := [some (vr 12 0 80), some (vi a1), some (vi a2)]) (st' := [vi (ii 1), vr 12 0 80]) (h' := h) 13 1 (Nat.le_of_ble_eq_true rfl) tk_R_fork rfl rfl ⟨trivial, trivial⟩ ?_
      exact Ev.msk [true, true, true] (K1 _ (by first | rfl | simp only [if_neg hc13, if_pos hc14]))
    · refine Ev.blk (pc' := 26) (lv' := [some (vr 12 0 80), some (vi a1), some (vi a2)]) (st' := [vi (ii 0), vr 12 0 80]) (h' := h) 11 2 (Nat.le_of_ble_eq_true rfl) tk_R_fork rfl rfl ⟨trivial, trivial, trivial⟩ ?_
      exact Ev.msk [true, true, true] (K1 _ (by first | rfl | simp only [if_neg hc13, if_neg hc14]))
set_option maxRecDepth 4000 in
theorem s_R_law (Γ : AG) (a1 : Int32) (h : AH) (x : Int32 × AH) (hx : f_R_law a1 h = some x) : MetA Γ m_R_law [vr 12 0 80, vi a1] h (some (vi x.1)) x.2 := by
  refine Ev.met rfl rfl (Nat.le_of_ble_eq_true rfl) ?_
  show Ev Γ m_R_law 0 [some (vr 12 0 80), some (vi a1)] [] h _ _
  obtain ⟨r, hr⟩ : ∃ r : Option AV, r = some (vi x.1) := ⟨_, rfl⟩
  obtain ⟨h', hh⟩ : ∃ h' : AH, h' = x.2 := ⟨_, rfl⟩
  have hP : r = some (vi x.1) ∧ h' = x.2 := ⟨hr, hh⟩
  suffices hS : Ev Γ m_R_law 0 [some (vr 12 0 80), some (vi a1)] [] h r h' by rw [hr, hh] at hS; exact hS
  clear hr hh
  unfold f_R_law at hx
  refine Ev.blk (pc' := 7) (lv' := [some (vr 12 0 80), some (vi a1)]) (st' := [vi (ii (-1)), vi a1]) (h' := (wI h 80 0 (ii 0))) 0 5 (Nat.le_of_ble_eq_true rfl) tk_R_law rfl rfl ⟨trivial, trivial, trivial, trivial, trivial, trivial⟩ ?_
  refine Ev.icmp_eq 5 28 tk_R_law rfl (by decide) (fun hc1 => ?_) (fun hc1 => ?_)
  · replace hx := ip hc1 hx
    refine Ev.blk (pc' := 34) (lv' := [some (vr 12 0 80), some (vi a1)]) (st' := [vi (ii 1)]) (h' := (wI (wI h 80 0 (ii 0)) 80 43 a1)) 18 4 (Nat.le_of_ble_eq_true rfl) tk_R_law rfl rfl ⟨trivial, trivial, trivial, trivial, trivial⟩ ?_
    obtain rfl := Option.some.inj hx
    obtain ⟨rfl, rfl⟩ := hP
    exact Ev.zret 22 tk_R_law rfl rfl rfl
  · replace hx := ia hc1 hx
    refine Ev.blk (pc' := 20) (lv' := [some (vr 12 0 80), some (vi a1)]) (st' := [vl ((((wI h 80 0 (ii 0)).1 80 7) - (ii 1)).toInt64), vl (Int64.ofNat 0), vl a1.toInt64]) (h' := (wI h 80 0 (ii 0))) 6 8 (Nat.le_of_ble_eq_true rfl) tk_R_law rfl rfl ⟨trivial, trivial, trivial, trivial, trivial, trivial, trivial, trivial, trivial⟩ ?_
    refine Ev.callS (ν := m_R_isIn) (av := [vl a1.toInt64, vl (Int64.ofNat 0), vl ((((wI h 80 0 (ii 0)).1 80 7) - (ii 1)).toInt64)]) (rest := []) (r1 := some (vi (p_R_isIn a1.toInt64 (Int64.ofNat 0) ((((wI h 80 0 (ii 0)).1 80 7) - (ii 1)).toInt64)))) (h1 := (wI h 80 0 (ii 0))) 14 3 tk_R_law rfl bb_R_isIn vv_R_isIn lk_12_223 (by decide) rfl rfl (Nat.le_of_ble_eq_true rfl) (s_R_isIn Γ a1.toInt64 (Int64.ofNat 0) ((((wI h 80 0 (ii 0)).1 80 7) - (ii 1)).toInt64) (wI h 80 0 (ii 0))) ?_
    show Ev Γ m_R_law 23 [some (vr 12 0 80), some (vi a1)] [vi (p_R_isIn a1.toInt64 (Int64.ofNat 0) ((((wI h 80 0 (ii 0)).1 80 7) - (ii 1)).toInt64))] (wI h 80 0 (ii 0)) r h'
    refine Ev.if_ne 15 28 tk_R_law rfl (by decide) (fun hc2 => ?_) (fun hc2 => ?_)
    · replace hx := ia hc2 hx
      refine Ev.blk (pc' := 34) (lv' := [some (vr 12 0 80), some (vi a1)]) (st' := [vi (ii 1)]) (h' := (wI (wI h 80 0 (ii 0)) 80 43 a1)) 18 4 (Nat.le_of_ble_eq_true rfl) tk_R_law rfl rfl ⟨trivial, trivial, trivial, trivial, trivial⟩ ?_
      obtain rfl := Option.some.inj hx
      obtain ⟨rfl, rfl⟩ := hP
      exact Ev.zret 22 tk_R_law rfl rfl rfl
    · replace hx := ip hc2 hx
      refine Ev.blk (pc' := 27) (lv' := [some (vr 12 0 80), some (vi a1)]) (st' := [vi (ii 0)]) (h' := (wI h 80 0 (ii 0))) 16 1 (Nat.le_of_ble_eq_true rfl) tk_R_law rfl rfl ⟨trivial, trivial⟩ ?_
      obtain rfl := Option.some.inj hx
      obtain ⟨rfl, rfl⟩ := hP
      exact Ev.zret 17 tk_R_law rfl rfl rfl
set_option maxRecDepth 4000 in
theorem l_R_twitchOf_L196 (Γ : AG) : ∀ (n : Nat) (n1 : Nat) (o1 : Nat) (v2 : Int32) (v3 : Int32) (v8 : Int32) (v9 : Int32) (h : AH) (x : Int32 × AH), R_twitchOf_L196 n n1 o1 v2 v3 v8 v9 h = some x → ∀ (r : Option AV) (h' : AH), r = some (vi x.1) ∧ h' = x.2 → Ev Γ m_R_twitchOf 196 [some (vr 12 0 80), some (vr 20 n1 o1), some (vi v2), some (vi v3), none, none, none, none, some (vi v8), some (vi v9)] [] h r h' := by
  intro n
  induction n with
  | zero => intro n1 o1 v2 v3 v8 v9 h x hx; cases hx
  | succ n ih =>
    intro n1 o1 v2 v3 v8 v9 h x hx r h' hP
    replace hx : R_twitchOf_L196_b (R_twitchOf_L196 n) n1 o1 v2 v3 v8 v9 h = some x := hx
    unfold R_twitchOf_L196_b at hx
    refine Ev.blk (pc' := 202) (lv' := [some (vr 12 0 80), some (vr 20 n1 o1), some (vi v2), some (vi v3), none, none, none, none, some (vi v8), some (vi v9)]) (st' := [vi (h.1 80 33), vi v9]) (h' := h) 108 3 (Nat.le_of_ble_eq_true rfl) tk_R_twitchOf rfl rfl ⟨trivial, trivial, trivial, trivial⟩ ?_
    refine Ev.icmp_ge 111 237 tk_R_twitchOf rfl (by decide) (fun hc1 => ?_) (fun hc1 => ?_)
    · replace hx := ip hc1 hx
      obtain ⟨hg2, hx⟩ := gd hx
      obtain ⟨hg3, hx⟩ := gd hx
      refine Ev.blk (pc' := 268) (lv' := [some (vr 12 0 80), some (vr 20 n1 o1), some (vi v2), some (vi v3), none, none, none, none, some (vi v8), some (vi v9)]) (st' := [vi ((wI h 84 (ii 111).toNatClampNeg v8).1 83 ((wI h 84 (ii 111).toNatClampNeg v8).1 80 43).toNatClampNeg), vi ((ii 240) * ((wI h 84 (ii 111).toNatClampNeg v8).1 80 43)), vr 21 960 82, vr 12 0 80]) (h' := (wI h 84 (ii 111).toNatClampNeg v8)) 130 17 (Nat.le_of_ble_eq_true rfl) tk_R_twitchOf rfl rfl ⟨trivial, trivial, trivial, trivial, hg2, trivial, trivial, trivial, trivial, trivial, trivial, trivial, trivial, trivial, trivial, trivial, hg3, trivial⟩ ?_
      obtain ⟨q1, hq4, hx⟩ := bd hx
      refine Ev.callV (ν := m_R_goThrough) (av := [vr 21 960 82, vi ((ii 240) * ((wI h 84 (ii 111).toNatClampNeg v8).1 80 43)), vi ((wI h 84 (ii 111).toNatClampNeg v8).1 83 ((wI h 84 (ii 111).toNatClampNeg v8).1 80 43).toNatClampNeg)]) (rest := []) (r1 := none) (h1 := q1) (ci := 12) (nn := 0) (o := 80) 147 3 tk_R_twitchOf rfl bb_R_goThrough vv_R_goThrough lk_12_305 (by decide) rfl rfl (Or.inl rfl) (Nat.le_of_ble_eq_true rfl) (s_R_goThrough Γ 960 82 ((ii 240) * ((wI h 84 (ii 111).toNatClampNeg v8).1 80 43)) ((wI h 84 (ii 111).toNatClampNeg v8).1 83 ((wI h 84 (ii 111).toNatClampNeg v8).1 80 43).toNatClampNeg) (wI h 84 (ii 111).toNatClampNeg v8) _ hq4) ?_
      show Ev Γ m_R_twitchOf 271 [some (vr 12 0 80), some (vr 20 n1 o1), some (vi v2), some (vi v3), none, none, none, none, some (vi v8), some (vi v9)] [] q1 r h'
      refine Ev.blk (pc' := 282) (lv' := [some (vr 12 0 80), some (vr 20 n1 o1), some (vi v2), some (vi v3), none, none, none, some (vi (q1.1 80 14)), some (vi v8), some (vi v9)]) (st' := [vi (q1.1 80 14), vi (ii 99), vi (ii 0)]) (h' := q1) 148 6 (Nat.le_of_ble_eq_true rfl) tk_R_twitchOf rfl rfl ⟨trivial, trivial, trivial, trivial, trivial, trivial, trivial⟩ ?_
      refine Ev.mmin (rest := [vi (ii 0)]) 154 tk_R_twitchOf rfl lk_12_356 (by decide) (Nat.le_of_ble_eq_true rfl) ?_
      show Ev Γ m_R_twitchOf 285 [some (vr 12 0 80), some (vr 20 n1 o1), some (vi v2), some (vi v3), none, none, none, some (vi (q1.1 80 14)), some (vi v8), some (vi v9)] [vi (p_Math_min (ii 99) (q1.1 80 14)), vi (ii 0)] q1 r h'
      refine Ev.mmax (rest := []) 155 tk_R_twitchOf rfl lk_12_368 (by decide) (Nat.le_of_ble_eq_true rfl) ?_
      show Ev Γ m_R_twitchOf 288 [some (vr 12 0 80), some (vr 20 n1 o1), some (vi v2), some (vi v3), none, none, none, some (vi (q1.1 80 14)), some (vi v8), some (vi v9)] [vi (p_Math_max (ii 0) (p_Math_min (ii 99) (q1.1 80 14)))] q1 r h'
      obtain rfl := Option.some.inj hx
      obtain ⟨rfl, rfl⟩ := hP
      exact Ev.iret 156 tk_R_twitchOf rfl rfl
    · replace hx := ia hc1 hx
      refine Ev.blk (pc' := 210) (lv' := [some (vr 12 0 80), some (vr 20 n1 o1), some (vi v2), some (vi v3), none, none, none, none, some (vi v8), some (vi v9)]) (st' := [vi v2, vi v9, vi v8]) (h' := h) 112 3 (Nat.le_of_ble_eq_true rfl) tk_R_twitchOf rfl rfl ⟨trivial, trivial, trivial, trivial⟩ ?_
      obtain ⟨q2, hq5, hx⟩ := bd hx
      have K6 : Ev Γ m_R_twitchOf 228 [some (vr 12 0 80), some (vr 20 n1 o1), some (vi v2), some (vi v3), none, none, none, none, none, some (vi v9)] [vi q2, vi v8] h r h' := by
        refine Ev.blk (pc' := 196) (lv' := [some (vr 12 0 80), some (vr 20 n1 o1), some (vi v2), some (vi v3), none, none, none, none, some (vi (v8 + q2)), some (vi (v9 + ii 1))]) (st' := []) (h' := h) 126 4 (Nat.le_of_ble_eq_true rfl) tk_R_twitchOf rfl rfl ⟨trivial, trivial, trivial, trivial, trivial⟩ ?_
        exact Ev.msk [true, true, true, true, false, false, false, false, true, true] (ih n1 o1 v2 v3 (v8 + q2) (v9 + ii 1) h _ hx r h' hP)
      clear hx
      refine Ev.icmp_eq 115 227 tk_R_twitchOf rfl (by decide) (fun hc7 => ?_) (fun hc7 => ?_)
      · replace hq5 := ip hc7 hq5
        refine Ev.blk (pc' := 228) (lv' := [some (vr 12 0 80), some (vr 20 n1 o1), some (vi v2), some (vi v3), none, none, none, none, some (vi v8), some (vi v9)]) (st' := [vi (ii 0), vi v8]) (h' := h) 125 1 (Nat.le_of_ble_eq_true rfl) tk_R_twitchOf rfl rfl ⟨trivial, trivial⟩ ?_
        obtain rfl := Option.some.inj hq5
        exact Ev.msk [true, true, true, true, false, false, false, false, false, true] K6
      · replace hq5 := ia hc7 hq5
        obtain ⟨hg8, hq5⟩ := gd hq5
        refine Ev.blk (pc' := 220) (lv' := [some (vr 12 0 80), some (vr 20 n1 o1), some (vi v2), some (vi v3), none, none, none, none, some (vi v8), some (vi v9)]) (st' := [vi v3, vi (h.1 o1 ((ii 2) * v9).toNatClampNeg), vi v8]) (h' := h) 116 6 (Nat.le_of_ble_eq_true rfl) tk_R_twitchOf rfl rfl ⟨trivial, trivial, trivial, trivial, hg8, trivial, trivial⟩ ?_
        refine Ev.icmp_ne 122 227 tk_R_twitchOf rfl (by decide) (fun hc9 => ?_) (fun hc9 => ?_)
        · replace hq5 := ia hc9 hq5
          refine Ev.blk (pc' := 228) (lv' := [some (vr 12 0 80), some (vr 20 n1 o1), some (vi v2), some (vi v3), none, none, none, none, some (vi v8), some (vi v9)]) (st' := [vi (ii 0), vi v8]) (h' := h) 125 1 (Nat.le_of_ble_eq_true rfl) tk_R_twitchOf rfl rfl ⟨trivial, trivial⟩ ?_
          obtain rfl := Option.some.inj hq5
          exact Ev.msk [true, true, true, true, false, false, false, false, false, true] K6
        · replace hq5 := ip hc9 hq5
          refine Ev.blk (pc' := 228) (lv' := [some (vr 12 0 80), some (vr 20 n1 o1), some (vi v2), some (vi v3), none, none, none, none, some (vi v8), some (vi v9)]) (st' := [vi (ii 1), vi v8]) (h' := h) 123 2 (Nat.le_of_ble_eq_true rfl) tk_R_twitchOf rfl rfl ⟨trivial, trivial, trivial⟩ ?_
          obtain rfl := Option.some.inj hq5
          exact Ev.msk [true, true, true, true, false, false, false, false, false, true] K6
set_option maxRecDepth 4000 in
theorem s_R_twitchOf (Γ : AG) (n1 : Nat) (o1 : Nat) (a2 : Int32) (a3 : Int32) (h : AH) (x : Int32 × AH) (hx : f_R_twitchOf n1 o1 a2 a3 h = some x) : MetA Γ m_R_twitchOf [vr 12 0 80, vr 20 n1 o1, vi a2, vi a3] h (some (vi x.1)) x.2 := by
  refine Ev.met rfl rfl (Nat.le_of_ble_eq_true rfl) ?_
  show Ev Γ m_R_twitchOf 0 [some (vr 12 0 80), some (vr 20 n1 o1), some (vi a2), some (vi a3), none, none, none, none, none, none] [] h _ _
  obtain ⟨r, hr⟩ : ∃ r : Option AV, r = some (vi x.1) := ⟨_, rfl⟩
  obtain ⟨h', hh⟩ : ∃ h' : AH, h' = x.2 := ⟨_, rfl⟩
  have hP : r = some (vi x.1) ∧ h' = x.2 := ⟨hr, hh⟩
  suffices hS : Ev Γ m_R_twitchOf 0 [some (vr 12 0 80), some (vr 20 n1 o1), some (vi a2), some (vi a3), none, none, none, none, none, none] [] h r h' by rw [hr, hh] at hS; exact hS
  clear hr hh
  unfold f_R_twitchOf at hx
  obtain ⟨hg1, hx⟩ := gd hx
  refine Ev.blk (pc' := 6) (lv' := [some (vr 12 0 80), some (vr 20 n1 o1), some (vi a2), some (vi a3), none, none, none, none, none, none]) (st' := [vi (h.1 o1 (ii 45).toNatClampNeg), vi a3, vr 12 0 80]) (h' := h) 0 5 (Nat.le_of_ble_eq_true rfl) tk_R_twitchOf rfl rfl ⟨trivial, trivial, trivial, trivial, hg1, trivial⟩ ?_
  obtain ⟨q1, hq2, hx⟩ := bd hx
  refine Ev.callV (ν := m_R_depthOf) (av := [vi a3, vi (h.1 o1 (ii 45).toNatClampNeg)]) (rest := []) (r1 := some (vi q1)) (h1 := h) (ci := 12) (nn := 0) (o := 80) 5 2 tk_R_twitchOf rfl bb_R_depthOf vv_R_depthOf lk_12_362 (by decide) rfl rfl (Or.inl rfl) (Nat.le_of_ble_eq_true rfl) (s_R_depthOf Γ a3 (h.1 o1 (ii 45).toNatClampNeg) h _ hq2) ?_
  show Ev Γ m_R_twitchOf 9 [some (vr 12 0 80), some (vr 20 n1 o1), some (vi a2), some (vi a3), none, none, none, none, none, none] [vi q1] h r h'
  refine Ev.blk (pc' := 13) (lv' := [some (vr 12 0 80), some (vr 20 n1 o1), some (vi a2), some (vi a3), some (vi q1), none, none, none, none, none]) (st' := [vi a3, vr 12 0 80]) (h' := h) 6 3 (Nat.le_of_ble_eq_true rfl) tk_R_twitchOf rfl rfl ⟨trivial, trivial, trivial, trivial⟩ ?_
  obtain ⟨q2, hq3, hx⟩ := bd hx
  refine Ev.callV (ν := m_R_ironAt) (av := [vi a3]) (rest := []) (r1 := some (vi q2)) (h1 := h) (ci := 12) (nn := 0) (o := 80) 9 1 tk_R_twitchOf rfl bb_R_ironAt vv_R_ironAt lk_12_365 (by decide) rfl rfl (Or.inl rfl) (Nat.le_of_ble_eq_true rfl) (s_R_ironAt Γ a3 h _ hq3) ?_
  show Ev Γ m_R_twitchOf 16 [some (vr 12 0 80), some (vr 20 n1 o1), some (vi a2), some (vi a3), some (vi q1), none, none, none, none, none] [vi q2] h r h'
  refine Ev.blk (pc' := 21) (lv' := [some (vr 12 0 80), some (vr 20 n1 o1), some (vi a2), some (vi a3), some (vi q1), some (vi q2), none, none, none, none]) (st' := [vi (ii 3), vi a2, vr 12 0 80]) (h' := h) 10 4 (Nat.le_of_ble_eq_true rfl) tk_R_twitchOf rfl rfl ⟨trivial, trivial, trivial, trivial, trivial⟩ ?_
  obtain ⟨q3, hq4, hx⟩ := bd hx
  refine Ev.callV (ν := m_R_told) (av := [vi a2, vi (ii 3)]) (rest := []) (r1 := some (vi q3)) (h1 := h) (ci := 12) (nn := 0) (o := 80) 14 2 tk_R_twitchOf rfl bb_R_told vv_R_told lk_12_338 (by decide) rfl rfl (Or.inl rfl) (Nat.le_of_ble_eq_true rfl) (s_R_told Γ a2 (ii 3) h _ hq4) ?_
  show Ev Γ m_R_twitchOf 24 [some (vr 12 0 80), some (vr 20 n1 o1), some (vi a2), some (vi a3), some (vi q1), some (vi q2), none, none, none, none] [vi q3] h r h'
  refine Ev.blk (pc' := 25) (lv' := [some (vr 12 0 80), some (vr 20 n1 o1), some (vi a2), some (vi a3), some (vi q1), some (vi q2), none, none, none, none]) (st' := [vi a3, vi q3]) (h' := h) 15 1 (Nat.le_of_ble_eq_true rfl) tk_R_twitchOf rfl rfl ⟨trivial, trivial⟩ ?_
  have K5 : ∀ v5_0 : Int32, v5_0 = (if q3 = a3 then (ii 1) else (ii 0)) → Ev Γ m_R_twitchOf 33 [some (vr 12 0 80), some (vr 20 n1 o1), some (vi a2), some (vi a3), some (vi q1), some (vi q2), none, none, none, none] [vi v5_0] h r h' := by
    intro v5_0 e6
    subst e6
    refine Ev.blk (pc' := 41) (lv' := [some (vr 12 0 80), some (vr 20 n1 o1), some (vi a2), some (vi a3), some (vi q1), some (vi q2), some (vi (if q3 = a3 then (ii 1) else (ii 0))), some (vi (ii 0)), none, none]) (st' := [vi (ii (-1)), vi q1]) (h' := h) 20 5 (Nat.le_of_ble_eq_true rfl) tk_R_twitchOf rfl rfl ⟨trivial, trivial, trivial, trivial, trivial, trivial⟩ ?_
    obtain ⟨q5, hq7, hx⟩ := bd hx
    have K8 : Ev Γ m_R_twitchOf 62 [some (vr 12 0 80), some (vr 20 n1 o1), some (vi a2), some (vi a3), some (vi q1), some (vi q2), some (vi (if q3 = a3 then (ii 1) else (ii 0))), some (vi q5), none, none] [] h r h' := by
      refine Ev.blk (pc' := 65) (lv' := [some (vr 12 0 80), some (vr 20 n1 o1), some (vi a2), some (vi a3), some (vi q1), some (vi q2), some (vi (if q3 = a3 then (ii 1) else (ii 0))), some (vi q5), none, none]) (st' := [vi (ii (-1)), vi q2]) (h' := h) 37 2 (Nat.le_of_ble_eq_true rfl) tk_R_twitchOf rfl rfl ⟨trivial, trivial, trivial⟩ ?_
      obtain ⟨q7, hq9, hx⟩ := bd hx
      have K10 : Ev Γ m_R_twitchOf 88 [some (vr 12 0 80), some (vr 20 n1 o1), some (vi a2), some (vi a3), some (vi q1), some (vi q2), some (vi (if q3 = a3 then (ii 1) else (ii 0))), some (vi q7), none, none] [] h r h' := by
        refine Ev.blk (pc' := 90) (lv' := [some (vr 12 0 80), some (vr 20 n1 o1), some (vi a2), some (vi a3), some (vi q1), some (vi q2), some (vi (if q3 = a3 then (ii 1) else (ii 0))), some (vi q7), none, none]) (st' := [vi (if q3 = a3 then (ii 1) else (ii 0))]) (h' := h) 50 1 (Nat.le_of_ble_eq_true rfl) tk_R_twitchOf rfl rfl ⟨trivial, trivial⟩ ?_
        have K11 : ∀ v11_0 : Int32, v11_0 = (if (if q3 = a3 then (ii 1) else (ii 0)) = 0 then q7 else (p_Math_max q7 (ii 5))) → Ev Γ m_R_twitchOf 101 [some (vr 12 0 80), some (vr 20 n1 o1), some (vi a2), some (vi a3), some (vi q1), some (vi q2), some (vi (if q3 = a3 then (ii 1) else (ii 0))), some (vi v11_0), none, none] [] h r h' := by
          intro v11_0 e12
          subst e12
          refine Ev.blk (pc' := 106) (lv' := [some (vr 12 0 80), some (vr 20 n1 o1), some (vi a2), some (vi a3), some (vi q1), some (vi q2), some (vi (if q3 = a3 then (ii 1) else (ii 0))), some (vi (if (if q3 = a3 then (ii 1) else (ii 0)) = 0 then q7 else (p_Math_max q7 (ii 5)))), none, none]) (st' := [vi (ii (-1)), vi (h.1 80 43)]) (h' := h) 56 3 (Nat.le_of_ble_eq_true rfl) tk_R_twitchOf rfl rfl ⟨trivial, trivial, trivial, trivial⟩ ?_
          refine Ev.icmp_eq 59 277 tk_R_twitchOf rfl (by decide) (fun hc13 => ?_) (fun hc13 => ?_)
          · replace hx := ip hc13 hx
            refine Ev.blk (pc' := 282) (lv' := [some (vr 12 0 80), some (vr 20 n1 o1), some (vi a2), some (vi a3), some (vi q1), some (vi q2), some (vi (if q3 = a3 then (ii 1) else (ii 0))), some (vi (if (if q3 = a3 then (ii 1) else (ii 0)) = 0 then q7 else (p_Math_max q7 (ii 5)))), none, none]) (st' := [vi (if (if q3 = a3 then (ii 1) else (ii 0)) = 0 then q7 else (p_Math_max q7 (ii 5))), vi (ii 99), vi (ii 0)]) (h' := h) 151 3 (Nat.le_of_ble_eq_true rfl) tk_R_twitchOf rfl rfl ⟨trivial, trivial, trivial, trivial⟩ ?_
            refine Ev.mmin (rest := [vi (ii 0)]) 154 tk_R_twitchOf rfl lk_12_356 (by decide) (Nat.le_of_ble_eq_true rfl) ?_
            show Ev Γ m_R_twitchOf 285 [some (vr 12 0 80), some (vr 20 n1 o1), some (vi a2), some (vi a3), some (vi q1), some (vi q2), some (vi (if q3 = a3 then (ii 1) else (ii 0))), some (vi (if (if q3 = a3 then (ii 1) else (ii 0)) = 0 then q7 else (p_Math_max q7 (ii 5)))), none, none] [vi (p_Math_min (ii 99) (if (if q3 = a3 then (ii 1) else (ii 0)) = 0 then q7 else (p_Math_max q7 (ii 5)))), vi (ii 0)] h r h'
            refine Ev.mmax (rest := []) 155 tk_R_twitchOf rfl lk_12_368 (by decide) (Nat.le_of_ble_eq_true rfl) ?_
            show Ev Γ m_R_twitchOf 288 [some (vr 12 0 80), some (vr 20 n1 o1), some (vi a2), some (vi a3), some (vi q1), some (vi q2), some (vi (if q3 = a3 then (ii 1) else (ii 0))), some (vi (if (if q3 = a3 then (ii 1) else (ii 0)) = 0 then q7 else (p_Math_max q7 (ii 5)))), none, none] [vi (p_Math_max (ii 0) (p_Math_min (ii 99) (if (if q3 = a3 then (ii 1) else (ii 0)) = 0 then q7 else (p_Math_max q7 (ii 5)))))] h r h'
            obtain rfl := Option.some.inj hx
            obtain ⟨rfl, rfl⟩ := hP
            exact Ev.iret 156 tk_R_twitchOf rfl rfl
          · replace hx := ia hc13 hx
            refine Ev.blk (pc' := 118) (lv' := [some (vr 12 0 80), some (vr 20 n1 o1), some (vi a2), some (vi a3), some (vi q1), some (vi q2), some (vi (if q3 = a3 then (ii 1) else (ii 0))), some (vi (if (if q3 = a3 then (ii 1) else (ii 0)) = 0 then q7 else (p_Math_max q7 (ii 5)))), none, none]) (st' := [vi (ii (-1)), vi q1, vi (ii 100), vr 20 128 84]) (h' := h) 60 5 (Nat.le_of_ble_eq_true rfl) tk_R_twitchOf rfl rfl ⟨trivial, trivial, trivial, trivial, trivial, trivial⟩ ?_
            have K14 : ∀ v14_0 : Int32, v14_0 = (if q1 = (ii (-1)) then (ii 99) else q1) → Ev Γ m_R_twitchOf 128 [some (vr 12 0 80), some (vr 20 n1 o1), some (vi a2), some (vi a3), none, some (vi q2), some (vi (if q3 = a3 then (ii 1) else (ii 0))), none, none, none] [vi v14_0, vi (ii 100), vr 20 128 84] h r h' := by
              intro v14_0 e15
              subst e15
              obtain ⟨hg16, hx⟩ := gd hx
              refine Ev.blk (pc' := 138) (lv' := [some (vr 12 0 80), some (vr 20 n1 o1), some (vi a2), some (vi a3), none, some (vi q2), some (vi (if q3 = a3 then (ii 1) else (ii 0))), none, none, none]) (st' := [vi (ii 1), vi a2, vr 12 0 80, vi (ii 109), vr 20 128 84]) (h' := (wI h 84 (ii 100).toNatClampNeg (if q1 = (ii (-1)) then (ii 99) else q1))) 69 7 (Nat.le_of_ble_eq_true rfl) tk_R_twitchOf rfl rfl ⟨hg16, trivial, trivial, trivial, trivial, trivial, trivial, trivial⟩ ?_
              obtain ⟨q8, hq17, hx⟩ := bd hx
              refine Ev.callV (ν := m_R_told) (av := [vi a2, vi (ii 1)]) (rest := [vi (ii 109), vr 20 128 84]) (r1 := some (vi q8)) (h1 := (wI h 84 (ii 100).toNatClampNeg (if q1 = (ii (-1)) then (ii 99) else q1))) (ci := 12) (nn := 0) (o := 80) 76 2 tk_R_twitchOf rfl bb_R_told vv_R_told lk_12_338 (by decide) rfl rfl (Or.inl rfl) (Nat.le_of_ble_eq_true rfl) (s_R_told Γ a2 (ii 1) (wI h 84 (ii 100).toNatClampNeg (if q1 = (ii (-1)) then (ii 99) else q1)) _ hq17) ?_
              show Ev Γ m_R_twitchOf 141 [some (vr 12 0 80), some (vr 20 n1 o1), some (vi a2), some (vi a3), none, some (vi q2), some (vi (if q3 = a3 then (ii 1) else (ii 0))), none, none, none] [vi q8, vi (ii 109), vr 20 128 84] (wI h 84 (ii 100).toNatClampNeg (if q1 = (ii (-1)) then (ii 99) else q1)) r h'
              obtain ⟨hg18, hx⟩ := gd hx
              refine Ev.blk (pc' := 151) (lv' := [some (vr 12 0 80), some (vr 20 n1 o1), some (vi a2), some (vi a3), none, some (vi q2), some (vi (if q3 = a3 then (ii 1) else (ii 0))), none, none, none]) (st' := [vi (ii (-1)), vi q2, vi (ii 105), vr 20 128 84]) (h' := (wI (wI h 84 (ii 100).toNatClampNeg (if q1 = (ii (-1)) then (ii 99) else q1)) 84 (ii 109).toNatClampNeg q8)) 77 6 (Nat.le_of_ble_eq_true rfl) tk_R_twitchOf rfl rfl ⟨hg18, trivial, trivial, trivial, trivial, trivial, trivial⟩ ?_
              have K19 : ∀ v19_0 : Int32, v19_0 = (if q2 = (ii (-1)) then (ii 99) else q2) → Ev Γ m_R_twitchOf 161 [some (vr 12 0 80), some (vr 20 n1 o1), some (vi a2), some (vi a3), none, none, some (vi (if q3 = a3 then (ii 1) else (ii 0))), none, none, none] [vi v19_0, vi (ii 105), vr 20 128 84] (wI (wI h 84 (ii 100).toNatClampNeg (if q1 = (ii (-1)) then (ii 99) else q1)) 84 (ii 109).toNatClampNeg q8) r h' := by
                intro v19_0 e20
                subst e20
                obtain ⟨hg21, hx⟩ := gd hx
                refine Ev.blk (pc' := 170) (lv' := [some (vr 12 0 80), some (vr 20 n1 o1), some (vi a2), some (vi a3), none, none, some (vi (if q3 = a3 then (ii 1) else (ii 0))), none, none, none]) (st' := [vi (if q3 = a3 then (ii 1) else (ii 0)), vi (ii 120), vr 20 128 84]) (h' := (wI (wI (wI h 84 (ii 100).toNatClampNeg (if q1 = (ii (-1)) then (ii 99) else q1)) 84 (ii 109).toNatClampNeg q8) 84 (ii 105).toNatClampNeg (if q2 = (ii (-1)) then (ii 99) else q2))) 87 5 (Nat.le_of_ble_eq_true rfl) tk_R_twitchOf rfl rfl ⟨hg21, trivial, trivial, trivial, trivial, trivial⟩ ?_
                have K22 : ∀ v22_0 : Int32, v22_0 = (if (if q3 = a3 then (ii 1) else (ii 0)) = 0 then (ii 0) else (ii 1)) → Ev Γ m_R_twitchOf 178 [some (vr 12 0 80), some (vr 20 n1 o1), some (vi a2), some (vi a3), none, none, none, none, none, none] [vi v22_0, vi (ii 120), vr 20 128 84] (wI (wI (wI h 84 (ii 100).toNatClampNeg (if q1 = (ii (-1)) then (ii 99) else q1)) 84 (ii 109).toNatClampNeg q8) 84 (ii 105).toNatClampNeg (if q2 = (ii (-1)) then (ii 99) else q2)) r h' := by
                  intro v22_0 e23
                  subst e23
                  obtain ⟨hg24, hx⟩ := gd hx
                  obtain ⟨hg25, hx⟩ := gd hx
                  obtain ⟨hg26, hx⟩ := gd hx
                  refine Ev.blk (pc' := 190) (lv' := [some (vr 12 0 80), some (vr 20 n1 o1), some (vi a2), some (vi a3), none, none, none, none, none, none]) (st' := []) (h' := (wI (wI (wI (wI (wI h 84 (ii 100).toNatClampNeg (if q1 = (ii (-1)) then (ii 99) else q1)) 84 (ii 109).toNatClampNeg q8) 84 (ii 105).toNatClampNeg (if q2 = (ii (-1)) then (ii 99) else q2)) 84 (ii 120).toNatClampNeg (if (if q3 = a3 then (ii 1) else (ii 0)) = 0 then (ii 0) else (ii 1))) 84 (ii 115).toNatClampNeg ((wI (wI (wI (wI h 84 (ii 100).toNatClampNeg (if q1 = (ii (-1)) then (ii 99) else q1)) 84 (ii 109).toNatClampNeg q8) 84 (ii 105).toNatClampNeg (if q2 = (ii (-1)) then (ii 99) else q2)) 84 (ii 120).toNatClampNeg (if (if q3 = a3 then (ii 1) else (ii 0)) = 0 then (ii 0) else (ii 1))).1 o1 (ii 45).toNatClampNeg))) 96 8 (Nat.le_of_ble_eq_true rfl) tk_R_twitchOf rfl rfl ⟨hg24, trivial, trivial, trivial, trivial, trivial, hg25, hg26, trivial⟩ ?_
                  obtain ⟨q9, hq27, hx⟩ := bd hx
                  rw [Option.some.inj hq27]
                  show Ev Γ m_R_twitchOf 190 [some (vr 12 0 80), some (vr 20 n1 o1), some (vi a2), some (vi a3), none, none, none, none, none, none] [] q9 r h'
                  refine Ev.blk (pc' := 196) (lv' := [some (vr 12 0 80), some (vr 20 n1 o1), some (vi a2), some (vi a3), none, none, none, none, some (vi (ii 1)), some (vi (ii 0))]) (st' := []) (h' := q9) 104 4 (Nat.le_of_ble_eq_true rfl) tk_R_twitchOf rfl rfl ⟨trivial, trivial, trivial, trivial, trivial⟩ ?_
                  refine Ev.msk [true, true, true, true, false, false, false, false, true, true] ?_
                  show Ev Γ m_R_twitchOf 196 [some (vr 12 0 80), some (vr 20 n1 o1), some (vi a2), some (vi a3), none, none, none, none, some (vi (ii 1)), some (vi (ii 0))] [] q9 r h'
                  exact l_R_twitchOf_L196 Γ FU n1 o1 a2 a3 (ii 1) (ii 0) q9 _ hx r h' hP
                refine Ev.if_eq 92 177 tk_R_twitchOf rfl (by decide) (fun hc28 => ?_) (fun hc28 => ?_)
                · refine Ev.blk (pc' := 178) (lv' := [some (vr 12 0 80), some (vr 20 n1 o1), some (vi a2), some (vi a3), none, none, some (vi (if q3 = a3 then (ii 1) else (ii 0))), none, none, none]) (st' := [vi (ii 0), vi (ii 120), vr 20 128 84]) (h' := (wI (wI (wI h 84 (ii 100).toNatClampNeg (if q1 = (ii (-1)) then (ii 99) else q1)) 84 (ii 109).toNatClampNeg q8) 84 (ii 105).toNatClampNeg (if q2 = (ii (-1)) then (ii 99) else q2))) 95 1 (Nat.le_of_ble_eq_true rfl) tk_R_twitchOf rfl rfl ⟨trivial, trivial⟩ ?_
                  exact Ev.msk [true, true, true, true, false, false, false, false, false, false] (K22 _ (by first | rfl | simp only [if_pos hc28]))
                · refine Ev.blk (pc' := 178) (lv' := [some (vr 12 0 80), some (vr 20 n1 o1), some (vi a2), some (vi a3), none, none, some (vi (if q3 = a3 then (ii 1) else (ii 0))), none, none, none]) (st' := [vi (ii 1), vi (ii 120), vr 20 128 84]) (h' := (wI (wI (wI h 84 (ii 100).toNatClampNeg (if q1 = (ii (-1)) then (ii 99) else q1)) 84 (ii 109).toNatClampNeg q8) 84 (ii 105).toNatClampNeg (if q2 = (ii (-1)) then (ii 99) else q2))) 93 2 (Nat.le_of_ble_eq_true rfl) tk_R_twitchOf rfl rfl ⟨trivial, trivial, trivial⟩ ?_
                  exact Ev.msk [true, true, true, true, false, false, false, false, false, false] (K22 _ (by first | rfl | simp only [if_neg hc28]))
              refine Ev.icmp_ne 83 159 tk_R_twitchOf rfl (by decide) (fun hc29 => ?_) (fun hc29 => ?_)
              · refine Ev.blk (pc' := 161) (lv' := [some (vr 12 0 80), some (vr 20 n1 o1), some (vi a2), some (vi a3), none, some (vi q2), some (vi (if q3 = a3 then (ii 1) else (ii 0))), none, none, none]) (st' := [vi q2, vi (ii 105), vr 20 128 84]) (h' := (wI (wI h 84 (ii 100).toNatClampNeg (if q1 = (ii (-1)) then (ii 99) else q1)) 84 (ii 109).toNatClampNeg q8)) 86 1 (Nat.le_of_ble_eq_true rfl) tk_R_twitchOf rfl rfl ⟨trivial, trivial⟩ ?_
                exact Ev.msk [true, true, true, true, false, false, true, false, false, false] (K19 _ (by first | rfl | simp only [if_neg hc29]))
              · refine Ev.blk (pc' := 161) (lv' := [some (vr 12 0 80), some (vr 20 n1 o1), some (vi a2), some (vi a3), none, some (vi q2), some (vi (if q3 = a3 then (ii 1) else (ii 0))), none, none, none]) (st' := [vi (ii 99), vi (ii 105), vr 20 128 84]) (h' := (wI (wI h 84 (ii 100).toNatClampNeg (if q1 = (ii (-1)) then (ii 99) else q1)) 84 (ii 109).toNatClampNeg q8)) 84 2 (Nat.le_of_ble_eq_true rfl) tk_R_twitchOf rfl rfl ⟨trivial, trivial, trivial⟩ ?_
                exact Ev.msk [true, true, true, true, false, false, true, false, false, false] (K19 _ (by first | rfl | simp only [if_pos hc29]))
            refine Ev.icmp_ne 65 126 tk_R_twitchOf rfl (by decide) (fun hc30 => ?_) (fun hc30 => ?_)
            · refine Ev.blk (pc' := 128) (lv' := [some (vr 12 0 80), some (vr 20 n1 o1), some (vi a2), some (vi a3), some (vi q1), some (vi q2), some (vi (if q3 = a3 then (ii 1) else (ii 0))), some (vi (if (if q3 = a3 then (ii 1) else (ii 0)) = 0 then q7 else (p_Math_max q7 (ii 5)))), none, none]) (st' := [vi q1, vi (ii 100), vr 20 128 84]) (h' := h) 68 1 (Nat.le_of_ble_eq_true rfl) tk_R_twitchOf rfl rfl ⟨trivial, trivial⟩ ?_
              exact Ev.msk [true, true, true, true, false, true, true, false, false, false] (K14 _ (by first | rfl | simp only [if_neg hc30]))
            · refine Ev.blk (pc' := 128) (lv' := [some (vr 12 0 80), some (vr 20 n1 o1), some (vi a2), some (vi a3), some (vi q1), some (vi q2), some (vi (if q3 = a3 then (ii 1) else (ii 0))), some (vi (if (if q3 = a3 then (ii 1) else (ii 0)) = 0 then q7 else (p_Math_max q7 (ii 5)))), none, none]) (st' := [vi (ii 99), vi (ii 100), vr 20 128 84]) (h' := h) 66 2 (Nat.le_of_ble_eq_true rfl) tk_R_twitchOf rfl rfl ⟨trivial, trivial, trivial⟩ ?_
              exact Ev.msk [true, true, true, true, false, true, true, false, false, false] (K14 _ (by first | rfl | simp only [if_pos hc30]))
        refine Ev.if_eq 51 101 tk_R_twitchOf rfl (by decide) (fun hc31 => ?_) (fun hc31 => ?_)
        · exact Ev.msk [true, true, true, true, true, true, true, true, false, false] (K11 _ (by first | rfl | simp only [if_pos hc31]))
        · refine Ev.blk (pc' := 96) (lv' := [some (vr 12 0 80), some (vr 20 n1 o1), some (vi a2), some (vi a3), some (vi q1), some (vi q2), some (vi (if q3 = a3 then (ii 1) else (ii 0))), some (vi q7), none, none]) (st' := [vi (ii 5), vi q7]) (h' := h) 52 2 (Nat.le_of_ble_eq_true rfl) tk_R_twitchOf rfl rfl ⟨trivial, trivial, trivial⟩ ?_
          refine Ev.mmax (rest := []) 54 tk_R_twitchOf rfl lk_12_368 (by decide) (Nat.le_of_ble_eq_true rfl) ?_
          show Ev Γ m_R_twitchOf 99 [some (vr 12 0 80), some (vr 20 n1 o1), some (vi a2), some (vi a3), some (vi q1), some (vi q2), some (vi (if q3 = a3 then (ii 1) else (ii 0))), some (vi q7), none, none] [vi (p_Math_max q7 (ii 5))] h r h'
          refine Ev.blk (pc' := 101) (lv' := [some (vr 12 0 80), some (vr 20 n1 o1), some (vi a2), some (vi a3), some (vi q1), some (vi q2), some (vi (if q3 = a3 then (ii 1) else (ii 0))), some (vi (p_Math_max q7 (ii 5))), none, none]) (st' := []) (h' := h) 55 1 (Nat.le_of_ble_eq_true rfl) tk_R_twitchOf rfl rfl ⟨trivial, trivial⟩ ?_
          exact Ev.msk [true, true, true, true, true, true, true, true, false, false] (K11 _ (by first | rfl | simp only [if_neg hc31]))
      clear hx
      refine Ev.icmp_eq 39 88 tk_R_twitchOf rfl (by decide) (fun hc32 => ?_) (fun hc32 => ?_)
      · replace hq9 := ip hc32 hq9
        obtain rfl := Option.some.inj hq9
        exact Ev.msk [true, true, true, true, true, true, true, true, false, false] K10
      · replace hq9 := ia hc32 hq9
        refine Ev.blk (pc' := 73) (lv' := [some (vr 12 0 80), some (vr 20 n1 o1), some (vi a2), some (vi a3), some (vi q1), some (vi q2), some (vi (if q3 = a3 then (ii 1) else (ii 0))), some (vi q5), none, none]) (st' := [vi (ii 2), vi a2, vr 12 0 80, vi q2]) (h' := h) 40 4 (Nat.le_of_ble_eq_true rfl) tk_R_twitchOf rfl rfl ⟨trivial, trivial, trivial, trivial, trivial⟩ ?_
        obtain ⟨q6, hq33, hq9⟩ := bd hq9
        refine Ev.callV (ν := m_R_told) (av := [vi a2, vi (ii 2)]) (rest := [vi q2]) (r1 := some (vi q6)) (h1 := h) (ci := 12) (nn := 0) (o := 80) 44 2 tk_R_twitchOf rfl bb_R_told vv_R_told lk_12_338 (by decide) rfl rfl (Or.inl rfl) (Nat.le_of_ble_eq_true rfl) (s_R_told Γ a2 (ii 2) h _ hq33) ?_
        show Ev Γ m_R_twitchOf 76 [some (vr 12 0 80), some (vr 20 n1 o1), some (vi a2), some (vi a3), some (vi q1), some (vi q2), some (vi (if q3 = a3 then (ii 1) else (ii 0))), some (vi q5), none, none] [vi q6, vi q2] h r h'
        refine Ev.icmp_gt 45 88 tk_R_twitchOf rfl (by decide) (fun hc34 => ?_) (fun hc34 => ?_)
        · replace hq9 := ip hc34 hq9
          obtain rfl := Option.some.inj hq9
          exact Ev.msk [true, true, true, true, true, true, true, true, false, false] K10
        · replace hq9 := ia hc34 hq9
          refine Ev.blk (pc' := 83) (lv' := [some (vr 12 0 80), some (vr 20 n1 o1), some (vi a2), some (vi a3), some (vi q1), some (vi q2), some (vi (if q3 = a3 then (ii 1) else (ii 0))), some (vi q5), none, none]) (st' := [vi (ii 10), vi q5]) (h' := h) 46 2 (Nat.le_of_ble_eq_true rfl) tk_R_twitchOf rfl rfl ⟨trivial, trivial, trivial⟩ ?_
          refine Ev.mmax (rest := []) 48 tk_R_twitchOf rfl lk_12_368 (by decide) (Nat.le_of_ble_eq_true rfl) ?_
          show Ev Γ m_R_twitchOf 86 [some (vr 12 0 80), some (vr 20 n1 o1), some (vi a2), some (vi a3), some (vi q1), some (vi q2), some (vi (if q3 = a3 then (ii 1) else (ii 0))), some (vi q5), none, none] [vi (p_Math_max q5 (ii 10))] h r h'
          refine Ev.blk (pc' := 88) (lv' := [some (vr 12 0 80), some (vr 20 n1 o1), some (vi a2), some (vi a3), some (vi q1), some (vi q2), some (vi (if q3 = a3 then (ii 1) else (ii 0))), some (vi (p_Math_max q5 (ii 10))), none, none]) (st' := []) (h' := h) 49 1 (Nat.le_of_ble_eq_true rfl) tk_R_twitchOf rfl rfl ⟨trivial, trivial⟩ ?_
          obtain rfl := Option.some.inj hq9
          exact Ev.msk [true, true, true, true, true, true, true, true, false, false] K10
    clear hx
    refine Ev.icmp_eq 25 62 tk_R_twitchOf rfl (by decide) (fun hc35 => ?_) (fun hc35 => ?_)
    · replace hq7 := ip hc35 hq7
      obtain rfl := Option.some.inj hq7
      exact Ev.msk [true, true, true, true, true, true, true, true, false, false] K8
    · replace hq7 := ia hc35 hq7
      refine Ev.blk (pc' := 49) (lv' := [some (vr 12 0 80), some (vr 20 n1 o1), some (vi a2), some (vi a3), some (vi q1), some (vi q2), some (vi (if q3 = a3 then (ii 1) else (ii 0))), some (vi (ii 0)), none, none]) (st' := [vi (ii 1), vi a2, vr 12 0 80, vi (ii 0)]) (h' := h) 26 4 (Nat.le_of_ble_eq_true rfl) tk_R_twitchOf rfl rfl ⟨trivial, trivial, trivial, trivial, trivial⟩ ?_
      obtain ⟨q4, hq36, hq7⟩ := bd hq7
      refine Ev.callV (ν := m_R_told) (av := [vi a2, vi (ii 1)]) (rest := [vi (ii 0)]) (r1 := some (vi q4)) (h1 := h) (ci := 12) (nn := 0) (o := 80) 30 2 tk_R_twitchOf rfl bb_R_told vv_R_told lk_12_338 (by decide) rfl rfl (Or.inl rfl) (Nat.le_of_ble_eq_true rfl) (s_R_told Γ a2 (ii 1) h _ hq36) ?_
      show Ev Γ m_R_twitchOf 52 [some (vr 12 0 80), some (vr 20 n1 o1), some (vi a2), some (vi a3), some (vi q1), some (vi q2), some (vi (if q3 = a3 then (ii 1) else (ii 0))), some (vi (ii 0)), none, none] [vi q4, vi (ii 0)] h r h'
      refine Ev.blk (pc' := 57) (lv' := [some (vr 12 0 80), some (vr 20 n1 o1), some (vi a2), some (vi a3), some (vi q1), some (vi q2), some (vi (if q3 = a3 then (ii 1) else (ii 0))), some (vi (ii 0)), none, none]) (st' := [vi ((q4 - q1) + (ii 1)), vi (ii 0)]) (h' := h) 31 4 (Nat.le_of_ble_eq_true rfl) tk_R_twitchOf rfl rfl ⟨trivial, trivial, trivial, trivial, trivial⟩ ?_
      refine Ev.mmax (rest := []) 35 tk_R_twitchOf rfl lk_12_368 (by decide) (Nat.le_of_ble_eq_true rfl) ?_
      show Ev Γ m_R_twitchOf 60 [some (vr 12 0 80), some (vr 20 n1 o1), some (vi a2), some (vi a3), some (vi q1), some (vi q2), some (vi (if q3 = a3 then (ii 1) else (ii 0))), some (vi (ii 0)), none, none] [vi (p_Math_max (ii 0) ((q4 - q1) + (ii 1)))] h r h'
      refine Ev.blk (pc' := 62) (lv' := [some (vr 12 0 80), some (vr 20 n1 o1), some (vi a2), some (vi a3), some (vi q1), some (vi q2), some (vi (if q3 = a3 then (ii 1) else (ii 0))), some (vi (p_Math_max (ii 0) ((q4 - q1) + (ii 1)))), none, none]) (st' := []) (h' := h) 36 1 (Nat.le_of_ble_eq_true rfl) tk_R_twitchOf rfl rfl ⟨trivial, trivial⟩ ?_
      obtain rfl := Option.some.inj hq7
      exact Ev.msk [true, true, true, true, true, true, true, true, false, false] K8
  refine Ev.icmp_ne 16 32 tk_R_twitchOf rfl (by decide) (fun hc37 => ?_) (fun hc37 => ?_)
  · refine Ev.blk (pc' := 33) (lv' := [some (vr 12 0 80), some (vr 20 n1 o1), some (vi a2), some (vi a3), some (vi q1), some (vi q2), none, none, none, none]) (st' := [vi (ii 0)]) (h' := h) 19 1 (Nat.le_of_ble_eq_true rfl) tk_R_twitchOf rfl rfl ⟨trivial, trivial⟩ ?_
    exact Ev.msk [true, true, true, true, true, true, false, false, false, false] (K5 _ (by first | rfl | simp only [if_neg hc37]))
  · refine Ev.blk (pc' := 33) (lv' := [some (vr 12 0 80), some (vr 20 n1 o1), some (vi a2), some (vi a3), some (vi q1), some (vi q2), none, none, none, none]) (st' := [vi (ii 1)]) (h' := h) 17 2 (Nat.le_of_ble_eq_true rfl) tk_R_twitchOf rfl rfl ⟨trivial, trivial, trivial⟩ ?_
    exact Ev.msk [true, true, true, true, true, true, false, false, false, false] (K5 _ (by first | rfl | simp only [if_pos hc37]))
set_option maxRecDepth 4000 in
theorem s_R_twitch (Γ : AG) (a1 : Int32) (a2 : Int32) (h : AH) (x : Int32 × AH) (hx : f_R_twitch a1 a2 h = some x) : MetA Γ m_R_twitch [vr 12 0 80, vi a1, vi a2] h (some (vi x.1)) x.2 := by
  refine Ev.met rfl rfl (Nat.le_of_ble_eq_true rfl) ?_
  show Ev Γ m_R_twitch 0 [some (vr 12 0 80), some (vi a1), some (vi a2)] [] h _ _
  obtain ⟨r, hr⟩ : ∃ r : Option AV, r = some (vi x.1) := ⟨_, rfl⟩
  obtain ⟨h', hh⟩ : ∃ h' : AH, h' = x.2 := ⟨_, rfl⟩
  have hP : r = some (vi x.1) ∧ h' = x.2 := ⟨hr, hh⟩
  suffices hS : Ev Γ m_R_twitch 0 [some (vr 12 0 80), some (vi a1), some (vi a2)] [] h r h' by rw [hr, hh] at hS; exact hS
  clear hr hh
  unfold f_R_twitch at hx
  refine Ev.blk (pc' := 7) (lv' := [some (vr 12 0 80), some (vi a1), some (vi a2)]) (st' := [vi a1, vr 12 0 80]) (h' := (wI h 80 0 (ii 0))) 0 5 (Nat.le_of_ble_eq_true rfl) tk_R_twitch rfl rfl ⟨trivial, trivial, trivial, trivial, trivial, trivial⟩ ?_
  refine Ev.callV (ν := m_R_isFork) (av := [vi a1]) (rest := []) (r1 := some (vi (p_R_isFork a1 (wI h 80 0 (ii 0))))) (h1 := (wI h 80 0 (ii 0))) (ci := 12) (nn := 0) (o := 80) 5 1 tk_R_twitch rfl bb_R_isFork vv_R_isFork lk_12_377 (by decide) rfl rfl (Or.inl rfl) (Nat.le_of_ble_eq_true rfl) (s_R_isFork Γ a1 (wI h 80 0 (ii 0))) ?_
  show Ev Γ m_R_twitch 10 [some (vr 12 0 80), some (vi a1), some (vi a2)] [vi (p_R_isFork a1 (wI h 80 0 (ii 0)))] (wI h 80 0 (ii 0)) r h'
  refine Ev.if_eq 6 34 tk_R_twitch rfl (by decide) (fun hc1 => ?_) (fun hc1 => ?_)
  · replace hx := ip hc1 hx
    refine Ev.blk (pc' := 35) (lv' := [some (vr 12 0 80), some (vi a1), some (vi a2)]) (st' := [vi (ii (-1))]) (h' := (wI h 80 0 (ii 0))) 18 1 (Nat.le_of_ble_eq_true rfl) tk_R_twitch rfl rfl ⟨trivial, trivial⟩ ?_
    obtain rfl := Option.some.inj hx
    obtain ⟨rfl, rfl⟩ := hP
    exact Ev.iret 19 tk_R_twitch rfl rfl
  · replace hx := ia hc1 hx
    refine Ev.blk (pc' := 15) (lv' := [some (vr 12 0 80), some (vi a1), some (vi a2)]) (st' := [vi a2, vr 12 0 80]) (h' := (wI h 80 0 (ii 0))) 7 2 (Nat.le_of_ble_eq_true rfl) tk_R_twitch rfl rfl ⟨trivial, trivial, trivial⟩ ?_
    refine Ev.callV (ν := m_R_isCell) (av := [vi a2]) (rest := []) (r1 := some (vi (p_R_isCell a2 (wI h 80 0 (ii 0))))) (h1 := (wI h 80 0 (ii 0))) (ci := 12) (nn := 0) (o := 80) 9 1 tk_R_twitch rfl bb_R_isCell vv_R_isCell lk_12_372 (by decide) rfl rfl (Or.inl rfl) (Nat.le_of_ble_eq_true rfl) (s_R_isCell Γ a2 (wI h 80 0 (ii 0))) ?_
    show Ev Γ m_R_twitch 18 [some (vr 12 0 80), some (vi a1), some (vi a2)] [vi (p_R_isCell a2 (wI h 80 0 (ii 0)))] (wI h 80 0 (ii 0)) r h'
    refine Ev.if_eq 10 34 tk_R_twitch rfl (by decide) (fun hc2 => ?_) (fun hc2 => ?_)
    · replace hx := ip hc2 hx
      refine Ev.blk (pc' := 35) (lv' := [some (vr 12 0 80), some (vi a1), some (vi a2)]) (st' := [vi (ii (-1))]) (h' := (wI h 80 0 (ii 0))) 18 1 (Nat.le_of_ble_eq_true rfl) tk_R_twitch rfl rfl ⟨trivial, trivial⟩ ?_
      obtain rfl := Option.some.inj hx
      obtain ⟨rfl, rfl⟩ := hP
      exact Ev.iret 19 tk_R_twitch rfl rfl
    · replace hx := ia hc2 hx
      refine Ev.blk (pc' := 28) (lv' := [some (vr 12 0 80), some (vi a1), some (vi a2)]) (st' := [vi a2, vi a1, vr 20 227 97, vr 12 0 80]) (h' := (wI h 80 0 (ii 0))) 11 5 (Nat.le_of_ble_eq_true rfl) tk_R_twitch rfl rfl ⟨trivial, trivial, trivial, trivial, trivial, trivial⟩ ?_
      obtain ⟨q1, hq3, hx⟩ := bd hx
      refine Ev.callV (ν := m_R_twitchOf) (av := [vr 20 227 97, vi a1, vi a2]) (rest := []) (r1 := some (vi q1.1)) (h1 := q1.2) (ci := 12) (nn := 0) (o := 80) 16 3 tk_R_twitch rfl bb_R_twitchOf vv_R_twitchOf lk_12_382 (by decide) rfl rfl (Or.inl rfl) (Nat.le_of_ble_eq_true rfl) (s_R_twitchOf Γ 227 97 a1 a2 (wI h 80 0 (ii 0)) _ hq3) ?_
      show Ev Γ m_R_twitch 31 [some (vr 12 0 80), some (vi a1), some (vi a2)] [vi q1.1] q1.2 r h'
      refine Ev.blk (pc' := 35) (lv' := [some (vr 12 0 80), some (vi a1), some (vi a2)]) (st' := [vi q1.1]) (h' := q1.2) 17 1 (Nat.le_of_ble_eq_true rfl) tk_R_twitch rfl rfl ⟨trivial, trivial⟩ ?_
      obtain rfl := Option.some.inj hx
      obtain ⟨rfl, rfl⟩ := hP
      exact Ev.iret 19 tk_R_twitch rfl rfl
set_option maxRecDepth 4000 in
theorem s_R_whereTo (Γ : AG) (n1 : Nat) (o1 : Nat) (a2 : Int32) (a3 : Int32) (h : AH) (x : Int32) (hx : f_R_whereTo n1 o1 a2 a3 h = some x) : MetA Γ m_R_whereTo [vr 12 0 80, vr 20 n1 o1, vi a2, vi a3] h (some (vi x)) h := by
  refine Ev.met rfl rfl (Nat.le_of_ble_eq_true rfl) ?_
  show Ev Γ m_R_whereTo 0 [some (vr 12 0 80), some (vr 20 n1 o1), some (vi a2), some (vi a3), none] [] h _ _
  obtain ⟨r, hr⟩ : ∃ r : Option AV, r = some (vi x) := ⟨_, rfl⟩
  obtain ⟨h', hh⟩ : ∃ h' : AH, h' = h := ⟨_, rfl⟩
  have hP : r = some (vi x) ∧ h' = h := ⟨hr, hh⟩
  suffices hS : Ev Γ m_R_whereTo 0 [some (vr 12 0 80), some (vr 20 n1 o1), some (vi a2), some (vi a3), none] [] h r h' by rw [hr, hh] at hS; exact hS
  clear hr hh
  unfold f_R_whereTo at hx
  refine Ev.blk (pc' := 2) (lv' := [some (vr 12 0 80), some (vr 20 n1 o1), some (vi a2), some (vi a3), none]) (st' := [vi a2, vr 12 0 80]) (h' := h) 0 2 (Nat.le_of_ble_eq_true rfl) tk_R_whereTo rfl rfl ⟨trivial, trivial, trivial⟩ ?_
  refine Ev.callV (ν := m_R_isFork) (av := [vi a2]) (rest := []) (r1 := some (vi (p_R_isFork a2 h))) (h1 := h) (ci := 12) (nn := 0) (o := 80) 2 1 tk_R_whereTo rfl bb_R_isFork vv_R_isFork lk_12_377 (by decide) rfl rfl (Or.inl rfl) (Nat.le_of_ble_eq_true rfl) (s_R_isFork Γ a2 h) ?_
  show Ev Γ m_R_whereTo 5 [some (vr 12 0 80), some (vr 20 n1 o1), some (vi a2), some (vi a3), none] [vi (p_R_isFork a2 h)] h r h'
  refine Ev.if_eq 3 20 tk_R_whereTo rfl (by decide) (fun hc1 => ?_) (fun hc1 => ?_)
  · replace hx := ip hc1 hx
    refine Ev.blk (pc' := 21) (lv' := [some (vr 12 0 80), some (vr 20 n1 o1), some (vi a2), some (vi a3), none]) (st' := [vi (ii (-1))]) (h' := h) 10 1 (Nat.le_of_ble_eq_true rfl) tk_R_whereTo rfl rfl ⟨trivial, trivial⟩ ?_
    obtain rfl := Option.some.inj hx
    obtain ⟨rfl, rfl⟩ := hP
    exact Ev.iret 11 tk_R_whereTo rfl rfl
  · replace hx := ia hc1 hx
    refine Ev.blk (pc' := 14) (lv' := [some (vr 12 0 80), some (vr 20 n1 o1), some (vi a2), some (vi a3), none]) (st' := [vl (Int64.ofInt 3), vl (Int64.ofNat 0), vl a3.toInt64]) (h' := h) 4 4 (Nat.le_of_ble_eq_true rfl) tk_R_whereTo rfl rfl ⟨trivial, trivial, trivial, trivial, trivial⟩ ?_
    refine Ev.callS (ν := m_R_isIn) (av := [vl a3.toInt64, vl (Int64.ofNat 0), vl (Int64.ofInt 3)]) (rest := []) (r1 := some (vi (p_R_isIn a3.toInt64 (Int64.ofNat 0) (Int64.ofInt 3)))) (h1 := h) 8 3 tk_R_whereTo rfl bb_R_isIn vv_R_isIn lk_12_223 (by decide) rfl rfl (Nat.le_of_ble_eq_true rfl) (s_R_isIn Γ a3.toInt64 (Int64.ofNat 0) (Int64.ofInt 3) h) ?_
    show Ev Γ m_R_whereTo 17 [some (vr 12 0 80), some (vr 20 n1 o1), some (vi a2), some (vi a3), none] [vi (p_R_isIn a3.toInt64 (Int64.ofNat 0) (Int64.ofInt 3))] h r h'
    refine Ev.if_ne 9 22 tk_R_whereTo rfl (by decide) (fun hc2 => ?_) (fun hc2 => ?_)
    · replace hx := ia hc2 hx
      obtain ⟨hg3, hx⟩ := gd hx
      refine Ev.blk (pc' := 29) (lv' := [some (vr 12 0 80), some (vr 20 n1 o1), some (vi a2), some (vi a3), none]) (st' := [vi a3, vi (h.1 o1 ((ii 2) * a2).toNatClampNeg), vr 12 0 80]) (h' := h) 12 7 (Nat.le_of_ble_eq_true rfl) tk_R_whereTo rfl rfl ⟨trivial, trivial, trivial, trivial, trivial, hg3, trivial, trivial⟩ ?_
      obtain ⟨q1, hq4, hx⟩ := bd hx
      refine Ev.callV (ν := m_R_stepTo) (av := [vi (h.1 o1 ((ii 2) * a2).toNatClampNeg), vi a3]) (rest := []) (r1 := some (vi q1)) (h1 := h) (ci := 12) (nn := 0) (o := 80) 19 2 tk_R_whereTo rfl bb_R_stepTo vv_R_stepTo lk_12_350 (by decide) rfl rfl (Or.inl rfl) (Nat.le_of_ble_eq_true rfl) (s_R_stepTo Γ (h.1 o1 ((ii 2) * a2).toNatClampNeg) a3 h _ hq4) ?_
      show Ev Γ m_R_whereTo 32 [some (vr 12 0 80), some (vr 20 n1 o1), some (vi a2), some (vi a3), none] [vi q1] h r h'
      refine Ev.blk (pc' := 37) (lv' := [some (vr 12 0 80), some (vr 20 n1 o1), some (vi a2), some (vi a3), some (vi q1)]) (st' := [vi (ii (-1)), vi q1]) (h' := h) 20 3 (Nat.le_of_ble_eq_true rfl) tk_R_whereTo rfl rfl ⟨trivial, trivial, trivial, trivial⟩ ?_
      refine Ev.icmp_eq 23 59 tk_R_whereTo rfl (by decide) (fun hc5 => ?_) (fun hc5 => ?_)
      · replace hx := ip hc5 hx
        refine Ev.blk (pc' := 65) (lv' := [some (vr 12 0 80), some (vr 20 n1 o1), some (vi a2), some (vi a3), some (vi q1)]) (st' := [vi (ii (-1))]) (h' := h) 35 2 (Nat.le_of_ble_eq_true rfl) tk_R_whereTo rfl rfl ⟨trivial, trivial, trivial⟩ ?_
        obtain rfl := Option.some.inj hx
        obtain ⟨rfl, rfl⟩ := hP
        exact Ev.iret 38 tk_R_whereTo rfl rfl
      · replace hx := ia hc5 hx
        refine Ev.blk (pc' := 46) (lv' := [some (vr 12 0 80), some (vr 20 n1 o1), some (vi a2), some (vi a3), some (vi q1)]) (st' := [vi (ii 5), vi a2, vr 12 0 80, vi (ii 13), vr 20 n1 o1]) (h' := h) 24 5 (Nat.le_of_ble_eq_true rfl) tk_R_whereTo rfl rfl ⟨trivial, trivial, trivial, trivial, trivial, trivial⟩ ?_
        obtain ⟨q2, hq6, hx⟩ := bd hx
        refine Ev.callV (ν := m_R_told) (av := [vi a2, vi (ii 5)]) (rest := [vi (ii 13), vr 20 n1 o1]) (r1 := some (vi q2)) (h1 := h) (ci := 12) (nn := 0) (o := 80) 29 2 tk_R_whereTo rfl bb_R_told vv_R_told lk_12_338 (by decide) rfl rfl (Or.inl rfl) (Nat.le_of_ble_eq_true rfl) (s_R_told Γ a2 (ii 5) h _ hq6) ?_
        show Ev Γ m_R_whereTo 49 [some (vr 12 0 80), some (vr 20 n1 o1), some (vi a2), some (vi a3), some (vi q1)] [vi q2, vi (ii 13), vr 20 n1 o1] h r h'
        obtain ⟨hg7, hx⟩ := gd hx
        refine Ev.blk (pc' := 53) (lv' := [some (vr 12 0 80), some (vr 20 n1 o1), some (vi a2), some (vi a3), some (vi q1)]) (st' := [vi q1, vi (h.1 o1 ((ii 13) - q2).toNatClampNeg)]) (h' := h) 30 3 (Nat.le_of_ble_eq_true rfl) tk_R_whereTo rfl rfl ⟨trivial, hg7, trivial, trivial⟩ ?_
        refine Ev.callS (ν := m_R_has) (av := [vi (h.1 o1 ((ii 13) - q2).toNatClampNeg), vi q1]) (rest := []) (r1 := some (vi (p_R_has (h.1 o1 ((ii 13) - q2).toNatClampNeg) q1))) (h1 := h) 33 2 tk_R_whereTo rfl bb_R_has vv_R_has lk_12_235 (by decide) rfl rfl (Nat.le_of_ble_eq_true rfl) (s_R_has Γ (h.1 o1 ((ii 13) - q2).toNatClampNeg) q1 h) ?_
        show Ev Γ m_R_whereTo 56 [some (vr 12 0 80), some (vr 20 n1 o1), some (vi a2), some (vi a3), some (vi q1)] [vi (p_R_has (h.1 o1 ((ii 13) - q2).toNatClampNeg) q1)] h r h'
        refine Ev.if_eq 34 63 tk_R_whereTo rfl (by decide) (fun hc8 => ?_) (fun hc8 => ?_)
        · replace hx := ip hc8 hx
          refine Ev.blk (pc' := 65) (lv' := [some (vr 12 0 80), some (vr 20 n1 o1), some (vi a2), some (vi a3), some (vi q1)]) (st' := [vi q1]) (h' := h) 37 1 (Nat.le_of_ble_eq_true rfl) tk_R_whereTo rfl rfl ⟨trivial, trivial⟩ ?_
          obtain rfl := Option.some.inj hx
          obtain ⟨rfl, rfl⟩ := hP
          exact Ev.iret 38 tk_R_whereTo rfl rfl
        · replace hx := ia hc8 hx
          refine Ev.blk (pc' := 65) (lv' := [some (vr 12 0 80), some (vr 20 n1 o1), some (vi a2), some (vi a3), some (vi q1)]) (st' := [vi (ii (-1))]) (h' := h) 35 2 (Nat.le_of_ble_eq_true rfl) tk_R_whereTo rfl rfl ⟨trivial, trivial, trivial⟩ ?_
          obtain rfl := Option.some.inj hx
          obtain ⟨rfl, rfl⟩ := hP
          exact Ev.iret 38 tk_R_whereTo rfl rfl
    · replace hx := ip hc2 hx
      refine Ev.blk (pc' := 21) (lv' := [some (vr 12 0 80), some (vr 20 n1 o1), some (vi a2), some (vi a3), none]) (st' := [vi (ii (-1))]) (h' := h) 10 1 (Nat.le_of_ble_eq_true rfl) tk_R_whereTo rfl rfl ⟨trivial, trivial⟩ ?_
      obtain rfl := Option.some.inj hx
      obtain ⟨rfl, rfl⟩ := hP
      exact Ev.iret 11 tk_R_whereTo rfl rfl
set_option maxRecDepth 4000 in
theorem l_R_remember_L11 (Γ : AG) : ∀ (n : Nat) (v1 : Int32) (h : AH) (x : AH), R_remember_L11 n v1 h = some x → ∀ (r : Option AV) (h' : AH), Ev Γ m_R_remember 40 [some (vr 12 0 80), none] [] x r h' → Ev Γ m_R_remember 11 [some (vr 12 0 80), some (vi v1)] [] h r h' := by
  intro n
  induction n with
  | zero => intro v1 h x hx; cases hx
  | succ n ih =>
    intro v1 h x hx r h' hP
    replace hx : R_remember_L11_b (R_remember_L11 n) v1 h = some x := hx
    unfold R_remember_L11_b at hx
    refine Ev.blk (pc' := 15) (lv' := [some (vr 12 0 80), some (vi v1)]) (st' := [vi (ii 8853), vi v1]) (h' := h) 6 2 (Nat.le_of_ble_eq_true rfl) tk_R_remember rfl rfl ⟨trivial, trivial, trivial⟩ ?_
    refine Ev.icmp_ge 8 40 tk_R_remember rfl (by decide) (fun hc1 => ?_) (fun hc1 => ?_)
    · replace hx := ip hc1 hx
      obtain rfl := Option.some.inj hx
      exact Ev.msk [true, false] hP
    · replace hx := ia hc1 hx
      obtain ⟨hg2, hx⟩ := gd hx
      obtain ⟨hg3, hx⟩ := gd hx
      refine Ev.blk (pc' := 11) (lv' := [some (vr 12 0 80), some (vi (v1 + ii 1))]) (st' := []) (h' := (wI h 99 v1.toNatClampNeg (h.1 99 (v1 + (ii 227)).toNatClampNeg))) 9 12 (Nat.le_of_ble_eq_true rfl) tk_R_remember rfl rfl ⟨trivial, trivial, trivial, trivial, trivial, trivial, trivial, trivial, hg2, hg3, trivial, trivial, trivial⟩ ?_
      exact Ev.msk [true, true] (ih (v1 + ii 1) (wI h 99 v1.toNatClampNeg (h.1 99 (v1 + (ii 227)).toNatClampNeg)) _ hx r h' hP)
set_option maxRecDepth 4000 in
theorem l_R_remember_L52 (Γ : AG) : ∀ (n : Nat) (v1 : Int32) (h : AH) (x : AH), R_remember_L52 n v1 h = some x → ∀ (r : Option AV) (h' : AH), r = none ∧ h' = x → Ev Γ m_R_remember 52 [some (vr 12 0 80), some (vi v1)] [] h r h' := by
  intro n
  induction n with
  | zero => intro v1 h x hx; cases hx
  | succ n ih =>
    intro v1 h x hx r h' hP
    replace hx : R_remember_L52_b (R_remember_L52 n) v1 h = some x := hx
    unfold R_remember_L52_b at hx
    refine Ev.blk (pc' := 56) (lv' := [some (vr 12 0 80), some (vi v1)]) (st' := [vi (ii 227), vi v1]) (h' := h) 29 2 (Nat.le_of_ble_eq_true rfl) tk_R_remember rfl rfl ⟨trivial, trivial, trivial⟩ ?_
    refine Ev.icmp_ge 31 86 tk_R_remember rfl (by decide) (fun hc1 => ?_) (fun hc1 => ?_)
    · replace hx := ip hc1 hx
      refine Ev.blk (pc' := 96) (lv' := [some (vr 12 0 80), some (vi v1)]) (st' := []) (h' := (wI h 80 45 ((h.1 80 45) + (ii 1)))) 47 6 (Nat.le_of_ble_eq_true rfl) tk_R_remember rfl rfl ⟨trivial, trivial, trivial, trivial, trivial, trivial, trivial⟩ ?_
      obtain rfl := Option.some.inj hx
      obtain ⟨rfl, rfl⟩ := hP
      exact Ev.vret 53 tk_R_remember rfl rfl
    · replace hx := ia hc1 hx
      obtain ⟨hg2, hx⟩ := gd hx
      obtain ⟨hg3, hx⟩ := gd hx
      refine Ev.blk (pc' := 52) (lv' := [some (vr 12 0 80), some (vi (v1 + ii 1))]) (st' := []) (h' := (wI h 99 (((ii 227) * (h.1 80 45)) + v1).toNatClampNeg (h.1 97 (v1).toNatClampNeg))) 32 15 (Nat.le_of_ble_eq_true rfl) tk_R_remember rfl rfl ⟨trivial, trivial, trivial, trivial, trivial, trivial, trivial, trivial, trivial, trivial, trivial, hg2, hg3, trivial, trivial, trivial⟩ ?_
      exact Ev.msk [true, true] (ih (v1 + ii 1) (wI h 99 (((ii 227) * (h.1 80 45)) + v1).toNatClampNeg (h.1 97 (v1).toNatClampNeg)) _ hx r h' hP)
set_option maxRecDepth 4000 in
theorem s_R_remember (Γ : AG) (h : AH) (x : AH) (hx : f_R_remember  h = some x) : MetA Γ m_R_remember [vr 12 0 80] h (none) x := by
  refine Ev.met rfl rfl (Nat.le_of_ble_eq_true rfl) ?_
  show Ev Γ m_R_remember 0 [some (vr 12 0 80), none] [] h _ _
  obtain ⟨r, hr⟩ : ∃ r : Option AV, r = none := ⟨_, rfl⟩
  obtain ⟨h', hh⟩ : ∃ h' : AH, h' = x := ⟨_, rfl⟩
  have hP : r = none ∧ h' = x := ⟨hr, hh⟩
  suffices hS : Ev Γ m_R_remember 0 [some (vr 12 0 80), none] [] h r h' by rw [hr, hh] at hS; exact hS
  clear hr hh
  unfold f_R_remember at hx
  refine Ev.blk (pc' := 6) (lv' := [some (vr 12 0 80), none]) (st' := [vi (ii 40), vi (h.1 80 45)]) (h' := h) 0 3 (Nat.le_of_ble_eq_true rfl) tk_R_remember rfl rfl ⟨trivial, trivial, trivial, trivial⟩ ?_
  obtain ⟨q2, hq1, hx⟩ := bd hx
  have K2 : Ev Γ m_R_remember 50 [some (vr 12 0 80), none] [] q2 r h' := by
    refine Ev.blk (pc' := 52) (lv' := [some (vr 12 0 80), some (vi (ii 0))]) (st' := []) (h' := q2) 27 2 (Nat.le_of_ble_eq_true rfl) tk_R_remember rfl rfl ⟨trivial, trivial, trivial⟩ ?_
    refine Ev.msk [true, true] ?_
    show Ev Γ m_R_remember 52 [some (vr 12 0 80), some (vi (ii 0))] [] q2 r h'
    exact l_R_remember_L52 Γ FU (ii 0) q2 _ hx r h' hP
  clear hx
  refine Ev.icmp_ne 3 50 tk_R_remember rfl (by decide) (fun hc3 => ?_) (fun hc3 => ?_)
  · replace hq1 := ia hc3 hq1
    obtain rfl := Option.some.inj hq1
    exact Ev.msk [true, false] K2
  · replace hq1 := ip hc3 hq1
    refine Ev.blk (pc' := 11) (lv' := [some (vr 12 0 80), some (vi (ii 0))]) (st' := []) (h' := h) 4 2 (Nat.le_of_ble_eq_true rfl) tk_R_remember rfl rfl ⟨trivial, trivial, trivial⟩ ?_
    obtain ⟨q1, hq4, hq1⟩ := bd hq1
    refine Ev.msk [true, true] ?_
    show Ev Γ m_R_remember 11 [some (vr 12 0 80), some (vi (ii 0))] [] h r h'
    refine l_R_remember_L11 Γ FU (ii 0) h _ hq4 r h' ?_
    show Ev Γ m_R_remember 40 [some (vr 12 0 80), none] [] q1 r h'
    refine Ev.blk (pc' := 50) (lv' := [some (vr 12 0 80), none]) (st' := []) (h' := (wI q1 80 45 ((q1.1 80 45) - (ii 1)))) 21 6 (Nat.le_of_ble_eq_true rfl) tk_R_remember rfl rfl ⟨trivial, trivial, trivial, trivial, trivial, trivial, trivial⟩ ?_
    obtain rfl := Option.some.inj hq1
    exact Ev.msk [true, false] K2
set_option maxRecDepth 4000 in
theorem l_R_writes_L12 (Γ : AG) : ∀ (n : Nat) (n0 : Nat) (o0 : Nat) (v1 : Int32) (v2 : Int32) (v3 : Int32) (v4 : Int32) (h : AH) (x : AH), R_writes_L12 n n0 o0 v1 v2 v3 v4 h = some x → ∀ (r : Option AV) (h' : AH), r = none ∧ h' = x → Ev Γ m_R_writes 12 [some (vr 20 n0 o0), some (vi v1), some (vi v2), some (vi v3), some (vi v4)] [] h r h' := by
  intro n
  induction n with
  | zero => intro n0 o0 v1 v2 v3 v4 h x hx; cases hx
  | succ n ih =>
    intro n0 o0 v1 v2 v3 v4 h x hx r h' hP
    replace hx : R_writes_L12_b (R_writes_L12 n) n0 o0 v1 v2 v3 v4 h = some x := hx
    unfold R_writes_L12_b at hx
    refine Ev.blk (pc' := 17) (lv' := [some (vr 20 n0 o0), some (vi v1), some (vi v2), some (vi v3), some (vi v4)]) (st' := [vi (ii 177), vi v4]) (h' := h) 7 2 (Nat.le_of_ble_eq_true rfl) tk_R_writes rfl rfl ⟨trivial, trivial, trivial⟩ ?_
    refine Ev.icmp_gt 9 42 tk_R_writes rfl (by decide) (fun hc1 => ?_) (fun hc1 => ?_)
    · replace hx := ip hc1 hx
      obtain ⟨hg2, hx⟩ := gd hx
      obtain ⟨hg3, hx⟩ := gd hx
      obtain ⟨hg4, hx⟩ := gd hx
      obtain ⟨hg5, hx⟩ := gd hx
      obtain ⟨hg6, hx⟩ := gd hx
      obtain ⟨hg7, hx⟩ := gd hx
      refine Ev.blk (pc' := 80) (lv' := [some (vr 20 n0 o0), some (vi v1), some (vi v2), some (vi v3), some (vi ((ii 47) + ((ii 3) * ((wI h o0 (ii 46).toNatClampNeg ((h.1 o0 (ii 46).toNatClampNeg) - (ii 1))).1 o0 (ii 46).toNatClampNeg))))]) (st' := []) (h' := (wI (wI (wI (wI h o0 (ii 46).toNatClampNeg ((h.1 o0 (ii 46).toNatClampNeg) - (ii 1))) o0 ((ii 47) + ((ii 3) * ((wI h o0 (ii 46).toNatClampNeg ((h.1 o0 (ii 46).toNatClampNeg) - (ii 1))).1 o0 (ii 46).toNatClampNeg))).toNatClampNeg v1) o0 (((ii 47) + ((ii 3) * ((wI h o0 (ii 46).toNatClampNeg ((h.1 o0 (ii 46).toNatClampNeg) - (ii 1))).1 o0 (ii 46).toNatClampNeg))) + (ii 1)).toNatClampNeg v2) o0 (((ii 47) + ((ii 3) * ((wI h o0 (ii 46).toNatClampNeg ((h.1 o0 (ii 46).toNatClampNeg) - (ii 1))).1 o0 (ii 46).toNatClampNeg))) + (ii 2)).toNatClampNeg v3)) 24 31 (Nat.le_of_ble_eq_true rfl) tk_R_writes rfl rfl ⟨trivial, trivial, trivial, hg2, trivial, trivial, hg3, trivial, trivial, trivial, trivial, hg4, trivial, trivial, trivial, trivial, trivial, trivial, hg5, trivial, trivial, trivial, trivial, trivial, hg6, trivial, trivial, trivial, trivial, trivial, hg7, trivial⟩ ?_
      obtain ⟨q1, hq8, hx⟩ := bd hx
      rw [Option.some.inj hq8]
      show Ev Γ m_R_writes 80 [some (vr 20 n0 o0), some (vi v1), some (vi v2), some (vi v3), some (vi ((ii 47) + ((ii 3) * ((wI h o0 (ii 46).toNatClampNeg ((h.1 o0 (ii 46).toNatClampNeg) - (ii 1))).1 o0 (ii 46).toNatClampNeg))))] [] q1 r h'
      obtain ⟨hg9, hx⟩ := gd hx
      obtain ⟨hg10, hx⟩ := gd hx
      refine Ev.blk (pc' := 88) (lv' := [some (vr 20 n0 o0), some (vi v1), some (vi v2), some (vi v3), some (vi ((ii 47) + ((ii 3) * ((wI h o0 (ii 46).toNatClampNeg ((h.1 o0 (ii 46).toNatClampNeg) - (ii 1))).1 o0 (ii 46).toNatClampNeg))))]) (st' := []) (h' := (wI q1 o0 (ii 46).toNatClampNeg ((q1.1 o0 (ii 46).toNatClampNeg) + (ii 1)))) 55 7 (Nat.le_of_ble_eq_true rfl) tk_R_writes rfl rfl ⟨trivial, trivial, trivial, hg9, trivial, trivial, hg10, trivial⟩ ?_
      obtain rfl := Option.some.inj hx
      obtain ⟨rfl, rfl⟩ := hP
      exact Ev.vret 62 tk_R_writes rfl rfl
    · replace hx := ia hc1 hx
      obtain ⟨hg11, hx⟩ := gd hx
      obtain ⟨hg12, hx⟩ := gd hx
      refine Ev.blk (pc' := 12) (lv' := [some (vr 20 n0 o0), some (vi v1), some (vi v2), some (vi v3), some (vi (v4 + ii 1))]) (st' := []) (h' := (wI h o0 ((ii 46) + v4).toNatClampNeg (h.1 o0 (((ii 46) + v4) + (ii 3)).toNatClampNeg))) 10 14 (Nat.le_of_ble_eq_true rfl) tk_R_writes rfl rfl ⟨trivial, trivial, trivial, trivial, trivial, trivial, trivial, trivial, trivial, trivial, hg11, hg12, trivial, trivial, trivial⟩ ?_
      exact Ev.msk [true, true, true, true, true] (ih n0 o0 v1 v2 v3 (v4 + ii 1) (wI h o0 ((ii 46) + v4).toNatClampNeg (h.1 o0 (((ii 46) + v4) + (ii 3)).toNatClampNeg)) _ hx r h' hP)
set_option maxRecDepth 4000 in
theorem s_R_writes (Γ : AG) (n0 : Nat) (o0 : Nat) (a1 : Int32) (a2 : Int32) (a3 : Int32) (h : AH) (x : AH) (hx : f_R_writes n0 o0 a1 a2 a3 h = some x) : MetA Γ m_R_writes [vr 20 n0 o0, vi a1, vi a2, vi a3] h (none) x := by
  refine Ev.met rfl rfl (Nat.le_of_ble_eq_true rfl) ?_
  show Ev Γ m_R_writes 0 [some (vr 20 n0 o0), some (vi a1), some (vi a2), some (vi a3), none] [] h _ _
  obtain ⟨r, hr⟩ : ∃ r : Option AV, r = none := ⟨_, rfl⟩
  obtain ⟨h', hh⟩ : ∃ h' : AH, h' = x := ⟨_, rfl⟩
  have hP : r = none ∧ h' = x := ⟨hr, hh⟩
  suffices hS : Ev Γ m_R_writes 0 [some (vr 20 n0 o0), some (vi a1), some (vi a2), some (vi a3), none] [] h r h' by rw [hr, hh] at hS; exact hS
  clear hr hh
  unfold f_R_writes at hx
  obtain ⟨hg1, hx⟩ := gd hx
  refine Ev.blk (pc' := 6) (lv' := [some (vr 20 n0 o0), some (vi a1), some (vi a2), some (vi a3), none]) (st' := [vi (ii 60), vi (h.1 o0 (ii 46).toNatClampNeg)]) (h' := h) 0 4 (Nat.le_of_ble_eq_true rfl) tk_R_writes rfl rfl ⟨trivial, trivial, hg1, trivial, trivial⟩ ?_
  refine Ev.icmp_ne 4 50 tk_R_writes rfl (by decide) (fun hc2 => ?_) (fun hc2 => ?_)
  · replace hx := ia hc2 hx
    obtain ⟨hg3, hx⟩ := gd hx
    obtain ⟨hg4, hx⟩ := gd hx
    obtain ⟨hg5, hx⟩ := gd hx
    obtain ⟨hg6, hx⟩ := gd hx
    obtain ⟨hg7, hx⟩ := gd hx
    obtain ⟨hg8, hx⟩ := gd hx
    refine Ev.blk (pc' := 88) (lv' := [some (vr 20 n0 o0), some (vi a1), some (vi a2), some (vi a3), some (vi ((ii 47) + ((ii 3) * (h.1 o0 (ii 46).toNatClampNeg))))]) (st' := []) (h' := (wI (wI (wI (wI h o0 ((ii 47) + ((ii 3) * (h.1 o0 (ii 46).toNatClampNeg))).toNatClampNeg a1) o0 (((ii 47) + ((ii 3) * (h.1 o0 (ii 46).toNatClampNeg))) + (ii 1)).toNatClampNeg a2) o0 (((ii 47) + ((ii 3) * (h.1 o0 (ii 46).toNatClampNeg))) + (ii 2)).toNatClampNeg a3) o0 (ii 46).toNatClampNeg (((wI (wI (wI h o0 ((ii 47) + ((ii 3) * (h.1 o0 (ii 46).toNatClampNeg))).toNatClampNeg a1) o0 (((ii 47) + ((ii 3) * (h.1 o0 (ii 46).toNatClampNeg))) + (ii 1)).toNatClampNeg a2) o0 (((ii 47) + ((ii 3) * (h.1 o0 (ii 46).toNatClampNeg))) + (ii 2)).toNatClampNeg a3).1 o0 (ii 46).toNatClampNeg) + (ii 1)))) 31 31 (Nat.le_of_ble_eq_true rfl) tk_R_writes rfl rfl ⟨trivial, trivial, trivial, trivial, hg3, trivial, trivial, trivial, trivial, trivial, trivial, hg4, trivial, trivial, trivial, trivial, trivial, hg5, trivial, trivial, trivial, trivial, trivial, hg6, trivial, trivial, trivial, hg7, trivial, trivial, hg8, trivial⟩ ?_
    obtain ⟨q1, hq9, hx⟩ := bd hx
    rw [Option.some.inj hq9]
    show Ev Γ m_R_writes 88 [some (vr 20 n0 o0), some (vi a1), some (vi a2), some (vi a3), some (vi ((ii 47) + ((ii 3) * (h.1 o0 (ii 46).toNatClampNeg))))] [] q1 r h'
    obtain rfl := Option.some.inj hx
    obtain ⟨rfl, rfl⟩ := hP
    exact Ev.vret 62 tk_R_writes rfl rfl
  · replace hx := ip hc2 hx
    refine Ev.blk (pc' := 12) (lv' := [some (vr 20 n0 o0), some (vi a1), some (vi a2), some (vi a3), some (vi (ii 1))]) (st' := []) (h' := h) 5 2 (Nat.le_of_ble_eq_true rfl) tk_R_writes rfl rfl ⟨trivial, trivial, trivial⟩ ?_
    refine Ev.msk [true, true, true, true, true] ?_
    show Ev Γ m_R_writes 12 [some (vr 20 n0 o0), some (vi a1), some (vi a2), some (vi a3), some (vi (ii 1))] [] h r h'
    exact l_R_writes_L12 Γ FU n0 o0 a1 a2 a3 (ii 1) h _ hx r h' hP
