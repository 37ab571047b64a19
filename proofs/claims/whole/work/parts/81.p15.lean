set_option maxRecDepth 4000 in
theorem s_R_goes (Γ : AG) (n1 : Nat) (o1 : Nat) (a2 : Int32) (a3 : Int32) (h : AH) (x : Int32 × AH) (hx : f_R_goes n1 o1 a2 a3 h = some x) : MetA Γ m_R_goes [vr 12 0 80, vr 20 n1 o1, vi a2, vi a3] h (some (vi x.1)) x.2 := by
  refine Ev.met rfl rfl (Nat.le_of_ble_eq_true rfl) ?_
  show Ev Γ m_R_goes 0 [some (vr 12 0 80), some (vr 20 n1 o1), some (vi a2), some (vi a3), none, none] [] h _ _
  obtain ⟨r, hr⟩ : ∃ r : Option AV, r = some (vi x.1) := ⟨_, rfl⟩
  obtain ⟨h', hh⟩ : ∃ h' : AH, h' = x.2 := ⟨_, rfl⟩
  have hP : r = some (vi x.1) ∧ h' = x.2 := ⟨hr, hh⟩
  suffices hS : Ev Γ m_R_goes 0 [some (vr 12 0 80), some (vr 20 n1 o1), some (vi a2), some (vi a3), none, none] [] h r h' by rw [hr, hh] at hS; exact hS
  clear hr hh
  unfold f_R_goes at hx
  refine Ev.blk (pc' := 4) (lv' := [some (vr 12 0 80), some (vr 20 n1 o1), some (vi a2), some (vi a3), none, none]) (st' := [vi a3, vi a2, vr 20 n1 o1, vr 12 0 80]) (h' := h) 0 4 (Nat.le_of_ble_eq_true rfl) tk_R_goes rfl rfl ⟨trivial, trivial, trivial, trivial, trivial⟩ ?_
  obtain ⟨q1, hq1, hx⟩ := bd hx
  refine Ev.callV (ν := m_R_whereTo) (av := [vr 20 n1 o1, vi a2, vi a3]) (rest := []) (r1 := some (vi q1)) (h1 := h) (ci := 12) (nn := 0) (o := 80) 4 3 tk_R_goes rfl bb_R_whereTo vv_R_whereTo lk_12_385 (by decide) rfl rfl (Or.inl rfl) (Nat.le_of_ble_eq_true rfl) (s_R_whereTo Γ n1 o1 a2 a3 h _ hq1) ?_
  show Ev Γ m_R_goes 7 [some (vr 12 0 80), some (vr 20 n1 o1), some (vi a2), some (vi a3), none, none] [vi q1] h r h'
  obtain ⟨hg2, hx⟩ := gd hx
  refine Ev.blk (pc' := 22) (lv' := [some (vr 12 0 80), some (vr 20 n1 o1), some (vi a2), some (vi a3), some (vi q1), none]) (st' := [vi (ii 5), vi a2, vr 12 0 80, vi (ii 12), vr 20 n1 o1]) (h' := (wI h o1 ((ii 2) * a2).toNatClampNeg q1)) 5 12 (Nat.le_of_ble_eq_true rfl) tk_R_goes rfl rfl ⟨trivial, trivial, trivial, trivial, trivial, trivial, hg2, trivial, trivial, trivial, trivial, trivial, trivial⟩ ?_
  obtain ⟨q2, hq3, hx⟩ := bd hx
  refine Ev.callV (ν := m_R_told) (av := [vi a2, vi (ii 5)]) (rest := [vi (ii 12), vr 20 n1 o1]) (r1 := some (vi q2)) (h1 := (wI h o1 ((ii 2) * a2).toNatClampNeg q1)) (ci := 12) (nn := 0) (o := 80) 17 2 tk_R_goes rfl bb_R_told vv_R_told lk_12_338 (by decide) rfl rfl (Or.inl rfl) (Nat.le_of_ble_eq_true rfl) (s_R_told Γ a2 (ii 5) (wI h o1 ((ii 2) * a2).toNatClampNeg q1) _ hq3) ?_
  show Ev Γ m_R_goes 25 [some (vr 12 0 80), some (vr 20 n1 o1), some (vi a2), some (vi a3), some (vi q1), none] [vi q2, vi (ii 12), vr 20 n1 o1] (wI h o1 ((ii 2) * a2).toNatClampNeg q1) r h'
  obtain ⟨hg4, hx⟩ := gd hx
  obtain ⟨hg5, hx⟩ := gd hx
  refine Ev.blk (pc' := 39) (lv' := [some (vr 12 0 80), some (vr 20 n1 o1), some (vi a2), some (vi a3), some (vi q1), none]) (st' := [vi q1, vi a2, vr 20 n1 o1, vr 12 0 80]) (h' := (wI (wI h o1 ((ii 2) * a2).toNatClampNeg q1) o1 ((ii 12) + q2).toNatClampNeg (((wI h o1 ((ii 2) * a2).toNatClampNeg q1).1 o1 ((ii 12) + q2).toNatClampNeg) ||| (shlI (ii 1) q1)))) 18 12 (Nat.le_of_ble_eq_true rfl) tk_R_goes rfl rfl ⟨trivial, trivial, hg4, trivial, trivial, trivial, trivial, hg5, trivial, trivial, trivial, trivial, trivial⟩ ?_
  obtain ⟨q3, hq6, hx⟩ := bd hx
  refine Ev.callV (ν := m_R_twitchOf) (av := [vr 20 n1 o1, vi a2, vi q1]) (rest := []) (r1 := some (vi q3.1)) (h1 := q3.2) (ci := 12) (nn := 0) (o := 80) 30 3 tk_R_goes rfl bb_R_twitchOf vv_R_twitchOf lk_12_382 (by decide) rfl rfl (Or.inl rfl) (Nat.le_of_ble_eq_true rfl) (s_R_twitchOf Γ n1 o1 a2 q1 (wI (wI h o1 ((ii 2) * a2).toNatClampNeg q1) o1 ((ii 12) + q2).toNatClampNeg (((wI h o1 ((ii 2) * a2).toNatClampNeg q1).1 o1 ((ii 12) + q2).toNatClampNeg) ||| (shlI (ii 1) q1))) _ hq6) ?_
  show Ev Γ m_R_goes 42 [some (vr 12 0 80), some (vr 20 n1 o1), some (vi a2), some (vi a3), some (vi q1), none] [vi q3.1] q3.2 r h'
  refine Ev.blk (pc' := 50) (lv' := [some (vr 12 0 80), some (vr 20 n1 o1), some (vi a2), some (vi a3), some (vi q1), some (vi q3.1)]) (st' := [vi q3.1, vi q1, vi a2, vr 20 n1 o1]) (h' := q3.2) 31 5 (Nat.le_of_ble_eq_true rfl) tk_R_goes rfl rfl ⟨trivial, trivial, trivial, trivial, trivial, trivial⟩ ?_
  obtain ⟨q4, hq7, hx⟩ := bd hx
  refine Ev.callS (ν := m_R_writes) (av := [vr 20 n1 o1, vi a2, vi q1, vi q3.1]) (rest := []) (r1 := none) (h1 := q4) 36 4 tk_R_goes rfl bb_R_writes vv_R_writes lk_12_388 (by decide) rfl rfl (Nat.le_of_ble_eq_true rfl) (s_R_writes Γ n1 o1 a2 q1 q3.1 q3.2 _ hq7) ?_
  show Ev Γ m_R_goes 53 [some (vr 12 0 80), some (vr 20 n1 o1), some (vi a2), some (vi a3), some (vi q1), some (vi q3.1)] [] q4 r h'
  refine Ev.blk (pc' := 55) (lv' := [some (vr 12 0 80), some (vr 20 n1 o1), some (vi a2), some (vi a3), some (vi q1), some (vi q3.1)]) (st' := [vi q3.1]) (h' := q4) 37 1 (Nat.le_of_ble_eq_true rfl) tk_R_goes rfl rfl ⟨trivial, trivial⟩ ?_
  obtain rfl := Option.some.inj hx
  obtain ⟨rfl, rfl⟩ := hP
  exact Ev.iret 38 tk_R_goes rfl rfl
set_option maxRecDepth 4000 in
theorem s_R_go (Γ : AG) (a1 : Int32) (a2 : Int32) (h : AH) (x : Int32 × AH) (hx : f_R_go a1 a2 h = some x) : MetA Γ m_R_go [vr 12 0 80, vi a1, vi a2] h (some (vi x.1)) x.2 := by
  refine Ev.met rfl rfl (Nat.le_of_ble_eq_true rfl) ?_
  show Ev Γ m_R_go 0 [some (vr 12 0 80), some (vi a1), some (vi a2)] [] h _ _
  obtain ⟨r, hr⟩ : ∃ r : Option AV, r = some (vi x.1) := ⟨_, rfl⟩
  obtain ⟨h', hh⟩ : ∃ h' : AH, h' = x.2 := ⟨_, rfl⟩
  have hP : r = some (vi x.1) ∧ h' = x.2 := ⟨hr, hh⟩
  suffices hS : Ev Γ m_R_go 0 [some (vr 12 0 80), some (vi a1), some (vi a2)] [] h r h' by rw [hr, hh] at hS; exact hS
  clear hr hh
  unfold f_R_go at hx
  refine Ev.blk (pc' := 12) (lv' := [some (vr 12 0 80), some (vi a1), some (vi a2)]) (st' := [vi a2, vi a1, vr 20 227 97, vr 12 0 80]) (h' := (wI h 80 0 (ii 0))) 0 8 (Nat.le_of_ble_eq_true rfl) tk_R_go rfl rfl ⟨trivial, trivial, trivial, trivial, trivial, trivial, trivial, trivial, trivial⟩ ?_
  obtain ⟨q1, hq1, hx⟩ := bd hx
  refine Ev.callV (ν := m_R_whereTo) (av := [vr 20 227 97, vi a1, vi a2]) (rest := []) (r1 := some (vi q1)) (h1 := (wI h 80 0 (ii 0))) (ci := 12) (nn := 0) (o := 80) 8 3 tk_R_go rfl bb_R_whereTo vv_R_whereTo lk_12_385 (by decide) rfl rfl (Or.inl rfl) (Nat.le_of_ble_eq_true rfl) (s_R_whereTo Γ 227 97 a1 a2 (wI h 80 0 (ii 0)) _ hq1) ?_
  show Ev Γ m_R_go 15 [some (vr 12 0 80), some (vi a1), some (vi a2)] [vi q1] (wI h 80 0 (ii 0)) r h'
  refine Ev.blk (pc' := 16) (lv' := [some (vr 12 0 80), some (vi a1), some (vi a2)]) (st' := [vi (ii (-1)), vi q1]) (h' := (wI h 80 0 (ii 0))) 9 1 (Nat.le_of_ble_eq_true rfl) tk_R_go rfl rfl ⟨trivial, trivial⟩ ?_
  refine Ev.icmp_ne 10 21 tk_R_go rfl (by decide) (fun hc2 => ?_) (fun hc2 => ?_)
  · replace hx := ia hc2 hx
    refine Ev.blk (pc' := 22) (lv' := [some (vr 12 0 80), some (vi a1), some (vi a2)]) (st' := [vr 12 0 80]) (h' := (wI h 80 0 (ii 0))) 13 1 (Nat.le_of_ble_eq_true rfl) tk_R_go rfl rfl ⟨trivial, trivial⟩ ?_
    obtain ⟨q2, hq3, hx⟩ := bd hx
    refine Ev.callV (ν := m_R_remember) (av := []) (rest := []) (r1 := none) (h1 := q2) (ci := 12) (nn := 0) (o := 80) 14 0 tk_R_go rfl bb_R_remember vv_R_remember lk_12_392 (by decide) rfl rfl (Or.inl rfl) (Nat.le_of_ble_eq_true rfl) (s_R_remember Γ (wI h 80 0 (ii 0)) _ hq3) ?_
    show Ev Γ m_R_go 25 [some (vr 12 0 80), some (vi a1), some (vi a2)] [] q2 r h'
    refine Ev.blk (pc' := 32) (lv' := [some (vr 12 0 80), some (vi a1), some (vi a2)]) (st' := [vi a2, vi a1, vr 20 227 97, vr 12 0 80]) (h' := q2) 15 5 (Nat.le_of_ble_eq_true rfl) tk_R_go rfl rfl ⟨trivial, trivial, trivial, trivial, trivial, trivial⟩ ?_
    obtain ⟨q3, hq4, hx⟩ := bd hx
    refine Ev.callV (ν := m_R_goes) (av := [vr 20 227 97, vi a1, vi a2]) (rest := []) (r1 := some (vi q3.1)) (h1 := q3.2) (ci := 12) (nn := 0) (o := 80) 20 3 tk_R_go rfl bb_R_goes vv_R_goes lk_12_395 (by decide) rfl rfl (Or.inl rfl) (Nat.le_of_ble_eq_true rfl) (s_R_goes Γ 227 97 a1 a2 q2 _ hq4) ?_
    show Ev Γ m_R_go 35 [some (vr 12 0 80), some (vi a1), some (vi a2)] [vi q3.1] q3.2 r h'
    obtain rfl := Option.some.inj hx
    obtain ⟨rfl, rfl⟩ := hP
    exact Ev.iret 21 tk_R_go rfl rfl
  · replace hx := ip hc2 hx
    refine Ev.blk (pc' := 20) (lv' := [some (vr 12 0 80), some (vi a1), some (vi a2)]) (st' := [vi (ii (-1))]) (h' := (wI h 80 0 (ii 0))) 11 1 (Nat.le_of_ble_eq_true rfl) tk_R_go rfl rfl ⟨trivial, trivial⟩ ?_
    obtain rfl := Option.some.inj hx
    obtain ⟨rfl, rfl⟩ := hP
    exact Ev.iret 12 tk_R_go rfl rfl
set_option maxRecDepth 4000 in
theorem s_R_sunkTo (Γ : AG) (a1 : Int32) (a2 : Int32) (h : AH) (x : Int32) (hx : f_R_sunkTo a1 a2 h = some x) : MetA Γ m_R_sunkTo [vr 12 0 80, vi a1, vi a2] h (some (vi x)) h := by
  refine Ev.met rfl rfl (Nat.le_of_ble_eq_true rfl) ?_
  show Ev Γ m_R_sunkTo 0 [some (vr 12 0 80), some (vi a1), some (vi a2), none] [] h _ _
  obtain ⟨r, hr⟩ : ∃ r : Option AV, r = some (vi x) := ⟨_, rfl⟩
  obtain ⟨h', hh⟩ : ∃ h' : AH, h' = h := ⟨_, rfl⟩
  have hP : r = some (vi x) ∧ h' = h := ⟨hr, hh⟩
  suffices hS : Ev Γ m_R_sunkTo 0 [some (vr 12 0 80), some (vi a1), some (vi a2), none] [] h r h' by rw [hr, hh] at hS; exact hS
  clear hr hh
  unfold f_R_sunkTo at hx
  refine Ev.blk (pc' := 3) (lv' := [some (vr 12 0 80), some (vi a1), some (vi a2), none]) (st' := [vi a2, vi a1, vr 12 0 80]) (h' := h) 0 3 (Nat.le_of_ble_eq_true rfl) tk_R_sunkTo rfl rfl ⟨trivial, trivial, trivial, trivial⟩ ?_
  obtain ⟨q1, hq1, hx⟩ := bd hx
  refine Ev.callV (ν := m_R_depthOf) (av := [vi a1, vi a2]) (rest := []) (r1 := some (vi q1)) (h1 := h) (ci := 12) (nn := 0) (o := 80) 3 2 tk_R_sunkTo rfl bb_R_depthOf vv_R_depthOf lk_12_362 (by decide) rfl rfl (Or.inl rfl) (Nat.le_of_ble_eq_true rfl) (s_R_depthOf Γ a1 a2 h _ hq1) ?_
  show Ev Γ m_R_sunkTo 6 [some (vr 12 0 80), some (vi a1), some (vi a2), none] [vi q1] h r h'
  refine Ev.blk (pc' := 9) (lv' := [some (vr 12 0 80), some (vi a1), some (vi a2), some (vi q1)]) (st' := [vi (ii (-1)), vi q1]) (h' := h) 4 3 (Nat.le_of_ble_eq_true rfl) tk_R_sunkTo rfl rfl ⟨trivial, trivial, trivial, trivial⟩ ?_
  refine Ev.icmp_ne 7 17 tk_R_sunkTo rfl (by decide) (fun hc2 => ?_) (fun hc2 => ?_)
  · replace hx := ia hc2 hx
    refine Ev.blk (pc' := 20) (lv' := [some (vr 12 0 80), some (vi a1), some (vi a2), some (vi q1)]) (st' := [vi q1, vi (ii 60)]) (h' := h) 10 2 (Nat.le_of_ble_eq_true rfl) tk_R_sunkTo rfl rfl ⟨trivial, trivial, trivial⟩ ?_
    refine Ev.mmin (rest := []) 12 tk_R_sunkTo rfl lk_12_356 (by decide) (Nat.le_of_ble_eq_true rfl) ?_
    show Ev Γ m_R_sunkTo 23 [some (vr 12 0 80), some (vi a1), some (vi a2), some (vi q1)] [vi (p_Math_min (ii 60) q1)] h r h'
    obtain rfl := Option.some.inj hx
    obtain ⟨rfl, rfl⟩ := hP
    exact Ev.iret 13 tk_R_sunkTo rfl rfl
  · replace hx := ip hc2 hx
    refine Ev.blk (pc' := 23) (lv' := [some (vr 12 0 80), some (vi a1), some (vi a2), some (vi q1)]) (st' := [vi (ii 60)]) (h' := h) 8 2 (Nat.le_of_ble_eq_true rfl) tk_R_sunkTo rfl rfl ⟨trivial, trivial, trivial⟩ ?_
    obtain rfl := Option.some.inj hx
    obtain ⟨rfl, rfl⟩ := hP
    exact Ev.iret 13 tk_R_sunkTo rfl rfl
set_option maxRecDepth 4000 in
theorem s_R_footAt (Γ : AG) (a1 : Int32) (h : AH) (x : Int32) (hx : f_R_footAt a1 h = some x) : MetA Γ m_R_footAt [vr 12 0 80, vi a1] h (some (vi x)) h := by
  refine Ev.met rfl rfl (Nat.le_of_ble_eq_true rfl) ?_
  show Ev Γ m_R_footAt 0 [some (vr 12 0 80), some (vi a1)] [] h _ _
  obtain ⟨r, hr⟩ : ∃ r : Option AV, r = some (vi x) := ⟨_, rfl⟩
  obtain ⟨h', hh⟩ : ∃ h' : AH, h' = h := ⟨_, rfl⟩
  have hP : r = some (vi x) ∧ h' = h := ⟨hr, hh⟩
  suffices hS : Ev Γ m_R_footAt 0 [some (vr 12 0 80), some (vi a1)] [] h r h' by rw [hr, hh] at hS; exact hS
  clear hr hh
  unfold f_R_footAt at hx
  obtain ⟨hg1, hx⟩ := gd hx
  refine Ev.blk (pc' := 16) (lv' := [some (vr 12 0 80), some (vi a1)]) (st' := [vi (ii 0), vi a1, vi (h.1 80 32), vr 20 12 91, vi (h.1 85 (ii 3).toNatClampNeg)]) (h' := h) 0 10 (Nat.le_of_ble_eq_true rfl) tk_R_footAt rfl rfl ⟨trivial, trivial, trivial, hg1, trivial, trivial, trivial, trivial, trivial, trivial, trivial⟩ ?_
  obtain ⟨q1, hq2, hx⟩ := bd hx
  refine Ev.callS (ν := m_R_numberAt) (av := [vr 20 12 91, vi (h.1 80 32), vi a1, vi (ii 0)]) (rest := [vi (h.1 85 (ii 3).toNatClampNeg)]) (r1 := some (vi q1)) (h1 := h) 10 4 tk_R_footAt rfl bb_R_numberAt vv_R_numberAt lk_12_358 (by decide) rfl rfl (Nat.le_of_ble_eq_true rfl) (s_R_numberAt Γ 12 91 (h.1 80 32) a1 (ii 0) h _ hq2) ?_
  show Ev Γ m_R_footAt 19 [some (vr 12 0 80), some (vi a1)] [vi q1, vi (h.1 85 (ii 3).toNatClampNeg)] h r h'
  refine Ev.blk (pc' := 20) (lv' := [some (vr 12 0 80), some (vi a1)]) (st' := [vi ((h.1 85 (ii 3).toNatClampNeg) + q1)]) (h' := h) 11 1 (Nat.le_of_ble_eq_true rfl) tk_R_footAt rfl rfl ⟨trivial, trivial⟩ ?_
  obtain rfl := Option.some.inj hx
  obtain ⟨rfl, rfl⟩ := hP
  exact Ev.iret 12 tk_R_footAt rfl rfl
set_option maxRecDepth 4000 in
theorem s_R_costOf (Γ : AG) (a1 : Int32) (a2 : Int32) (h : AH) (x : Int32) (hx : f_R_costOf a1 a2 h = some x) : MetA Γ m_R_costOf [vr 12 0 80, vi a1, vi a2] h (some (vi x)) h := by
  refine Ev.met rfl rfl (Nat.le_of_ble_eq_true rfl) ?_
  show Ev Γ m_R_costOf 0 [some (vr 12 0 80), some (vi a1), some (vi a2)] [] h _ _
  obtain ⟨r, hr⟩ : ∃ r : Option AV, r = some (vi x) := ⟨_, rfl⟩
  obtain ⟨h', hh⟩ : ∃ h' : AH, h' = h := ⟨_, rfl⟩
  have hP : r = some (vi x) ∧ h' = h := ⟨hr, hh⟩
  suffices hS : Ev Γ m_R_costOf 0 [some (vr 12 0 80), some (vi a1), some (vi a2)] [] h r h' by rw [hr, hh] at hS; exact hS
  clear hr hh
  unfold f_R_costOf at hx
  refine Ev.blk (pc' := 3) (lv' := [some (vr 12 0 80), some (vi a1), some (vi a2)]) (st' := [vi a2, vi a1, vr 12 0 80]) (h' := h) 0 3 (Nat.le_of_ble_eq_true rfl) tk_R_costOf rfl rfl ⟨trivial, trivial, trivial, trivial⟩ ?_
  obtain ⟨q1, hq1, hx⟩ := bd hx
  refine Ev.callV (ν := m_R_sunkTo) (av := [vi a1, vi a2]) (rest := []) (r1 := some (vi q1)) (h1 := h) (ci := 12) (nn := 0) (o := 80) 3 2 tk_R_costOf rfl bb_R_sunkTo vv_R_sunkTo lk_12_398 (by decide) rfl rfl (Or.inl rfl) (Nat.le_of_ble_eq_true rfl) (s_R_sunkTo Γ a1 a2 h _ hq1) ?_
  show Ev Γ m_R_costOf 6 [some (vr 12 0 80), some (vi a1), some (vi a2)] [vi q1] h r h'
  refine Ev.blk (pc' := 8) (lv' := [some (vr 12 0 80), some (vi a1), some (vi a2)]) (st' := [vi a1, vr 12 0 80, vi q1]) (h' := h) 4 2 (Nat.le_of_ble_eq_true rfl) tk_R_costOf rfl rfl ⟨trivial, trivial, trivial⟩ ?_
  obtain ⟨q2, hq2, hx⟩ := bd hx
  refine Ev.callV (ν := m_R_footAt) (av := [vi a1]) (rest := [vi q1]) (r1 := some (vi q2)) (h1 := h) (ci := 12) (nn := 0) (o := 80) 6 1 tk_R_costOf rfl bb_R_footAt vv_R_footAt lk_12_401 (by decide) rfl rfl (Or.inl rfl) (Nat.le_of_ble_eq_true rfl) (s_R_footAt Γ a1 h _ hq2) ?_
  show Ev Γ m_R_costOf 11 [some (vr 12 0 80), some (vi a1), some (vi a2)] [vi q2, vi q1] h r h'
  refine Ev.blk (pc' := 12) (lv' := [some (vr 12 0 80), some (vi a1), some (vi a2)]) (st' := [vi (q1 * q2)]) (h' := h) 7 1 (Nat.le_of_ble_eq_true rfl) tk_R_costOf rfl rfl ⟨trivial, trivial⟩ ?_
  obtain rfl := Option.some.inj hx
  obtain ⟨rfl, rfl⟩ := hP
  exact Ev.iret 8 tk_R_costOf rfl rfl
set_option maxRecDepth 4000 in
theorem l_R_hasTwitched_L2 (Γ : AG) : ∀ (n : Nat) (v1 : Int32) (v2 : Int32) (v3 : Int32) (h : AH) (x : Int32), R_hasTwitched_L2 n v1 v2 v3 h = some x → ∀ (r : Option AV) (h' : AH), r = some (vi x) ∧ h' = h → Ev Γ m_R_hasTwitched 2 [some (vr 12 0 80), some (vi v1), some (vi v2), some (vi v3), none] [] h r h' := by
  intro n
  induction n with
  | zero => intro v1 v2 v3 h x hx; cases hx
  | succ n ih =>
    intro v1 v2 v3 h x hx r h' hP
    replace hx : R_hasTwitched_L2_b (R_hasTwitched_L2 n) v1 v2 v3 h = some x := hx
    unfold R_hasTwitched_L2_b at hx
    obtain ⟨hg1, hx⟩ := gd hx
    refine Ev.blk (pc' := 10) (lv' := [some (vr 12 0 80), some (vi v1), some (vi v2), some (vi v3), none]) (st' := [vi (h.1 97 (ii 46).toNatClampNeg), vi v3]) (h' := h) 2 5 (Nat.le_of_ble_eq_true rfl) tk_R_hasTwitched rfl rfl ⟨trivial, trivial, trivial, trivial, hg1, trivial⟩ ?_
    refine Ev.icmp_ge 7 65 tk_R_hasTwitched rfl (by decide) (fun hc2 => ?_) (fun hc2 => ?_)
    · replace hx := ip hc2 hx
      refine Ev.blk (pc' := 66) (lv' := [some (vr 12 0 80), some (vi v1), some (vi v2), some (vi v3), none]) (st' := [vi (ii 0)]) (h' := h) 39 1 (Nat.le_of_ble_eq_true rfl) tk_R_hasTwitched rfl rfl ⟨trivial, trivial⟩ ?_
      obtain rfl := Option.some.inj hx
      obtain ⟨rfl, rfl⟩ := hP
      exact Ev.zret 40 tk_R_hasTwitched rfl rfl rfl
    · replace hx := ia hc2 hx
      obtain ⟨hg3, hx⟩ := gd hx
      refine Ev.blk (pc' := 29) (lv' := [some (vr 12 0 80), some (vi v1), some (vi v2), some (vi v3), some (vi ((ii 47) + ((ii 3) * v3)))]) (st' := [vi v1, vi (h.1 97 ((ii 47) + ((ii 3) * v3)).toNatClampNeg)]) (h' := h) 8 11 (Nat.le_of_ble_eq_true rfl) tk_R_hasTwitched rfl rfl ⟨trivial, trivial, trivial, trivial, trivial, trivial, trivial, trivial, trivial, hg3, trivial, trivial⟩ ?_
      refine Ev.icmp_ne 19 59 tk_R_hasTwitched rfl (by decide) (fun hc4 => ?_) (fun hc4 => ?_)
      · replace hx := ia hc4 hx
        refine Ev.blk (pc' := 2) (lv' := [some (vr 12 0 80), some (vi v1), some (vi v2), some (vi (v3 + ii 1)), some (vi ((ii 47) + ((ii 3) * v3)))]) (st' := []) (h' := h) 37 2 (Nat.le_of_ble_eq_true rfl) tk_R_hasTwitched rfl rfl ⟨trivial, trivial, trivial⟩ ?_
        exact Ev.msk [true, true, true, true, false] (ih v1 v2 (v3 + ii 1) h _ hx r h' hP)
      · replace hx := ip hc4 hx
        obtain ⟨hg5, hx⟩ := gd hx
        refine Ev.blk (pc' := 42) (lv' := [some (vr 12 0 80), some (vi v1), some (vi v2), some (vi v3), some (vi ((ii 47) + ((ii 3) * v3)))]) (st' := [vi v2, vi (h.1 97 (((ii 47) + ((ii 3) * v3)) + (ii 1)).toNatClampNeg)]) (h' := h) 20 7 (Nat.le_of_ble_eq_true rfl) tk_R_hasTwitched rfl rfl ⟨trivial, trivial, trivial, trivial, trivial, hg5, trivial, trivial⟩ ?_
        refine Ev.icmp_ne 27 59 tk_R_hasTwitched rfl (by decide) (fun hc6 => ?_) (fun hc6 => ?_)
        · replace hx := ia hc6 hx
          refine Ev.blk (pc' := 2) (lv' := [some (vr 12 0 80), some (vi v1), some (vi v2), some (vi (v3 + ii 1)), some (vi ((ii 47) + ((ii 3) * v3)))]) (st' := []) (h' := h) 37 2 (Nat.le_of_ble_eq_true rfl) tk_R_hasTwitched rfl rfl ⟨trivial, trivial, trivial⟩ ?_
          exact Ev.msk [true, true, true, true, false] (ih v1 v2 (v3 + ii 1) h _ hx r h' hP)
        · replace hx := ip hc6 hx
          obtain ⟨hg7, hx⟩ := gd hx
          refine Ev.blk (pc' := 54) (lv' := [some (vr 12 0 80), some (vi v1), some (vi v2), some (vi v3), some (vi ((ii 47) + ((ii 3) * v3)))]) (st' := [vi (h.1 97 (((ii 47) + ((ii 3) * v3)) + (ii 2)).toNatClampNeg)]) (h' := h) 28 6 (Nat.le_of_ble_eq_true rfl) tk_R_hasTwitched rfl rfl ⟨trivial, trivial, trivial, trivial, trivial, hg7, trivial⟩ ?_
          refine Ev.if_le 34 59 tk_R_hasTwitched rfl (by decide) (fun hc8 => ?_) (fun hc8 => ?_)
          · replace hx := ip hc8 hx
            refine Ev.blk (pc' := 2) (lv' := [some (vr 12 0 80), some (vi v1), some (vi v2), some (vi (v3 + ii 1)), some (vi ((ii 47) + ((ii 3) * v3)))]) (st' := []) (h' := h) 37 2 (Nat.le_of_ble_eq_true rfl) tk_R_hasTwitched rfl rfl ⟨trivial, trivial, trivial⟩ ?_
            exact Ev.msk [true, true, true, true, false] (ih v1 v2 (v3 + ii 1) h _ hx r h' hP)
          · replace hx := ia hc8 hx
            refine Ev.blk (pc' := 58) (lv' := [some (vr 12 0 80), some (vi v1), some (vi v2), some (vi v3), some (vi ((ii 47) + ((ii 3) * v3)))]) (st' := [vi (ii 1)]) (h' := h) 35 1 (Nat.le_of_ble_eq_true rfl) tk_R_hasTwitched rfl rfl ⟨trivial, trivial⟩ ?_
            obtain rfl := Option.some.inj hx
            obtain ⟨rfl, rfl⟩ := hP
            exact Ev.zret 36 tk_R_hasTwitched rfl rfl rfl
set_option maxRecDepth 4000 in
theorem s_R_hasTwitched (Γ : AG) (a1 : Int32) (a2 : Int32) (h : AH) (x : Int32) (hx : f_R_hasTwitched a1 a2 h = some x) : MetA Γ m_R_hasTwitched [vr 12 0 80, vi a1, vi a2] h (some (vi x)) h := by
  refine Ev.met rfl rfl (Nat.le_of_ble_eq_true rfl) ?_
  show Ev Γ m_R_hasTwitched 0 [some (vr 12 0 80), some (vi a1), some (vi a2), none, none] [] h _ _
  obtain ⟨r, hr⟩ : ∃ r : Option AV, r = some (vi x) := ⟨_, rfl⟩
  obtain ⟨h', hh⟩ : ∃ h' : AH, h' = h := ⟨_, rfl⟩
  have hP : r = some (vi x) ∧ h' = h := ⟨hr, hh⟩
  suffices hS : Ev Γ m_R_hasTwitched 0 [some (vr 12 0 80), some (vi a1), some (vi a2), none, none] [] h r h' by rw [hr, hh] at hS; exact hS
  clear hr hh
  unfold f_R_hasTwitched at hx
  refine Ev.blk (pc' := 2) (lv' := [some (vr 12 0 80), some (vi a1), some (vi a2), some (vi (ii 0)), none]) (st' := []) (h' := h) 0 2 (Nat.le_of_ble_eq_true rfl) tk_R_hasTwitched rfl rfl ⟨trivial, trivial, trivial⟩ ?_
  refine Ev.msk [true, true, true, true, false] ?_
  show Ev Γ m_R_hasTwitched 2 [some (vr 12 0 80), some (vi a1), some (vi a2), some (vi (ii 0)), none] [] h r h'
  exact l_R_hasTwitched_L2 Γ FU a1 a2 (ii 0) h _ hx r h' hP
set_option maxRecDepth 4000 in
theorem l_R_sink_L95 (Γ : AG) : ∀ (n : Nat) (v1 : Int32) (v2 : Int32) (v3 : Int32) (v4 : Int32) (v5 : Int32) (h : AH) (x : Int32), R_sink_L95 n v1 v2 v3 v4 v5 h = some x → ∀ (r : Option AV) (h' : AH), Ev Γ m_R_sink 130 [some (vr 12 0 80), some (vi v1), some (vi v2), some (vi v3), some (vi x), none] [] h r h' → Ev Γ m_R_sink 95 [some (vr 12 0 80), some (vi v1), some (vi v2), some (vi v3), some (vi v4), some (vi v5)] [] h r h' := by
  intro n
  induction n with
  | zero => intro v1 v2 v3 v4 v5 h x hx; cases hx
  | succ n ih =>
    intro v1 v2 v3 v4 v5 h x hx r h' hP
    replace hx : R_sink_L95_b (R_sink_L95 n) v1 v2 v3 v4 v5 h = some x := hx
    unfold R_sink_L95_b at hx
    refine Ev.blk (pc' := 101) (lv' := [some (vr 12 0 80), some (vi v1), some (vi v2), some (vi v3), some (vi v4), some (vi v5)]) (st' := [vi (h.1 80 33), vi v5]) (h' := h) 59 3 (Nat.le_of_ble_eq_true rfl) tk_R_sink rfl rfl ⟨trivial, trivial, trivial, trivial⟩ ?_
    refine Ev.icmp_ge 62 130 tk_R_sink rfl (by decide) (fun hc1 => ?_) (fun hc1 => ?_)
    · replace hx := ip hc1 hx
      obtain rfl := Option.some.inj hx
      exact Ev.msk [true, true, true, true, true, false] hP
    · replace hx := ia hc1 hx
      refine Ev.blk (pc' := 110) (lv' := [some (vr 12 0 80), some (vi v1), some (vi v2), some (vi v3), some (vi v4), some (vi v5)]) (st' := [vi v1, vi v5, vr 12 0 80, vi v4]) (h' := h) 63 4 (Nat.le_of_ble_eq_true rfl) tk_R_sink rfl rfl ⟨trivial, trivial, trivial, trivial, trivial⟩ ?_
      obtain ⟨q1, hq2, hx⟩ := bd hx
      refine Ev.callV (ν := m_R_hasTwitched) (av := [vi v5, vi v1]) (rest := [vi v4]) (r1 := some (vi q1)) (h1 := h) (ci := 12) (nn := 0) (o := 80) 67 2 tk_R_sink rfl bb_R_hasTwitched vv_R_hasTwitched lk_12_407 (by decide) rfl rfl (Or.inl rfl) (Nat.le_of_ble_eq_true rfl) (s_R_hasTwitched Γ v5 v1 h _ hq2) ?_
      show Ev Γ m_R_sink 113 [some (vr 12 0 80), some (vi v1), some (vi v2), some (vi v3), some (vi v4), some (vi v5)] [vi q1, vi v4] h r h'
      have K3 : ∀ v3_0 : Int32, v3_0 = (if q1 = 0 then (ii 0) else (ii 1)) → Ev Γ m_R_sink 121 [some (vr 12 0 80), some (vi v1), some (vi v2), some (vi v3), none, some (vi v5)] [vi v3_0, vi v4] h r h' := by
        intro v3_0 e4
        subst e4
        refine Ev.blk (pc' := 95) (lv' := [some (vr 12 0 80), some (vi v1), some (vi v2), some (vi v3), some (vi (v4 + (if q1 = 0 then (ii 0) else (ii 1)))), some (vi (v5 + ii 1))]) (st' := []) (h' := h) 72 4 (Nat.le_of_ble_eq_true rfl) tk_R_sink rfl rfl ⟨trivial, trivial, trivial, trivial, trivial⟩ ?_
        exact Ev.msk [true, true, true, true, true, true] (ih v1 v2 v3 (v4 + (if q1 = 0 then (ii 0) else (ii 1))) (v5 + ii 1) h _ hx r h' hP)
      refine Ev.if_eq 68 120 tk_R_sink rfl (by decide) (fun hc5 => ?_) (fun hc5 => ?_)
      · refine Ev.blk (pc' := 121) (lv' := [some (vr 12 0 80), some (vi v1), some (vi v2), some (vi v3), some (vi v4), some (vi v5)]) (st' := [vi (ii 0), vi v4]) (h' := h) 71 1 (Nat.le_of_ble_eq_true rfl) tk_R_sink rfl rfl ⟨trivial, trivial⟩ ?_
        exact Ev.msk [true, true, true, true, false, true] (K3 _ (by first | rfl | simp only [if_pos hc5]))
      · refine Ev.blk (pc' := 121) (lv' := [some (vr 12 0 80), some (vi v1), some (vi v2), some (vi v3), some (vi v4), some (vi v5)]) (st' := [vi (ii 1), vi v4]) (h' := h) 69 2 (Nat.le_of_ble_eq_true rfl) tk_R_sink rfl rfl ⟨trivial, trivial, trivial⟩ ?_
        exact Ev.msk [true, true, true, true, false, true] (K3 _ (by first | rfl | simp only [if_neg hc5]))
set_option maxRecDepth 4000 in
theorem l_R_sink_L151 (Γ : AG) : ∀ (n : Nat) (v1 : Int32) (v2 : Int32) (v4 : Int32) (v5 : Int32) (h : AH) (x : Int32 × AH), R_sink_L151 n v1 v2 v4 v5 h = some x → ∀ (r : Option AV) (h' : AH), r = some (vi x.1) ∧ h' = x.2 → Ev Γ m_R_sink 151 [some (vr 12 0 80), some (vi v1), some (vi v2), none, some (vi v4), some (vi v5)] [] h r h' := by
  intro n
  induction n with
  | zero => intro v1 v2 v4 v5 h x hx; cases hx
  | succ n ih =>
    intro v1 v2 v4 v5 h x hx r h' hP
    replace hx : R_sink_L151_b (R_sink_L151 n) v1 v2 v4 v5 h = some x := hx
    unfold R_sink_L151_b at hx
    refine Ev.blk (pc' := 157) (lv' := [some (vr 12 0 80), some (vi v1), some (vi v2), none, some (vi v4), some (vi v5)]) (st' := [vi (h.1 80 33), vi v5]) (h' := h) 88 3 (Nat.le_of_ble_eq_true rfl) tk_R_sink rfl rfl ⟨trivial, trivial, trivial, trivial⟩ ?_
    refine Ev.icmp_ge 91 201 tk_R_sink rfl (by decide) (fun hc1 => ?_) (fun hc1 => ?_)
    · replace hx := ip hc1 hx
      refine Ev.blk (pc' := 202) (lv' := [some (vr 12 0 80), some (vi v1), some (vi v2), none, some (vi v4), some (vi v5)]) (st' := [vi v2]) (h' := h) 117 1 (Nat.le_of_ble_eq_true rfl) tk_R_sink rfl rfl ⟨trivial, trivial⟩ ?_
      obtain rfl := Option.some.inj hx
      obtain ⟨rfl, rfl⟩ := hP
      exact Ev.iret 118 tk_R_sink rfl rfl
    · replace hx := ia hc1 hx
      obtain ⟨hg2, hx⟩ := gd hx
      refine Ev.blk (pc' := 176) (lv' := [some (vr 12 0 80), some (vi v1), some (vi v2), none, some (vi v4), some (vi v5)]) (st' := [vi v1, vi v5, vr 12 0 80, vi (h.1 97 (((ii 2) * v5) + (ii 1)).toNatClampNeg), vi (((ii 2) * v5) + (ii 1)), vr 20 227 97]) (h' := h) 92 12 (Nat.le_of_ble_eq_true rfl) tk_R_sink rfl rfl ⟨trivial, trivial, trivial, trivial, trivial, trivial, trivial, trivial, hg2, trivial, trivial, trivial, trivial⟩ ?_
      obtain ⟨q1, hq3, hx⟩ := bd hx
      refine Ev.callV (ν := m_R_hasTwitched) (av := [vi v5, vi v1]) (rest := [vi (h.1 97 (((ii 2) * v5) + (ii 1)).toNatClampNeg), vi (((ii 2) * v5) + (ii 1)), vr 20 227 97]) (r1 := some (vi q1)) (h1 := h) (ci := 12) (nn := 0) (o := 80) 104 2 tk_R_sink rfl bb_R_hasTwitched vv_R_hasTwitched lk_12_407 (by decide) rfl rfl (Or.inl rfl) (Nat.le_of_ble_eq_true rfl) (s_R_hasTwitched Γ v5 v1 h _ hq3) ?_
      show Ev Γ m_R_sink 179 [some (vr 12 0 80), some (vi v1), some (vi v2), none, some (vi v4), some (vi v5)] [vi q1, vi (h.1 97 (((ii 2) * v5) + (ii 1)).toNatClampNeg), vi (((ii 2) * v5) + (ii 1)), vr 20 227 97] h r h'
      obtain ⟨q2, hq4, hx⟩ := bd hx
      have K5 : Ev Γ m_R_sink 193 [some (vr 12 0 80), some (vi v1), some (vi v2), none, some (vi v4), some (vi v5)] [vi q2, vi (h.1 97 (((ii 2) * v5) + (ii 1)).toNatClampNeg), vi (((ii 2) * v5) + (ii 1)), vr 20 227 97] h r h' := by
        obtain ⟨hg6, hx⟩ := gd hx
        refine Ev.blk (pc' := 151) (lv' := [some (vr 12 0 80), some (vi v1), some (vi v2), none, some (vi v4), some (vi (v5 + ii 1))]) (st' := []) (h' := (wI h 97 (((ii 2) * v5) + (ii 1)).toNatClampNeg ((h.1 97 (((ii 2) * v5) + (ii 1)).toNatClampNeg) + q2))) 113 4 (Nat.le_of_ble_eq_true rfl) tk_R_sink rfl rfl ⟨trivial, hg6, trivial, trivial, trivial⟩ ?_
        exact Ev.msk [true, true, true, false, true, true] (ih v1 v2 v4 (v5 + ii 1) (wI h 97 (((ii 2) * v5) + (ii 1)).toNatClampNeg ((h.1 97 (((ii 2) * v5) + (ii 1)).toNatClampNeg) + q2)) _ hx r h' hP)
      clear hx
      refine Ev.if_eq 105 192 tk_R_sink rfl (by decide) (fun hc7 => ?_) (fun hc7 => ?_)
      · replace hq4 := ip hc7 hq4
        refine Ev.blk (pc' := 193) (lv' := [some (vr 12 0 80), some (vi v1), some (vi v2), none, some (vi v4), some (vi v5)]) (st' := [vi (ii 0), vi (h.1 97 (((ii 2) * v5) + (ii 1)).toNatClampNeg), vi (((ii 2) * v5) + (ii 1)), vr 20 227 97]) (h' := h) 112 1 (Nat.le_of_ble_eq_true rfl) tk_R_sink rfl rfl ⟨trivial, trivial⟩ ?_
        obtain rfl := Option.some.inj hq4
        exact Ev.msk [true, true, true, false, true, true] K5
      · replace hq4 := ia hc7 hq4
        obtain ⟨hg8, hq4⟩ := gd hq4
        obtain ⟨hg9, hq4⟩ := gd hq4
        refine Ev.blk (pc' := 193) (lv' := [some (vr 12 0 80), some (vi v1), some (vi v2), none, some (vi v4), some (vi v5)]) (st' := [vi ((v2 / (ii 10)) / v4), vi (h.1 97 (((ii 2) * v5) + (ii 1)).toNatClampNeg), vi (((ii 2) * v5) + (ii 1)), vr 20 227 97]) (h' := h) 106 6 (Nat.le_of_ble_eq_true rfl) tk_R_sink rfl rfl ⟨trivial, trivial, hg8, trivial, hg9, trivial, trivial⟩ ?_
        obtain rfl := Option.some.inj hq4
        exact Ev.msk [true, true, true, false, true, true] K5
set_option maxRecDepth 4000 in
theorem s_R_sink (Γ : AG) (a1 : Int32) (h : AH) (x : Int32 × AH) (hx : f_R_sink a1 h = some x) : MetA Γ m_R_sink [vr 12 0 80, vi a1] h (some (vi x.1)) x.2 := by
  refine Ev.met rfl rfl (Nat.le_of_ble_eq_true rfl) ?_
  show Ev Γ m_R_sink 0 [some (vr 12 0 80), some (vi a1), none, none, none, none] [] h _ _
  obtain ⟨r, hr⟩ : ∃ r : Option AV, r = some (vi x.1) := ⟨_, rfl⟩
  obtain ⟨h', hh⟩ : ∃ h' : AH, h' = x.2 := ⟨_, rfl⟩
  have hP : r = some (vi x.1) ∧ h' = x.2 := ⟨hr, hh⟩
  suffices hS : Ev Γ m_R_sink 0 [some (vr 12 0 80), some (vi a1), none, none, none, none] [] h r h' by rw [hr, hh] at hS; exact hS
  clear hr hh
  unfold f_R_sink at hx
  refine Ev.blk (pc' := 7) (lv' := [some (vr 12 0 80), some (vi a1), none, none, none, none]) (st' := [vi a1, vr 12 0 80]) (h' := (wI h 80 0 (ii 0))) 0 5 (Nat.le_of_ble_eq_true rfl) tk_R_sink rfl rfl ⟨trivial, trivial, trivial, trivial, trivial, trivial⟩ ?_
  refine Ev.callV (ν := m_R_isCell) (av := [vi a1]) (rest := []) (r1 := some (vi (p_R_isCell a1 (wI h 80 0 (ii 0))))) (h1 := (wI h 80 0 (ii 0))) (ci := 12) (nn := 0) (o := 80) 5 1 tk_R_sink rfl bb_R_isCell vv_R_isCell lk_12_372 (by decide) rfl rfl (Or.inl rfl) (Nat.le_of_ble_eq_true rfl) (s_R_isCell Γ a1 (wI h 80 0 (ii 0))) ?_
  show Ev Γ m_R_sink 10 [some (vr 12 0 80), some (vi a1), none, none, none, none] [vi (p_R_isCell a1 (wI h 80 0 (ii 0)))] (wI h 80 0 (ii 0)) r h'
  refine Ev.if_eq 6 25 tk_R_sink rfl (by decide) (fun hc1 => ?_) (fun hc1 => ?_)
  · replace hx := ip hc1 hx
    refine Ev.blk (pc' := 26) (lv' := [some (vr 12 0 80), some (vi a1), none, none, none, none]) (st' := [vi (ii (-1))]) (h' := (wI h 80 0 (ii 0))) 14 1 (Nat.le_of_ble_eq_true rfl) tk_R_sink rfl rfl ⟨trivial, trivial⟩ ?_
    obtain rfl := Option.some.inj hx
    obtain ⟨rfl, rfl⟩ := hP
    exact Ev.iret 15 tk_R_sink rfl rfl
  · replace hx := ia hc1 hx
    obtain ⟨hg2, hx⟩ := gd hx
    refine Ev.blk (pc' := 22) (lv' := [some (vr 12 0 80), some (vi a1), none, none, none, none]) (st' := [vi ((wI h 80 0 (ii 0)).1 97 ((ii 14) + a1).toNatClampNeg)]) (h' := (wI h 80 0 (ii 0))) 7 6 (Nat.le_of_ble_eq_true rfl) tk_R_sink rfl rfl ⟨trivial, trivial, trivial, trivial, trivial, hg2, trivial⟩ ?_
    refine Ev.if_le 13 27 tk_R_sink rfl (by decide) (fun hc3 => ?_) (fun hc3 => ?_)
    · replace hx := ip hc3 hx
      refine Ev.blk (pc' := 28) (lv' := [some (vr 12 0 80), some (vi a1), none, none, none, none]) (st' := [vr 12 0 80]) (h' := (wI h 80 0 (ii 0))) 16 1 (Nat.le_of_ble_eq_true rfl) tk_R_sink rfl rfl ⟨trivial, trivial⟩ ?_
      obtain ⟨q1, hq4, hx⟩ := bd hx
      refine Ev.callV (ν := m_R_remember) (av := []) (rest := []) (r1 := none) (h1 := q1) (ci := 12) (nn := 0) (o := 80) 17 0 tk_R_sink rfl bb_R_remember vv_R_remember lk_12_392 (by decide) rfl rfl (Or.inl rfl) (Nat.le_of_ble_eq_true rfl) (s_R_remember Γ (wI h 80 0 (ii 0)) _ hq4) ?_
      show Ev Γ m_R_sink 31 [some (vr 12 0 80), some (vi a1), none, none, none, none] [] q1 r h'
      obtain ⟨hg5, hx⟩ := gd hx
      refine Ev.blk (pc' := 40) (lv' := [some (vr 12 0 80), some (vi a1), none, none, none, none]) (st' := [vi (q1.1 97 (ii 45).toNatClampNeg), vi a1, vr 12 0 80]) (h' := q1) 18 6 (Nat.le_of_ble_eq_true rfl) tk_R_sink rfl rfl ⟨trivial, trivial, trivial, trivial, trivial, hg5, trivial⟩ ?_
      obtain ⟨q2, hq6, hx⟩ := bd hx
      refine Ev.callV (ν := m_R_costOf) (av := [vi a1, vi (q1.1 97 (ii 45).toNatClampNeg)]) (rest := []) (r1 := some (vi q2)) (h1 := q1) (ci := 12) (nn := 0) (o := 80) 24 2 tk_R_sink rfl bb_R_costOf vv_R_costOf lk_12_404 (by decide) rfl rfl (Or.inl rfl) (Nat.le_of_ble_eq_true rfl) (s_R_costOf Γ a1 (q1.1 97 (ii 45).toNatClampNeg) q1 _ hq6) ?_
      show Ev Γ m_R_sink 43 [some (vr 12 0 80), some (vi a1), none, none, none, none] [vi q2] q1 r h'
      obtain ⟨hg7, hx⟩ := gd hx
      refine Ev.blk (pc' := 53) (lv' := [some (vr 12 0 80), some (vi a1), some (vi q2), none, none, none]) (st' := [vi (q1.1 97 (ii 45).toNatClampNeg), vi a1, vr 12 0 80]) (h' := q1) 25 7 (Nat.le_of_ble_eq_true rfl) tk_R_sink rfl rfl ⟨trivial, trivial, trivial, trivial, trivial, trivial, hg7, trivial⟩ ?_
      obtain ⟨q3, hq8, hx⟩ := bd hx
      refine Ev.callV (ν := m_R_depthOf) (av := [vi a1, vi (q1.1 97 (ii 45).toNatClampNeg)]) (rest := []) (r1 := some (vi q3)) (h1 := q1) (ci := 12) (nn := 0) (o := 80) 32 2 tk_R_sink rfl bb_R_depthOf vv_R_depthOf lk_12_362 (by decide) rfl rfl (Or.inl rfl) (Nat.le_of_ble_eq_true rfl) (s_R_depthOf Γ a1 (q1.1 97 (ii 45).toNatClampNeg) q1 _ hq8) ?_
      show Ev Γ m_R_sink 56 [some (vr 12 0 80), some (vi a1), some (vi q2), none, none, none] [vi q3] q1 r h'
      obtain ⟨hg9, hx⟩ := gd hx
      refine Ev.blk (pc' := 74) (lv' := [some (vr 12 0 80), some (vi a1), some (vi q2), some (vi q3), none, none]) (st' := [vi (q1.1 97 (ii 45).toNatClampNeg), vi a1, vr 12 0 80, vi ((ii 14) + a1), vr 20 227 97]) (h' := q1) 33 12 (Nat.le_of_ble_eq_true rfl) tk_R_sink rfl rfl ⟨trivial, trivial, trivial, trivial, trivial, trivial, trivial, trivial, trivial, trivial, trivial, hg9, trivial⟩ ?_
      obtain ⟨q4, hq10, hx⟩ := bd hx
      refine Ev.callV (ν := m_R_sunkTo) (av := [vi a1, vi (q1.1 97 (ii 45).toNatClampNeg)]) (rest := [vi ((ii 14) + a1), vr 20 227 97]) (r1 := some (vi q4)) (h1 := q1) (ci := 12) (nn := 0) (o := 80) 45 2 tk_R_sink rfl bb_R_sunkTo vv_R_sunkTo lk_12_398 (by decide) rfl rfl (Or.inl rfl) (Nat.le_of_ble_eq_true rfl) (s_R_sunkTo Γ a1 (q1.1 97 (ii 45).toNatClampNeg) q1 _ hq10) ?_
      show Ev Γ m_R_sink 77 [some (vr 12 0 80), some (vi a1), some (vi q2), some (vi q3), none, none] [vi q4, vi ((ii 14) + a1), vr 20 227 97] q1 r h'
      obtain ⟨hg11, hx⟩ := gd hx
      obtain ⟨hg12, hx⟩ := gd hx
      obtain ⟨hg13, hx⟩ := gd hx
      refine Ev.blk (pc' := 95) (lv' := [some (vr 12 0 80), some (vi a1), some (vi q2), some (vi q3), some (vi (ii 0)), some (vi (ii 0))]) (st' := []) (h' := (wI (wI q1 97 ((ii 14) + a1).toNatClampNeg q4) 97 (ii 44).toNatClampNeg (((wI q1 97 ((ii 14) + a1).toNatClampNeg q4).1 97 (ii 44).toNatClampNeg) + q2))) 46 13 (Nat.le_of_ble_eq_true rfl) tk_R_sink rfl rfl ⟨hg11, trivial, trivial, trivial, trivial, hg12, trivial, trivial, hg13, trivial, trivial, trivial, trivial, trivial⟩ ?_
      obtain ⟨q5, hq14, hx⟩ := bd hx
      refine Ev.msk [true, true, true, true, true, true] ?_
      show Ev Γ m_R_sink 95 [some (vr 12 0 80), some (vi a1), some (vi q2), some (vi q3), some (vi (ii 0)), some (vi (ii 0))] [] (wI (wI q1 97 ((ii 14) + a1).toNatClampNeg q4) 97 (ii 44).toNatClampNeg (((wI q1 97 ((ii 14) + a1).toNatClampNeg q4).1 97 (ii 44).toNatClampNeg) + q2)) r h'
      refine l_R_sink_L95 Γ FU a1 q2 q3 (ii 0) (ii 0) (wI (wI q1 97 ((ii 14) + a1).toNatClampNeg q4) 97 (ii 44).toNatClampNeg (((wI q1 97 ((ii 14) + a1).toNatClampNeg q4).1 97 (ii 44).toNatClampNeg) + q2)) _ hq14 r h' ?_
      show Ev Γ m_R_sink 130 [some (vr 12 0 80), some (vi a1), some (vi q2), some (vi q3), some (vi q5), none] [] (wI (wI q1 97 ((ii 14) + a1).toNatClampNeg q4) 97 (ii 44).toNatClampNeg (((wI q1 97 ((ii 14) + a1).toNatClampNeg q4).1 97 (ii 44).toNatClampNeg) + q2)) r h'
      refine Ev.blk (pc' := 132) (lv' := [some (vr 12 0 80), some (vi a1), some (vi q2), some (vi q3), some (vi q5), none]) (st' := [vi (ii (-1)), vi q3]) (h' := (wI (wI q1 97 ((ii 14) + a1).toNatClampNeg q4) 97 (ii 44).toNatClampNeg (((wI q1 97 ((ii 14) + a1).toNatClampNeg q4).1 97 (ii 44).toNatClampNeg) + q2))) 76 2 (Nat.le_of_ble_eq_true rfl) tk_R_sink rfl rfl ⟨trivial, trivial, trivial⟩ ?_
      refine Ev.icmp_eq 78 146 tk_R_sink rfl (by decide) (fun hc15 => ?_) (fun hc15 => ?_)
      · replace hx := ip hc15 hx
        refine Ev.blk (pc' := 147) (lv' := [some (vr 12 0 80), some (vi a1), some (vi q2), some (vi q3), some (vi q5), none]) (st' := [vi q2]) (h' := (wI (wI q1 97 ((ii 14) + a1).toNatClampNeg q4) 97 (ii 44).toNatClampNeg (((wI q1 97 ((ii 14) + a1).toNatClampNeg q4).1 97 (ii 44).toNatClampNeg) + q2))) 84 1 (Nat.le_of_ble_eq_true rfl) tk_R_sink rfl rfl ⟨trivial, trivial⟩ ?_
        obtain rfl := Option.some.inj hx
        obtain ⟨rfl, rfl⟩ := hP
        exact Ev.iret 85 tk_R_sink rfl rfl
      · replace hx := ia hc15 hx
        refine Ev.blk (pc' := 138) (lv' := [some (vr 12 0 80), some (vi a1), some (vi q2), some (vi q3), some (vi q5), none]) (st' := [vi (ii 60), vi q3]) (h' := (wI (wI q1 97 ((ii 14) + a1).toNatClampNeg q4) 97 (ii 44).toNatClampNeg (((wI q1 97 ((ii 14) + a1).toNatClampNeg q4).1 97 (ii 44).toNatClampNeg) + q2))) 79 2 (Nat.le_of_ble_eq_true rfl) tk_R_sink rfl rfl ⟨trivial, trivial, trivial⟩ ?_
        refine Ev.icmp_gt 81 146 tk_R_sink rfl (by decide) (fun hc16 => ?_) (fun hc16 => ?_)
        · replace hx := ip hc16 hx
          refine Ev.blk (pc' := 147) (lv' := [some (vr 12 0 80), some (vi a1), some (vi q2), some (vi q3), some (vi q5), none]) (st' := [vi q2]) (h' := (wI (wI q1 97 ((ii 14) + a1).toNatClampNeg q4) 97 (ii 44).toNatClampNeg (((wI q1 97 ((ii 14) + a1).toNatClampNeg q4).1 97 (ii 44).toNatClampNeg) + q2))) 84 1 (Nat.le_of_ble_eq_true rfl) tk_R_sink rfl rfl ⟨trivial, trivial⟩ ?_
          obtain rfl := Option.some.inj hx
          obtain ⟨rfl, rfl⟩ := hP
          exact Ev.iret 85 tk_R_sink rfl rfl
        · replace hx := ia hc16 hx
          refine Ev.blk (pc' := 143) (lv' := [some (vr 12 0 80), some (vi a1), some (vi q2), some (vi q3), some (vi q5), none]) (st' := [vi q5]) (h' := (wI (wI q1 97 ((ii 14) + a1).toNatClampNeg q4) 97 (ii 44).toNatClampNeg (((wI q1 97 ((ii 14) + a1).toNatClampNeg q4).1 97 (ii 44).toNatClampNeg) + q2))) 82 1 (Nat.le_of_ble_eq_true rfl) tk_R_sink rfl rfl ⟨trivial, trivial⟩ ?_
          refine Ev.if_ne 83 148 tk_R_sink rfl (by decide) (fun hc17 => ?_) (fun hc17 => ?_)
          · replace hx := ia hc17 hx
            refine Ev.blk (pc' := 151) (lv' := [some (vr 12 0 80), some (vi a1), some (vi q2), some (vi q3), some (vi q5), some (vi (ii 0))]) (st' := []) (h' := (wI (wI q1 97 ((ii 14) + a1).toNatClampNeg q4) 97 (ii 44).toNatClampNeg (((wI q1 97 ((ii 14) + a1).toNatClampNeg q4).1 97 (ii 44).toNatClampNeg) + q2))) 86 2 (Nat.le_of_ble_eq_true rfl) tk_R_sink rfl rfl ⟨trivial, trivial, trivial⟩ ?_
            refine Ev.msk [true, true, true, false, true, true] ?_
            show Ev Γ m_R_sink 151 [some (vr 12 0 80), some (vi a1), some (vi q2), none, some (vi q5), some (vi (ii 0))] [] (wI (wI q1 97 ((ii 14) + a1).toNatClampNeg q4) 97 (ii 44).toNatClampNeg (((wI q1 97 ((ii 14) + a1).toNatClampNeg q4).1 97 (ii 44).toNatClampNeg) + q2)) r h'
            exact l_R_sink_L151 Γ FU a1 q2 q5 (ii 0) (wI (wI q1 97 ((ii 14) + a1).toNatClampNeg q4) 97 (ii 44).toNatClampNeg (((wI q1 97 ((ii 14) + a1).toNatClampNeg q4).1 97 (ii 44).toNatClampNeg) + q2)) _ hx r h' hP
          · replace hx := ip hc17 hx
            refine Ev.blk (pc' := 147) (lv' := [some (vr 12 0 80), some (vi a1), some (vi q2), some (vi q3), some (vi q5), none]) (st' := [vi q2]) (h' := (wI (wI q1 97 ((ii 14) + a1).toNatClampNeg q4) 97 (ii 44).toNatClampNeg (((wI q1 97 ((ii 14) + a1).toNatClampNeg q4).1 97 (ii 44).toNatClampNeg) + q2))) 84 1 (Nat.le_of_ble_eq_true rfl) tk_R_sink rfl rfl ⟨trivial, trivial⟩ ?_
            obtain rfl := Option.some.inj hx
            obtain ⟨rfl, rfl⟩ := hP
            exact Ev.iret 85 tk_R_sink rfl rfl
    · replace hx := ia hc3 hx
      refine Ev.blk (pc' := 26) (lv' := [some (vr 12 0 80), some (vi a1), none, none, none, none]) (st' := [vi (ii (-1))]) (h' := (wI h 80 0 (ii 0))) 14 1 (Nat.le_of_ble_eq_true rfl) tk_R_sink rfl rfl ⟨trivial, trivial⟩ ?_
      obtain rfl := Option.some.inj hx
      obtain ⟨rfl, rfl⟩ := hP
      exact Ev.iret 15 tk_R_sink rfl rfl
set_option maxRecDepth 4000 in
theorem s_R_season (Γ : AG) (h : AH) (x : Int32 × AH) (hx : f_R_season  h = some x) : MetA Γ m_R_season [vr 12 0 80] h (some (vi x.1)) x.2 := by
  refine Ev.met rfl rfl (Nat.le_of_ble_eq_true rfl) ?_
  show Ev Γ m_R_season 0 [some (vr 12 0 80)] [] h _ _
  obtain ⟨r, hr⟩ : ∃ r : Option AV, r = some (vi x.1) := ⟨_, rfl⟩
  obtain ⟨h', hh⟩ : ∃ h' : AH, h' = x.2 := ⟨_, rfl⟩
  have hP : r = some (vi x.1) ∧ h' = x.2 := ⟨hr, hh⟩
  suffices hS : Ev Γ m_R_season 0 [some (vr 12 0 80)] [] h r h' by rw [hr, hh] at hS; exact hS
  clear hr hh
  unfold f_R_season at hx
  refine Ev.blk (pc' := 9) (lv' := [some (vr 12 0 80)]) (st' := [vi ((wI h 80 0 (ii 0)).1 80 34)]) (h' := (wI h 80 0 (ii 0))) 0 5 (Nat.le_of_ble_eq_true rfl) tk_R_season rfl rfl ⟨trivial, trivial, trivial, trivial, trivial, trivial⟩ ?_
  refine Ev.if_ne 5 14 tk_R_season rfl (by decide) (fun hc1 => ?_) (fun hc1 => ?_)
  · replace hx := ia hc1 hx
    refine Ev.blk (pc' := 15) (lv' := [some (vr 12 0 80)]) (st' := [vr 12 0 80]) (h' := (wI h 80 0 (ii 0))) 8 1 (Nat.le_of_ble_eq_true rfl) tk_R_season rfl rfl ⟨trivial, trivial⟩ ?_
    obtain ⟨q1, hq2, hx⟩ := bd hx
    refine Ev.callV (ν := m_R_remember) (av := []) (rest := []) (r1 := none) (h1 := q1) (ci := 12) (nn := 0) (o := 80) 9 0 tk_R_season rfl bb_R_remember vv_R_remember lk_12_392 (by decide) rfl rfl (Or.inl rfl) (Nat.le_of_ble_eq_true rfl) (s_R_remember Γ (wI h 80 0 (ii 0)) _ hq2) ?_
    show Ev Γ m_R_season 18 [some (vr 12 0 80)] [] q1 r h'
    obtain ⟨hg3, hx⟩ := gd hx
    obtain ⟨hg4, hx⟩ := gd hx
    obtain ⟨hg5, hx⟩ := gd hx
    obtain ⟨hg6, hx⟩ := gd hx
    refine Ev.blk (pc' := 43) (lv' := [some (vr 12 0 80)]) (st' := [vi ((wI q1 97 (ii 45).toNatClampNeg (remI ((q1.1 97 (ii 45).toNatClampNeg) + (ii 1)) (ii 4))).1 97 (ii 45).toNatClampNeg)]) (h' := (wI q1 97 (ii 45).toNatClampNeg (remI ((q1.1 97 (ii 45).toNatClampNeg) + (ii 1)) (ii 4)))) 10 16 (Nat.le_of_ble_eq_true rfl) tk_R_season rfl rfl ⟨trivial, trivial, trivial, trivial, trivial, trivial, hg3, trivial, trivial, trivial, hg4, hg5, trivial, trivial, trivial, hg6, trivial⟩ ?_
    obtain rfl := Option.some.inj hx
    obtain ⟨rfl, rfl⟩ := hP
    exact Ev.iret 26 tk_R_season rfl rfl
  · replace hx := ip hc1 hx
    refine Ev.blk (pc' := 13) (lv' := [some (vr 12 0 80)]) (st' := [vi (ii (-1))]) (h' := (wI h 80 0 (ii 0))) 6 1 (Nat.le_of_ble_eq_true rfl) tk_R_season rfl rfl ⟨trivial, trivial⟩ ?_
    obtain rfl := Option.some.inj hx
    obtain ⟨rfl, rfl⟩ := hP
    exact Ev.iret 7 tk_R_season rfl rfl
set_option maxRecDepth 4000 in
theorem s_R_draw (Γ : AG) (a1 : Int32) (h : AH) (x : Int32 × AH) (hx : f_R_draw a1 h = some x) : MetA Γ m_R_draw [vr 12 0 80, vi a1] h (some (vi x.1)) x.2 := by
  refine Ev.met rfl rfl (Nat.le_of_ble_eq_true rfl) ?_
  show Ev Γ m_R_draw 0 [some (vr 12 0 80), some (vi a1)] [] h _ _
  obtain ⟨r, hr⟩ : ∃ r : Option AV, r = some (vi x.1) := ⟨_, rfl⟩
  obtain ⟨h', hh⟩ : ∃ h' : AH, h' = x.2 := ⟨_, rfl⟩
  have hP : r = some (vi x.1) ∧ h' = x.2 := ⟨hr, hh⟩
  suffices hS : Ev Γ m_R_draw 0 [some (vr 12 0 80), some (vi a1)] [] h r h' by rw [hr, hh] at hS; exact hS
  clear hr hh
  unfold f_R_draw at hx
  obtain ⟨hg1, hx⟩ := gd hx
  refine Ev.blk (pc' := 27) (lv' := [some (vr 12 0 80), some (vi a1)]) (st' := [vi ((remL (ushL ((wL h 80 46 (((h.2.1 80 46) * (Int64.ofInt 6364136223846793005)) + (Int64.ofInt 1442695040888963407))).2.1 80 46) (ii 33)) a1.toInt64).toInt32)]) (h' := (wL h 80 46 (((h.2.1 80 46) * (Int64.ofInt 6364136223846793005)) + (Int64.ofInt 1442695040888963407)))) 0 16 (Nat.le_of_ble_eq_true rfl) tk_R_draw rfl rfl ⟨trivial, trivial, trivial, trivial, trivial, trivial, trivial, trivial, trivial, trivial, trivial, trivial, trivial, trivial, hg1, trivial, trivial⟩ ?_
  obtain rfl := Option.some.inj hx
  obtain ⟨rfl, rfl⟩ := hP
  exact Ev.iret 16 tk_R_draw rfl rfl
set_option maxRecDepth 4000 in
theorem l_R_stroll_L37 (Γ : AG) : ∀ (n : Nat) (v1 : Int32) (v4 : Int32) (v5 : Int32) (h : AH) (x : Int32 × AH), R_stroll_L37 n v1 v4 v5 h = some x → ∀ (r : Option AV) (h' : AH), r = some (vi x.1) ∧ h' = x.2 → Ev Γ m_R_stroll 37 [some (vr 12 0 80), some (vi v1), none, none, some (vi v4), some (vi v5), none, none, none] [] h r h' := by
  intro n
  induction n with
  | zero => intro v1 v4 v5 h x hx; cases hx
  | succ n ih =>
    intro v1 v4 v5 h x hx r h' hP
    replace hx : R_stroll_L37_b (R_stroll_L37 n) v1 v4 v5 h = some x := hx
    unfold R_stroll_L37_b at hx
    refine Ev.blk (pc' := 40) (lv' := [some (vr 12 0 80), some (vi v1), none, none, some (vi v4), some (vi v5), none, none, none]) (st' := [vi v1, vi v5]) (h' := h) 21 2 (Nat.le_of_ble_eq_true rfl) tk_R_stroll rfl rfl ⟨trivial, trivial, trivial⟩ ?_
    refine Ev.icmp_ge 23 149 tk_R_stroll rfl (by decide) (fun hc1 => ?_) (fun hc1 => ?_)
    · replace hx := ip hc1 hx
      refine Ev.blk (pc' := 151) (lv' := [some (vr 12 0 80), some (vi v1), none, none, some (vi v4), some (vi v5), none, none, none]) (st' := [vi v4]) (h' := h) 78 1 (Nat.le_of_ble_eq_true rfl) tk_R_stroll rfl rfl ⟨trivial, trivial⟩ ?_
      obtain rfl := Option.some.inj hx
      obtain ⟨rfl, rfl⟩ := hP
      exact Ev.iret 79 tk_R_stroll rfl rfl
    · replace hx := ia hc1 hx
      refine Ev.blk (pc' := 48) (lv' := [some (vr 12 0 80), some (vi v1), none, none, some (vi v4), some (vi v5), none, none, none]) (st' := [vi (h.1 80 33), vr 12 0 80]) (h' := h) 24 3 (Nat.le_of_ble_eq_true rfl) tk_R_stroll rfl rfl ⟨trivial, trivial, trivial, trivial⟩ ?_
      obtain ⟨q1, hq2, hx⟩ := bd hx
      refine Ev.callV (ν := m_R_draw) (av := [vi (h.1 80 33)]) (rest := []) (r1 := some (vi q1.1)) (h1 := q1.2) (ci := 12) (nn := 0) (o := 80) 27 1 tk_R_stroll rfl bb_R_draw vv_R_draw lk_12_420 (by decide) rfl rfl (Or.inl rfl) (Nat.le_of_ble_eq_true rfl) (s_R_draw Γ (h.1 80 33) h _ hq2) ?_
      show Ev Γ m_R_stroll 51 [some (vr 12 0 80), some (vi v1), none, none, some (vi v4), some (vi v5), none, none, none] [vi q1.1] q1.2 r h'
      refine Ev.blk (pc' := 55) (lv' := [some (vr 12 0 80), some (vi v1), none, none, some (vi v4), some (vi v5), some (vi q1.1), none, none]) (st' := [vi (ii 4), vr 12 0 80]) (h' := q1.2) 28 3 (Nat.le_of_ble_eq_true rfl) tk_R_stroll rfl rfl ⟨trivial, trivial, trivial, trivial⟩ ?_
      obtain ⟨q2, hq3, hx⟩ := bd hx
      refine Ev.callV (ν := m_R_draw) (av := [vi (ii 4)]) (rest := []) (r1 := some (vi q2.1)) (h1 := q2.2) (ci := 12) (nn := 0) (o := 80) 31 1 tk_R_stroll rfl bb_R_draw vv_R_draw lk_12_420 (by decide) rfl rfl (Or.inl rfl) (Nat.le_of_ble_eq_true rfl) (s_R_draw Γ (ii 4) q1.2 _ hq3) ?_
      show Ev Γ m_R_stroll 58 [some (vr 12 0 80), some (vi v1), none, none, some (vi v4), some (vi v5), some (vi q1.1), none, none] [vi q2.1] q2.2 r h'
      refine Ev.blk (pc' := 69) (lv' := [some (vr 12 0 80), some (vi v1), none, none, some (vi v4), some (vi v5), some (vi q1.1), some (vi q2.1), none]) (st' := [vi q2.1, vi q1.1, vr 20 227 97, vr 12 0 80]) (h' := q2.2) 32 6 (Nat.le_of_ble_eq_true rfl) tk_R_stroll rfl rfl ⟨trivial, trivial, trivial, trivial, trivial, trivial, trivial⟩ ?_
      obtain ⟨q3, hq4, hx⟩ := bd hx
      refine Ev.callV (ν := m_R_whereTo) (av := [vr 20 227 97, vi q1.1, vi q2.1]) (rest := []) (r1 := some (vi q3)) (h1 := q2.2) (ci := 12) (nn := 0) (o := 80) 38 3 tk_R_stroll rfl bb_R_whereTo vv_R_whereTo lk_12_385 (by decide) rfl rfl (Or.inl rfl) (Nat.le_of_ble_eq_true rfl) (s_R_whereTo Γ 227 97 q1.1 q2.1 q2.2 _ hq4) ?_
      show Ev Γ m_R_stroll 72 [some (vr 12 0 80), some (vi v1), none, none, some (vi v4), some (vi v5), some (vi q1.1), some (vi q2.1), none] [vi q3] q2.2 r h'
      refine Ev.blk (pc' := 73) (lv' := [some (vr 12 0 80), some (vi v1), none, none, some (vi v4), some (vi v5), some (vi q1.1), some (vi q2.1), none]) (st' := [vi (ii (-1)), vi q3]) (h' := q2.2) 39 1 (Nat.le_of_ble_eq_true rfl) tk_R_stroll rfl rfl ⟨trivial, trivial⟩ ?_
      obtain ⟨q9, hq5, hx⟩ := bd hx
      have K6 : Ev Γ m_R_stroll 143 [some (vr 12 0 80), some (vi v1), none, none, some (vi q9.1), some (vi v5), none, none, none] [] q9.2 r h' := by
        refine Ev.blk (pc' := 37) (lv' := [some (vr 12 0 80), some (vi v1), none, none, some (vi q9.1), some (vi (v5 + ii 1)), none, none, none]) (st' := []) (h' := q9.2) 76 2 (Nat.le_of_ble_eq_true rfl) tk_R_stroll rfl rfl ⟨trivial, trivial, trivial⟩ ?_
        exact Ev.msk [true, true, false, false, true, true, false, false, false] (ih v1 q9.1 (v5 + ii 1) q9.2 _ hx r h' hP)
      clear hx
      refine Ev.icmp_ne 40 79 tk_R_stroll rfl (by decide) (fun hc7 => ?_) (fun hc7 => ?_)
      · replace hq5 := ia hc7 hq5
        refine Ev.blk (pc' := 80) (lv' := [some (vr 12 0 80), some (vi v1), none, none, some (vi v4), some (vi v5), some (vi q1.1), some (vi q2.1), none]) (st' := [vr 12 0 80]) (h' := q2.2) 42 1 (Nat.le_of_ble_eq_true rfl) tk_R_stroll rfl rfl ⟨trivial, trivial⟩ ?_
        obtain ⟨q4, hq8, hq5⟩ := bd hq5
        refine Ev.callV (ν := m_R_remember) (av := []) (rest := []) (r1 := none) (h1 := q4) (ci := 12) (nn := 0) (o := 80) 43 0 tk_R_stroll rfl bb_R_remember vv_R_remember lk_12_392 (by decide) rfl rfl (Or.inl rfl) (Nat.le_of_ble_eq_true rfl) (s_R_remember Γ q2.2 _ hq8) ?_
        show Ev Γ m_R_stroll 83 [some (vr 12 0 80), some (vi v1), none, none, some (vi v4), some (vi v5), some (vi q1.1), some (vi q2.1), none] [] q4 r h'
        refine Ev.blk (pc' := 92) (lv' := [some (vr 12 0 80), some (vi v1), none, none, some (vi v4), some (vi v5), some (vi q1.1), some (vi q2.1), none]) (st' := [vi q2.1, vi q1.1, vr 20 227 97, vr 12 0 80]) (h' := q4) 44 5 (Nat.le_of_ble_eq_true rfl) tk_R_stroll rfl rfl ⟨trivial, trivial, trivial, trivial, trivial, trivial⟩ ?_
        obtain ⟨q5, hq9, hq5⟩ := bd hq5
        refine Ev.callV (ν := m_R_goes) (av := [vr 20 227 97, vi q1.1, vi q2.1]) (rest := []) (r1 := some (vi q5.1)) (h1 := q5.2) (ci := 12) (nn := 0) (o := 80) 49 3 tk_R_stroll rfl bb_R_goes vv_R_goes lk_12_395 (by decide) rfl rfl (Or.inl rfl) (Nat.le_of_ble_eq_true rfl) (s_R_goes Γ 227 97 q1.1 q2.1 q4 _ hq9) ?_
        show Ev Γ m_R_stroll 95 [some (vr 12 0 80), some (vi v1), none, none, some (vi v4), some (vi v5), some (vi q1.1), some (vi q2.1), none] [vi q5.1] q5.2 r h'
        refine Ev.blk (pc' := 100) (lv' := [some (vr 12 0 80), some (vi v1), none, none, some (vi v4), some (vi v5), some (vi q1.1), some (vi q2.1), some (vi q5.1)]) (st' := [vi (ii 10), vr 12 0 80]) (h' := q5.2) 50 3 (Nat.le_of_ble_eq_true rfl) tk_R_stroll rfl rfl ⟨trivial, trivial, trivial, trivial⟩ ?_
        obtain ⟨q6, hq10, hq5⟩ := bd hq5
        refine Ev.callV (ν := m_R_draw) (av := [vi (ii 10)]) (rest := []) (r1 := some (vi q6.1)) (h1 := q6.2) (ci := 12) (nn := 0) (o := 80) 53 1 tk_R_stroll rfl bb_R_draw vv_R_draw lk_12_420 (by decide) rfl rfl (Or.inl rfl) (Nat.le_of_ble_eq_true rfl) (s_R_draw Γ (ii 10) q5.2 _ hq10) ?_
        show Ev Γ m_R_stroll 103 [some (vr 12 0 80), some (vi v1), none, none, some (vi v4), some (vi v5), some (vi q1.1), some (vi q2.1), some (vi q5.1)] [vi q6.1] q6.2 r h'
        refine Ev.blk (pc' := 107) (lv' := [some (vr 12 0 80), some (vi v1), none, none, some (vi v4), some (vi v5), some (vi q1.1), some (vi q2.1), some (vi q5.1)]) (st' := [vi (ii 4), vi q1.1, vr 12 0 80, vi q6.1]) (h' := q6.2) 54 3 (Nat.le_of_ble_eq_true rfl) tk_R_stroll rfl rfl ⟨trivial, trivial, trivial, trivial⟩ ?_
        obtain ⟨q7, hq11, hq5⟩ := bd hq5
        refine Ev.callV (ν := m_R_told) (av := [vi q1.1, vi (ii 4)]) (rest := [vi q6.1]) (r1 := some (vi q7)) (h1 := q6.2) (ci := 12) (nn := 0) (o := 80) 57 2 tk_R_stroll rfl bb_R_told vv_R_told lk_12_338 (by decide) rfl rfl (Or.inl rfl) (Nat.le_of_ble_eq_true rfl) (s_R_told Γ q1.1 (ii 4) q6.2 _ hq11) ?_
        show Ev Γ m_R_stroll 110 [some (vr 12 0 80), some (vi v1), none, none, some (vi v4), some (vi v5), some (vi q1.1), some (vi q2.1), some (vi q5.1)] [vi q7, vi q6.1] q6.2 r h'
        obtain ⟨q8, hq12, hq5⟩ := bd hq5
        have K13 : Ev Γ m_R_stroll 140 [some (vr 12 0 80), some (vi v1), none, none, some (vi v4), some (vi v5), none, none, none] [] q8 r h' := by
          refine Ev.blk (pc' := 143) (lv' := [some (vr 12 0 80), some (vi v1), none, none, some (vi (v4 + ii 1)), some (vi v5), none, none, none]) (st' := []) (h' := q8) 75 1 (Nat.le_of_ble_eq_true rfl) tk_R_stroll rfl rfl ⟨trivial, trivial⟩ ?_
          obtain rfl := Option.some.inj hq5
          exact Ev.msk [true, true, false, false, true, true, false, false, false] K6
        clear hq5
        refine Ev.icmp_ge 58 140 tk_R_stroll rfl (by decide) (fun hc14 => ?_) (fun hc14 => ?_)
        · replace hq12 := ip hc14 hq12
          obtain rfl := Option.some.inj hq12
          exact Ev.msk [true, true, false, false, true, true, false, false, false] K13
        · replace hq12 := ia hc14 hq12
          obtain ⟨hg15, hq12⟩ := gd hq12
          refine Ev.blk (pc' := 131) (lv' := [some (vr 12 0 80), some (vi v1), none, none, some (vi v4), some (vi v5), some (vi q1.1), some (vi q2.1), some (vi q5.1)]) (st' := [vi q5.1, vi ((ii 46) + ((ii 3) * (q6.2.1 97 (ii 46).toNatClampNeg))), vr 20 227 97]) (h' := q6.2) 59 11 (Nat.le_of_ble_eq_true rfl) tk_R_stroll rfl rfl ⟨trivial, trivial, trivial, trivial, trivial, trivial, trivial, hg15, trivial, trivial, trivial, trivial⟩ ?_
          have K16 : ∀ v16_0 : Int32, v16_0 = (if q5.1 ≤ 0 then (ii 1) else (ii 0)) → Ev Γ m_R_stroll 139 [some (vr 12 0 80), some (vi v1), none, none, some (vi v4), some (vi v5), none, none, none] [vi v16_0, vi ((ii 46) + ((ii 3) * (q6.2.1 97 (ii 46).toNatClampNeg))), vr 20 227 97] q6.2 r h' := by
            intro v16_0 e17
            subst e17
            obtain ⟨hg18, hq12⟩ := gd hq12
            refine Ev.blk (pc' := 140) (lv' := [some (vr 12 0 80), some (vi v1), none, none, some (vi v4), some (vi v5), none, none, none]) (st' := []) (h' := (wI q6.2 97 ((ii 46) + ((ii 3) * (q6.2.1 97 (ii 46).toNatClampNeg))).toNatClampNeg (if q5.1 ≤ 0 then (ii 1) else (ii 0)))) 74 1 (Nat.le_of_ble_eq_true rfl) tk_R_stroll rfl rfl ⟨hg18, trivial⟩ ?_
            obtain rfl := Option.some.inj hq12
            exact Ev.msk [true, true, false, false, true, true, false, false, false] K13
          refine Ev.if_le 70 138 tk_R_stroll rfl (by decide) (fun hc19 => ?_) (fun hc19 => ?_)
          · refine Ev.blk (pc' := 139) (lv' := [some (vr 12 0 80), some (vi v1), none, none, some (vi v4), some (vi v5), some (vi q1.1), some (vi q2.1), some (vi q5.1)]) (st' := [vi (ii 1), vi ((ii 46) + ((ii 3) * (q6.2.1 97 (ii 46).toNatClampNeg))), vr 20 227 97]) (h' := q6.2) 73 1 (Nat.le_of_ble_eq_true rfl) tk_R_stroll rfl rfl ⟨trivial, trivial⟩ ?_
            exact Ev.msk [true, true, false, false, true, true, false, false, false] (K16 _ (by first | rfl | simp only [if_pos hc19]))
          · refine Ev.blk (pc' := 139) (lv' := [some (vr 12 0 80), some (vi v1), none, none, some (vi v4), some (vi v5), some (vi q1.1), some (vi q2.1), some (vi q5.1)]) (st' := [vi (ii 0), vi ((ii 46) + ((ii 3) * (q6.2.1 97 (ii 46).toNatClampNeg))), vr 20 227 97]) (h' := q6.2) 71 2 (Nat.le_of_ble_eq_true rfl) tk_R_stroll rfl rfl ⟨trivial, trivial, trivial⟩ ?_
            exact Ev.msk [true, true, false, false, true, true, false, false, false] (K16 _ (by first | rfl | simp only [if_neg hc19]))
      · replace hq5 := ip hc7 hq5
        refine Ev.blk (pc' := 143) (lv' := [some (vr 12 0 80), some (vi v1), none, none, some (vi v4), some (vi v5), some (vi q1.1), some (vi q2.1), none]) (st' := []) (h' := q2.2) 41 1 (Nat.le_of_ble_eq_true rfl) tk_R_stroll rfl rfl ⟨trivial, trivial⟩ ?_
        obtain rfl := Option.some.inj hq5
        exact Ev.msk [true, true, false, false, true, true, false, false, false] K6
set_option maxRecDepth 4000 in
theorem s_R_stroll (Γ : AG) (a1 : Int32) (a2 : Int64) (h : AH) (x : Int32 × AH) (hx : f_R_stroll a1 a2 h = some x) : MetA Γ m_R_stroll [vr 12 0 80, vi a1, vl a2] h (some (vi x.1)) x.2 := by
  refine Ev.met rfl rfl (Nat.le_of_ble_eq_true rfl) ?_
  show Ev Γ m_R_stroll 0 [some (vr 12 0 80), some (vi a1), some (vl a2), none, none, none, none, none, none] [] h _ _
  obtain ⟨r, hr⟩ : ∃ r : Option AV, r = some (vi x.1) := ⟨_, rfl⟩
  obtain ⟨h', hh⟩ : ∃ h' : AH, h' = x.2 := ⟨_, rfl⟩
  have hP : r = some (vi x.1) ∧ h' = x.2 := ⟨hr, hh⟩
  suffices hS : Ev Γ m_R_stroll 0 [some (vr 12 0 80), some (vi a1), some (vl a2), none, none, none, none, none, none] [] h r h' by rw [hr, hh] at hS; exact hS
  clear hr hh
  unfold f_R_stroll at hx
  refine Ev.blk (pc' := 9) (lv' := [some (vr 12 0 80), some (vi a1), some (vl a2), none, none, none, none, none, none]) (st' := [vi ((wI h 80 0 (ii 0)).1 80 34)]) (h' := (wI h 80 0 (ii 0))) 0 5 (Nat.le_of_ble_eq_true rfl) tk_R_stroll rfl rfl ⟨trivial, trivial, trivial, trivial, trivial, trivial⟩ ?_
  refine Ev.if_eq 5 24 tk_R_stroll rfl (by decide) (fun hc1 => ?_) (fun hc1 => ?_)
  · replace hx := ip hc1 hx
    refine Ev.blk (pc' := 25) (lv' := [some (vr 12 0 80), some (vi a1), some (vl a2), none, none, none, none, none, none]) (st' := [vi (ii (-1))]) (h' := (wI h 80 0 (ii 0))) 12 1 (Nat.le_of_ble_eq_true rfl) tk_R_stroll rfl rfl ⟨trivial, trivial⟩ ?_
    obtain rfl := Option.some.inj hx
    obtain ⟨rfl, rfl⟩ := hP
    exact Ev.iret 13 tk_R_stroll rfl rfl
  · replace hx := ia hc1 hx
    refine Ev.blk (pc' := 18) (lv' := [some (vr 12 0 80), some (vi a1), some (vl a2), none, none, none, none, none, none]) (st' := [vl (Int64.ofInt 60), vl (Int64.ofNat 1), vl a1.toInt64]) (h' := (wI h 80 0 (ii 0))) 6 4 (Nat.le_of_ble_eq_true rfl) tk_R_stroll rfl rfl ⟨trivial, trivial, trivial, trivial, trivial⟩ ?_
    refine Ev.callS (ν := m_R_isIn) (av := [vl a1.toInt64, vl (Int64.ofNat 1), vl (Int64.ofInt 60)]) (rest := []) (r1 := some (vi (p_R_isIn a1.toInt64 (Int64.ofNat 1) (Int64.ofInt 60)))) (h1 := (wI h 80 0 (ii 0))) 10 3 tk_R_stroll rfl bb_R_isIn vv_R_isIn lk_12_223 (by decide) rfl rfl (Nat.le_of_ble_eq_true rfl) (s_R_isIn Γ a1.toInt64 (Int64.ofNat 1) (Int64.ofInt 60) (wI h 80 0 (ii 0))) ?_
    show Ev Γ m_R_stroll 21 [some (vr 12 0 80), some (vi a1), some (vl a2), none, none, none, none, none, none] [vi (p_R_isIn a1.toInt64 (Int64.ofNat 1) (Int64.ofInt 60))] (wI h 80 0 (ii 0)) r h'
    refine Ev.if_ne 11 26 tk_R_stroll rfl (by decide) (fun hc2 => ?_) (fun hc2 => ?_)
    · replace hx := ia hc2 hx
      refine Ev.blk (pc' := 37) (lv' := [some (vr 12 0 80), some (vi a1), some (vl a2), none, some (vi (ii 0)), some (vi (ii 0)), none, none, none]) (st' := []) (h' := (wL (wI h 80 0 (ii 0)) 80 46 a2)) 14 7 (Nat.le_of_ble_eq_true rfl) tk_R_stroll rfl rfl ⟨trivial, trivial, trivial, trivial, trivial, trivial, trivial, trivial⟩ ?_
      refine Ev.msk [true, true, false, false, true, true, false, false, false] ?_
      show Ev Γ m_R_stroll 37 [some (vr 12 0 80), some (vi a1), none, none, some (vi (ii 0)), some (vi (ii 0)), none, none, none] [] (wL (wI h 80 0 (ii 0)) 80 46 a2) r h'
      exact l_R_stroll_L37 Γ FU a1 (ii 0) (ii 0) (wL (wI h 80 0 (ii 0)) 80 46 a2) _ hx r h' hP
    · replace hx := ip hc2 hx
      refine Ev.blk (pc' := 25) (lv' := [some (vr 12 0 80), some (vi a1), some (vl a2), none, none, none, none, none, none]) (st' := [vi (ii (-1))]) (h' := (wI h 80 0 (ii 0))) 12 1 (Nat.le_of_ble_eq_true rfl) tk_R_stroll rfl rfl ⟨trivial, trivial⟩ ?_
      obtain rfl := Option.some.inj hx
      obtain ⟨rfl, rfl⟩ := hP
      exact Ev.iret 13 tk_R_stroll rfl rfl
set_option maxRecDepth 4000 in
theorem l_R_undo_L26 (Γ : AG) : ∀ (n : Nat) (v1 : Int32) (h : AH) (x : Int32 × AH), R_undo_L26 n v1 h = some x → ∀ (r : Option AV) (h' : AH), r = some (vi x.1) ∧ h' = x.2 → Ev Γ m_R_undo 26 [some (vr 12 0 80), some (vi v1)] [] h r h' := by
  intro n
  induction n with
  | zero => intro v1 h x hx; cases hx
  | succ n ih =>
    intro v1 h x hx r h' hP
    replace hx : R_undo_L26_b (R_undo_L26 n) v1 h = some x := hx
    unfold R_undo_L26_b at hx
    refine Ev.blk (pc' := 30) (lv' := [some (vr 12 0 80), some (vi v1)]) (st' := [vi (ii 227), vi v1]) (h' := h) 16 2 (Nat.le_of_ble_eq_true rfl) tk_R_undo rfl rfl ⟨trivial, trivial, trivial⟩ ?_
    refine Ev.icmp_ge 18 60 tk_R_undo rfl (by decide) (fun hc1 => ?_) (fun hc1 => ?_)
    · replace hx := ip hc1 hx
      refine Ev.blk (pc' := 64) (lv' := [some (vr 12 0 80), some (vi v1)]) (st' := [vi (h.1 80 45)]) (h' := h) 34 2 (Nat.le_of_ble_eq_true rfl) tk_R_undo rfl rfl ⟨trivial, trivial, trivial⟩ ?_
      obtain rfl := Option.some.inj hx
      obtain ⟨rfl, rfl⟩ := hP
      exact Ev.iret 36 tk_R_undo rfl rfl
    · replace hx := ia hc1 hx
      obtain ⟨hg2, hx⟩ := gd hx
      obtain ⟨hg3, hx⟩ := gd hx
      refine Ev.blk (pc' := 26) (lv' := [some (vr 12 0 80), some (vi (v1 + ii 1))]) (st' := []) (h' := (wI h 97 v1.toNatClampNeg (h.1 99 (((ii 227) * (h.1 80 45)) + v1).toNatClampNeg))) 19 15 (Nat.le_of_ble_eq_true rfl) tk_R_undo rfl rfl ⟨trivial, trivial, trivial, trivial, trivial, trivial, trivial, trivial, trivial, trivial, trivial, hg2, hg3, trivial, trivial, trivial⟩ ?_
      exact Ev.msk [true, true] (ih (v1 + ii 1) (wI h 97 v1.toNatClampNeg (h.1 99 (((ii 227) * (h.1 80 45)) + v1).toNatClampNeg)) _ hx r h' hP)
set_option maxRecDepth 4000 in
theorem s_R_undo (Γ : AG) (h : AH) (x : Int32 × AH) (hx : f_R_undo  h = some x) : MetA Γ m_R_undo [vr 12 0 80] h (some (vi x.1)) x.2 := by
  refine Ev.met rfl rfl (Nat.le_of_ble_eq_true rfl) ?_
  show Ev Γ m_R_undo 0 [some (vr 12 0 80), none] [] h _ _
  obtain ⟨r, hr⟩ : ∃ r : Option AV, r = some (vi x.1) := ⟨_, rfl⟩
  obtain ⟨h', hh⟩ : ∃ h' : AH, h' = x.2 := ⟨_, rfl⟩
  have hP : r = some (vi x.1) ∧ h' = x.2 := ⟨hr, hh⟩
  suffices hS : Ev Γ m_R_undo 0 [some (vr 12 0 80), none] [] h r h' by rw [hr, hh] at hS; exact hS
  clear hr hh
  unfold f_R_undo at hx
  refine Ev.blk (pc' := 9) (lv' := [some (vr 12 0 80), none]) (st' := [vi ((wI h 80 0 (ii 0)).1 80 45)]) (h' := (wI h 80 0 (ii 0))) 0 5 (Nat.le_of_ble_eq_true rfl) tk_R_undo rfl rfl ⟨trivial, trivial, trivial, trivial, trivial, trivial⟩ ?_
  refine Ev.if_ne 5 14 tk_R_undo rfl (by decide) (fun hc1 => ?_) (fun hc1 => ?_)
  · replace hx := ia hc1 hx
    refine Ev.blk (pc' := 26) (lv' := [some (vr 12 0 80), some (vi (ii 0))]) (st' := []) (h' := (wI (wI h 80 0 (ii 0)) 80 45 (((wI h 80 0 (ii 0)).1 80 45) - (ii 1)))) 8 8 (Nat.le_of_ble_eq_true rfl) tk_R_undo rfl rfl ⟨trivial, trivial, trivial, trivial, trivial, trivial, trivial, trivial, trivial⟩ ?_
    refine Ev.msk [true, true] ?_
    show Ev Γ m_R_undo 26 [some (vr 12 0 80), some (vi (ii 0))] [] (wI (wI h 80 0 (ii 0)) 80 45 (((wI h 80 0 (ii 0)).1 80 45) - (ii 1))) r h'
    exact l_R_undo_L26 Γ FU (ii 0) (wI (wI h 80 0 (ii 0)) 80 45 (((wI h 80 0 (ii 0)).1 80 45) - (ii 1))) _ hx r h' hP
  · replace hx := ip hc1 hx
    refine Ev.blk (pc' := 13) (lv' := [some (vr 12 0 80), none]) (st' := [vi (ii (-1))]) (h' := (wI h 80 0 (ii 0))) 6 1 (Nat.le_of_ble_eq_true rfl) tk_R_undo rfl rfl ⟨trivial, trivial⟩ ?_
    obtain rfl := Option.some.inj hx
    obtain ⟨rfl, rfl⟩ := hP
    exact Ev.iret 7 tk_R_undo rfl rfl
set_option maxRecDepth 4000 in
theorem s_R_book (Γ : AG) (a1 : Int32) (a2 : Int32) (h : AH) (x : Int32 × AH) (hx : f_R_book a1 a2 h = some x) : MetA Γ m_R_book [vr 12 0 80, vi a1, vi a2] h (some (vi x.1)) x.2 := by
  refine Ev.met rfl rfl (Nat.le_of_ble_eq_true rfl) ?_
  show Ev Γ m_R_book 0 [some (vr 12 0 80), some (vi a1), some (vi a2)] [] h _ _
  obtain ⟨r, hr⟩ : ∃ r : Option AV, r = some (vi x.1) := ⟨_, rfl⟩
  obtain ⟨h', hh⟩ : ∃ h' : AH, h' = x.2 := ⟨_, rfl⟩
  have hP : r = some (vi x.1) ∧ h' = x.2 := ⟨hr, hh⟩
  suffices hS : Ev Γ m_R_book 0 [some (vr 12 0 80), some (vi a1), some (vi a2)] [] h r h' by rw [hr, hh] at hS; exact hS
  clear hr hh
  unfold f_R_book at hx
  obtain ⟨hg1, hx⟩ := gd hx
  refine Ev.blk (pc' := 18) (lv' := [some (vr 12 0 80), some (vi a1), some (vi a2)]) (st' := [vl ((((wI h 80 0 (ii 0)).1 97 (ii 46).toNatClampNeg) - (ii 1)).toInt64), vl (Int64.ofNat 0), vl a1.toInt64]) (h' := (wI h 80 0 (ii 0))) 0 13 (Nat.le_of_ble_eq_true rfl) tk_R_book rfl rfl ⟨trivial, trivial, trivial, trivial, trivial, trivial, trivial, trivial, trivial, hg1, trivial, trivial, trivial, trivial⟩ ?_
  refine Ev.callS (ν := m_R_isIn) (av := [vl a1.toInt64, vl (Int64.ofNat 0), vl ((((wI h 80 0 (ii 0)).1 97 (ii 46).toNatClampNeg) - (ii 1)).toInt64)]) (rest := []) (r1 := some (vi (p_R_isIn a1.toInt64 (Int64.ofNat 0) ((((wI h 80 0 (ii 0)).1 97 (ii 46).toNatClampNeg) - (ii 1)).toInt64)))) (h1 := (wI h 80 0 (ii 0))) 13 3 tk_R_book rfl bb_R_isIn vv_R_isIn lk_12_223 (by decide) rfl rfl (Nat.le_of_ble_eq_true rfl) (s_R_isIn Γ a1.toInt64 (Int64.ofNat 0) ((((wI h 80 0 (ii 0)).1 97 (ii 46).toNatClampNeg) - (ii 1)).toInt64) (wI h 80 0 (ii 0))) ?_
  show Ev Γ m_R_book 21 [some (vr 12 0 80), some (vi a1), some (vi a2)] [vi (p_R_isIn a1.toInt64 (Int64.ofNat 0) ((((wI h 80 0 (ii 0)).1 97 (ii 46).toNatClampNeg) - (ii 1)).toInt64))] (wI h 80 0 (ii 0)) r h'
  refine Ev.if_eq 14 62 tk_R_book rfl (by decide) (fun hc2 => ?_) (fun hc2 => ?_)
  · replace hx := ip hc2 hx
    refine Ev.blk (pc' := 63) (lv' := [some (vr 12 0 80), some (vi a1), some (vi a2)]) (st' := [vi (ii (-1))]) (h' := (wI h 80 0 (ii 0))) 39 1 (Nat.le_of_ble_eq_true rfl) tk_R_book rfl rfl ⟨trivial, trivial⟩ ?_
    obtain rfl := Option.some.inj hx
    obtain ⟨rfl, rfl⟩ := hP
    exact Ev.iret 40 tk_R_book rfl rfl
  · replace hx := ia hc2 hx
    refine Ev.blk (pc' := 30) (lv' := [some (vr 12 0 80), some (vi a1), some (vi a2)]) (st' := [vl (Int64.ofInt 2), vl (Int64.ofNat 0), vl a2.toInt64]) (h' := (wI h 80 0 (ii 0))) 15 4 (Nat.le_of_ble_eq_true rfl) tk_R_book rfl rfl ⟨trivial, trivial, trivial, trivial, trivial⟩ ?_
    refine Ev.callS (ν := m_R_isIn) (av := [vl a2.toInt64, vl (Int64.ofNat 0), vl (Int64.ofInt 2)]) (rest := []) (r1 := some (vi (p_R_isIn a2.toInt64 (Int64.ofNat 0) (Int64.ofInt 2)))) (h1 := (wI h 80 0 (ii 0))) 19 3 tk_R_book rfl bb_R_isIn vv_R_isIn lk_12_223 (by decide) rfl rfl (Nat.le_of_ble_eq_true rfl) (s_R_isIn Γ a2.toInt64 (Int64.ofNat 0) (Int64.ofInt 2) (wI h 80 0 (ii 0))) ?_
    show Ev Γ m_R_book 33 [some (vr 12 0 80), some (vi a1), some (vi a2)] [vi (p_R_isIn a2.toInt64 (Int64.ofNat 0) (Int64.ofInt 2))] (wI h 80 0 (ii 0)) r h'
    refine Ev.if_eq 20 62 tk_R_book rfl (by decide) (fun hc3 => ?_) (fun hc3 => ?_)
    · replace hx := ip hc3 hx
      refine Ev.blk (pc' := 63) (lv' := [some (vr 12 0 80), some (vi a1), some (vi a2)]) (st' := [vi (ii (-1))]) (h' := (wI h 80 0 (ii 0))) 39 1 (Nat.le_of_ble_eq_true rfl) tk_R_book rfl rfl ⟨trivial, trivial⟩ ?_
      obtain rfl := Option.some.inj hx
      obtain ⟨rfl, rfl⟩ := hP
      exact Ev.iret 40 tk_R_book rfl rfl
    · replace hx := ia hc3 hx
      obtain ⟨hg4, hx⟩ := gd hx
      obtain ⟨hg5, hx⟩ := gd hx
      refine Ev.blk (pc' := 63) (lv' := [some (vr 12 0 80), some (vi a1), some (vi a2)]) (st' := [vi ((wI h 80 0 (ii 0)).1 97 (((ii 47) + ((ii 3) * ((((wI h 80 0 (ii 0)).1 97 (ii 46).toNatClampNeg) - (ii 1)) - a1))) + a2).toNatClampNeg)]) (h' := (wI h 80 0 (ii 0))) 21 18 (Nat.le_of_ble_eq_true rfl) tk_R_book rfl rfl ⟨trivial, trivial, trivial, trivial, trivial, trivial, trivial, hg4, trivial, trivial, trivial, trivial, trivial, trivial, trivial, trivial, hg5, trivial, trivial⟩ ?_
      obtain rfl := Option.some.inj hx
      obtain ⟨rfl, rfl⟩ := hP
      exact Ev.iret 40 tk_R_book rfl rfl
theorem s_R_isWalk (Γ : AG) (a1 : Int32) (h : AH) : MetA Γ m_R_isWalk [vr 12 0 80, vi a1] h (some (vi (p_R_isWalk a1 h))) h := by
  refine Ev.met rfl rfl (Nat.le_of_ble_eq_true rfl) ?_
  generalize hx : p_R_isWalk a1 h = x
  show Ev Γ m_R_isWalk 0 [some (vr 12 0 80), some (vi a1)] [] h _ _
  obtain ⟨r, hr⟩ : ∃ r : Option AV, r = some (vi x) := ⟨_, rfl⟩
  obtain ⟨h', hh⟩ : ∃ h' : AH, h' = h := ⟨_, rfl⟩
  have hP : r = some (vi x) ∧ h' = h := ⟨hr, hh⟩
  suffices hS : Ev Γ m_R_isWalk 0 [some (vr 12 0 80), some (vi a1)] [] h r h' by rw [hr, hh] at hS; exact hS
  clear hr hh
  unfold p_R_isWalk at hx
  refine Ev.blk (pc' := 1) (lv' := [some (vr 12 0 80), some (vi a1)]) (st' := [vi a1]) (h' := h) 0 1 (Nat.le_of_ble_eq_true rfl) tk_R_isWalk rfl rfl ⟨trivial, trivial⟩ ?_
  refine Ev.if_lt 1 16 tk_R_isWalk rfl (by decide) (fun hc1 => ?_) (fun hc1 => ?_)
  · replace hx := ip hc1 hx
    refine Ev.blk (pc' := 17) (lv' := [some (vr 12 0 80), some (vi a1)]) (st' := [vi (ii 0)]) (h' := h) 8 1 (Nat.le_of_ble_eq_true rfl) tk_R_isWalk rfl rfl ⟨trivial, trivial⟩ ?_
    subst hx
    obtain ⟨rfl, rfl⟩ := hP
    exact Ev.zret 9 tk_R_isWalk rfl rfl rfl
  · replace hx := ia hc1 hx
    refine Ev.blk (pc' := 9) (lv' := [some (vr 12 0 80), some (vi a1)]) (st' := [vi (h.1 80 39), vi a1]) (h' := h) 2 3 (Nat.le_of_ble_eq_true rfl) tk_R_isWalk rfl rfl ⟨trivial, trivial, trivial, trivial⟩ ?_
    refine Ev.icmp_ge 5 16 tk_R_isWalk rfl (by decide) (fun hc2 => ?_) (fun hc2 => ?_)
    · replace hx := ip hc2 hx
      refine Ev.blk (pc' := 17) (lv' := [some (vr 12 0 80), some (vi a1)]) (st' := [vi (ii 0)]) (h' := h) 8 1 (Nat.le_of_ble_eq_true rfl) tk_R_isWalk rfl rfl ⟨trivial, trivial⟩ ?_
      subst hx
      obtain ⟨rfl, rfl⟩ := hP
      exact Ev.zret 9 tk_R_isWalk rfl rfl rfl
    · replace hx := ia hc2 hx
      refine Ev.blk (pc' := 17) (lv' := [some (vr 12 0 80), some (vi a1)]) (st' := [vi (ii 1)]) (h' := h) 6 2 (Nat.le_of_ble_eq_true rfl) tk_R_isWalk rfl rfl ⟨trivial, trivial, trivial⟩ ?_
      subst hx
      obtain ⟨rfl, rfl⟩ := hP
      exact Ev.zret 9 tk_R_isWalk rfl rfl rfl
set_option maxRecDepth 4000 in
theorem s_R_step (Γ : AG) (a1 : Int32) (a2 : Int32) (a3 : Int32) (h : AH) (x : Int32 × AH) (hx : f_R_step a1 a2 a3 h = some x) : MetA Γ m_R_step [vr 12 0 80, vi a1, vi a2, vi a3] h (some (vi x.1)) x.2 := by
  refine Ev.met rfl rfl (Nat.le_of_ble_eq_true rfl) ?_
  show Ev Γ m_R_step 0 [some (vr 12 0 80), some (vi a1), some (vi a2), some (vi a3)] [] h _ _
  obtain ⟨r, hr⟩ : ∃ r : Option AV, r = some (vi x.1) := ⟨_, rfl⟩
  obtain ⟨h', hh⟩ : ∃ h' : AH, h' = x.2 := ⟨_, rfl⟩
  have hP : r = some (vi x.1) ∧ h' = x.2 := ⟨hr, hh⟩
  suffices hS : Ev Γ m_R_step 0 [some (vr 12 0 80), some (vi a1), some (vi a2), some (vi a3)] [] h r h' by rw [hr, hh] at hS; exact hS
  clear hr hh
  unfold f_R_step at hx
  refine Ev.blk (pc' := 7) (lv' := [some (vr 12 0 80), some (vi a1), some (vi a2), some (vi a3)]) (st' := [vi a1, vr 12 0 80]) (h' := (wI h 80 0 (ii 0))) 0 5 (Nat.le_of_ble_eq_true rfl) tk_R_step rfl rfl ⟨trivial, trivial, trivial, trivial, trivial, trivial⟩ ?_
  refine Ev.callV (ν := m_R_isWalk) (av := [vi a1]) (rest := []) (r1 := some (vi (p_R_isWalk a1 (wI h 80 0 (ii 0))))) (h1 := (wI h 80 0 (ii 0))) (ci := 12) (nn := 0) (o := 80) 5 1 tk_R_step rfl bb_R_isWalk vv_R_isWalk lk_12_423 (by decide) rfl rfl (Or.inl rfl) (Nat.le_of_ble_eq_true rfl) (s_R_isWalk Γ a1 (wI h 80 0 (ii 0))) ?_
  show Ev Γ m_R_step 10 [some (vr 12 0 80), some (vi a1), some (vi a2), some (vi a3)] [vi (p_R_isWalk a1 (wI h 80 0 (ii 0)))] (wI h 80 0 (ii 0)) r h'
  refine Ev.if_eq 6 59 tk_R_step rfl (by decide) (fun hc1 => ?_) (fun hc1 => ?_)
  · replace hx := ip hc1 hx
    refine Ev.blk (pc' := 60) (lv' := [some (vr 12 0 80), some (vi a1), some (vi a2), some (vi a3)]) (st' := [vi (ii (-1))]) (h' := (wI h 80 0 (ii 0))) 38 1 (Nat.le_of_ble_eq_true rfl) tk_R_step rfl rfl ⟨trivial, trivial⟩ ?_
    obtain rfl := Option.some.inj hx
    obtain ⟨rfl, rfl⟩ := hP
    exact Ev.iret 39 tk_R_step rfl rfl
  · replace hx := ia hc1 hx
    obtain ⟨hg2, hx⟩ := gd hx
    refine Ev.blk (pc' := 25) (lv' := [some (vr 12 0 80), some (vi a1), some (vi a2), some (vi a3)]) (st' := [vl ((((wI h 80 0 (ii 0)).1 96 (a1).toNatClampNeg) - (ii 1)).toInt64), vl (Int64.ofNat 0), vl a2.toInt64]) (h' := (wI h 80 0 (ii 0))) 7 10 (Nat.le_of_ble_eq_true rfl) tk_R_step rfl rfl ⟨trivial, trivial, trivial, trivial, trivial, trivial, hg2, trivial, trivial, trivial, trivial⟩ ?_
    refine Ev.callS (ν := m_R_isIn) (av := [vl a2.toInt64, vl (Int64.ofNat 0), vl ((((wI h 80 0 (ii 0)).1 96 (a1).toNatClampNeg) - (ii 1)).toInt64)]) (rest := []) (r1 := some (vi (p_R_isIn a2.toInt64 (Int64.ofNat 0) ((((wI h 80 0 (ii 0)).1 96 (a1).toNatClampNeg) - (ii 1)).toInt64)))) (h1 := (wI h 80 0 (ii 0))) 17 3 tk_R_step rfl bb_R_isIn vv_R_isIn lk_12_223 (by decide) rfl rfl (Nat.le_of_ble_eq_true rfl) (s_R_isIn Γ a2.toInt64 (Int64.ofNat 0) ((((wI h 80 0 (ii 0)).1 96 (a1).toNatClampNeg) - (ii 1)).toInt64) (wI h 80 0 (ii 0))) ?_
    show Ev Γ m_R_step 28 [some (vr 12 0 80), some (vi a1), some (vi a2), some (vi a3)] [vi (p_R_isIn a2.toInt64 (Int64.ofNat 0) ((((wI h 80 0 (ii 0)).1 96 (a1).toNatClampNeg) - (ii 1)).toInt64))] (wI h 80 0 (ii 0)) r h'
    refine Ev.if_eq 18 59 tk_R_step rfl (by decide) (fun hc3 => ?_) (fun hc3 => ?_)
    · replace hx := ip hc3 hx
      refine Ev.blk (pc' := 60) (lv' := [some (vr 12 0 80), some (vi a1), some (vi a2), some (vi a3)]) (st' := [vi (ii (-1))]) (h' := (wI h 80 0 (ii 0))) 38 1 (Nat.le_of_ble_eq_true rfl) tk_R_step rfl rfl ⟨trivial, trivial⟩ ?_
      obtain rfl := Option.some.inj hx
      obtain ⟨rfl, rfl⟩ := hP
      exact Ev.iret 39 tk_R_step rfl rfl
    · replace hx := ia hc3 hx
      refine Ev.blk (pc' := 35) (lv' := [some (vr 12 0 80), some (vi a1), some (vi a2), some (vi a3)]) (st' := [vl (Int64.ofNat 1), vl (Int64.ofNat 0), vl a3.toInt64]) (h' := (wI h 80 0 (ii 0))) 19 4 (Nat.le_of_ble_eq_true rfl) tk_R_step rfl rfl ⟨trivial, trivial, trivial, trivial, trivial⟩ ?_
      refine Ev.callS (ν := m_R_isIn) (av := [vl a3.toInt64, vl (Int64.ofNat 0), vl (Int64.ofNat 1)]) (rest := []) (r1 := some (vi (p_R_isIn a3.toInt64 (Int64.ofNat 0) (Int64.ofNat 1)))) (h1 := (wI h 80 0 (ii 0))) 23 3 tk_R_step rfl bb_R_isIn vv_R_isIn lk_12_223 (by decide) rfl rfl (Nat.le_of_ble_eq_true rfl) (s_R_isIn Γ a3.toInt64 (Int64.ofNat 0) (Int64.ofNat 1) (wI h 80 0 (ii 0))) ?_
      show Ev Γ m_R_step 38 [some (vr 12 0 80), some (vi a1), some (vi a2), some (vi a3)] [vi (p_R_isIn a3.toInt64 (Int64.ofNat 0) (Int64.ofNat 1))] (wI h 80 0 (ii 0)) r h'
      refine Ev.if_eq 24 59 tk_R_step rfl (by decide) (fun hc4 => ?_) (fun hc4 => ?_)
      · replace hx := ip hc4 hx
        refine Ev.blk (pc' := 60) (lv' := [some (vr 12 0 80), some (vi a1), some (vi a2), some (vi a3)]) (st' := [vi (ii (-1))]) (h' := (wI h 80 0 (ii 0))) 38 1 (Nat.le_of_ble_eq_true rfl) tk_R_step rfl rfl ⟨trivial, trivial⟩ ?_
        obtain rfl := Option.some.inj hx
        obtain ⟨rfl, rfl⟩ := hP
        exact Ev.iret 39 tk_R_step rfl rfl
      · replace hx := ia hc4 hx
        obtain ⟨hg5, hx⟩ := gd hx
        refine Ev.blk (pc' := 60) (lv' := [some (vr 12 0 80), some (vi a1), some (vi a2), some (vi a3)]) (st' := [vi ((wI h 80 0 (ii 0)).1 95 (((ii 2) * (((ii 64) * a1) + a2)) + a3).toNatClampNeg)]) (h' := (wI h 80 0 (ii 0))) 25 13 (Nat.le_of_ble_eq_true rfl) tk_R_step rfl rfl ⟨trivial, trivial, trivial, trivial, trivial, trivial, trivial, trivial, trivial, trivial, trivial, hg5, trivial, trivial⟩ ?_
        obtain rfl := Option.some.inj hx
        obtain ⟨rfl, rfl⟩ := hP
        exact Ev.iret 39 tk_R_step rfl rfl
set_option maxRecDepth 4000 in
theorem l_R_run_L50 (Γ : AG) : ∀ (n : Nat) (v1 : Int32) (v2 : Int32) (v3 : Int32) (v4 : Int32) (h : AH) (x : Int32 × AH), R_run_L50 n v1 v2 v3 v4 h = some x → ∀ (r : Option AV) (h' : AH), r = some (vi x.1) ∧ h' = x.2 → Ev Γ m_R_run 50 [some (vr 12 0 80), some (vi v1), some (vi v2), some (vi v3), some (vi v4)] [] h r h' := by
  intro n
  induction n with
  | zero => intro v1 v2 v3 v4 h x hx; cases hx
  | succ n ih =>
    intro v1 v2 v3 v4 h x hx r h' hP
    replace hx : R_run_L50_b (R_run_L50 n) v1 v2 v3 v4 h = some x := hx
    unfold R_run_L50_b at hx
    obtain ⟨hg1, hx⟩ := gd hx
    refine Ev.blk (pc' := 57) (lv' := [some (vr 12 0 80), some (vi v1), some (vi v2), some (vi v3), some (vi v4)]) (st' := [vi (h.1 96 (v1).toNatClampNeg), vi v3]) (h' := h) 27 5 (Nat.le_of_ble_eq_true rfl) tk_R_run rfl rfl ⟨trivial, trivial, trivial, trivial, hg1, trivial⟩ ?_
    refine Ev.icmp_ge 32 147 tk_R_run rfl (by decide) (fun hc2 => ?_) (fun hc2 => ?_)
    · replace hx := ip hc2 hx
      refine Ev.blk (pc' := 149) (lv' := [some (vr 12 0 80), some (vi v1), some (vi v2), some (vi v3), some (vi v4)]) (st' := [vi (ii 1), vi v2]) (h' := h) 92 2 (Nat.le_of_ble_eq_true rfl) tk_R_run rfl rfl ⟨trivial, trivial, trivial⟩ ?_
      refine Ev.icmp_ne 94 155 tk_R_run rfl (by decide) (fun hc3 => ?_) (fun hc3 => ?_)
      · replace hx := ia hc3 hx
        obtain ⟨hg4, hx⟩ := gd hx
        refine Ev.blk (pc' := 162) (lv' := [some (vr 12 0 80), some (vi v1), some (vi v2), some (vi v3), some (vi v4)]) (st' := [vi (h.1 96 (v1).toNatClampNeg), vi v3]) (h' := h) 97 5 (Nat.le_of_ble_eq_true rfl) tk_R_run rfl rfl ⟨trivial, trivial, trivial, trivial, hg4, trivial⟩ ?_
        refine Ev.icmp_ne 102 169 tk_R_run rfl (by decide) (fun hc5 => ?_) (fun hc5 => ?_)
        · replace hx := ia hc5 hx
          refine Ev.blk (pc' := 170) (lv' := [some (vr 12 0 80), some (vi v1), some (vi v2), some (vi v3), some (vi v4)]) (st' := [vi v3]) (h' := h) 105 1 (Nat.le_of_ble_eq_true rfl) tk_R_run rfl rfl ⟨trivial, trivial⟩ ?_
          obtain rfl := Option.some.inj hx
          obtain ⟨rfl, rfl⟩ := hP
          exact Ev.iret 106 tk_R_run rfl rfl
        · replace hx := ip hc5 hx
          refine Ev.blk (pc' := 170) (lv' := [some (vr 12 0 80), some (vi v1), some (vi v2), some (vi v3), some (vi v4)]) (st' := [vi (ii (-1))]) (h' := h) 103 2 (Nat.le_of_ble_eq_true rfl) tk_R_run rfl rfl ⟨trivial, trivial, trivial⟩ ?_
          obtain rfl := Option.some.inj hx
          obtain ⟨rfl, rfl⟩ := hP
          exact Ev.iret 106 tk_R_run rfl rfl
      · replace hx := ip hc3 hx
        refine Ev.blk (pc' := 154) (lv' := [some (vr 12 0 80), some (vi v1), some (vi v2), some (vi v3), some (vi v4)]) (st' := [vi v4]) (h' := h) 95 1 (Nat.le_of_ble_eq_true rfl) tk_R_run rfl rfl ⟨trivial, trivial⟩ ?_
        obtain rfl := Option.some.inj hx
        obtain ⟨rfl, rfl⟩ := hP
        exact Ev.iret 96 tk_R_run rfl rfl
    · replace hx := ia hc2 hx
      obtain ⟨hg6, hx⟩ := gd hx
      obtain ⟨hg7, hx⟩ := gd hx
      refine Ev.blk (pc' := 93) (lv' := [some (vr 12 0 80), some (vi v1), some (vi v2), some (vi v3), some (vi v4)]) (st' := [vi (h.1 95 (((ii 2) * (((ii 64) * v1) + v3)) + (ii 1)).toNatClampNeg), vi (h.1 95 ((ii 2) * (((ii 64) * v1) + v3)).toNatClampNeg), vr 20 227 98, vr 12 0 80]) (h' := h) 33 25 (Nat.le_of_ble_eq_true rfl) tk_R_run rfl rfl ⟨trivial, trivial, trivial, trivial, trivial, trivial, trivial, trivial, trivial, trivial, trivial, trivial, hg6, trivial, trivial, trivial, trivial, trivial, trivial, trivial, trivial, trivial, trivial, trivial, hg7, trivial⟩ ?_
      obtain ⟨q1, hq8, hx⟩ := bd hx
      refine Ev.callV (ν := m_R_whereTo) (av := [vr 20 227 98, vi (h.1 95 ((ii 2) * (((ii 64) * v1) + v3)).toNatClampNeg), vi (h.1 95 (((ii 2) * (((ii 64) * v1) + v3)) + (ii 1)).toNatClampNeg)]) (rest := []) (r1 := some (vi q1)) (h1 := h) (ci := 12) (nn := 0) (o := 80) 58 3 tk_R_run rfl bb_R_whereTo vv_R_whereTo lk_12_385 (by decide) rfl rfl (Or.inl rfl) (Nat.le_of_ble_eq_true rfl) (s_R_whereTo Γ 227 98 (h.1 95 ((ii 2) * (((ii 64) * v1) + v3)).toNatClampNeg) (h.1 95 (((ii 2) * (((ii 64) * v1) + v3)) + (ii 1)).toNatClampNeg) h _ hq8) ?_
      show Ev Γ m_R_run 96 [some (vr 12 0 80), some (vi v1), some (vi v2), some (vi v3), some (vi v4)] [vi q1] h r h'
      refine Ev.blk (pc' := 97) (lv' := [some (vr 12 0 80), some (vi v1), some (vi v2), some (vi v3), some (vi v4)]) (st' := [vi (ii (-1)), vi q1]) (h' := h) 59 1 (Nat.le_of_ble_eq_true rfl) tk_R_run rfl rfl ⟨trivial, trivial⟩ ?_
      refine Ev.icmp_eq 60 147 tk_R_run rfl (by decide) (fun hc9 => ?_) (fun hc9 => ?_)
      · replace hx := ip hc9 hx
        refine Ev.blk (pc' := 149) (lv' := [some (vr 12 0 80), some (vi v1), some (vi v2), some (vi v3), some (vi v4)]) (st' := [vi (ii 1), vi v2]) (h' := h) 92 2 (Nat.le_of_ble_eq_true rfl) tk_R_run rfl rfl ⟨trivial, trivial, trivial⟩ ?_
        refine Ev.icmp_ne 94 155 tk_R_run rfl (by decide) (fun hc10 => ?_) (fun hc10 => ?_)
        · replace hx := ia hc10 hx
          obtain ⟨hg11, hx⟩ := gd hx
          refine Ev.blk (pc' := 162) (lv' := [some (vr 12 0 80), some (vi v1), some (vi v2), some (vi v3), some (vi v4)]) (st' := [vi (h.1 96 (v1).toNatClampNeg), vi v3]) (h' := h) 97 5 (Nat.le_of_ble_eq_true rfl) tk_R_run rfl rfl ⟨trivial, trivial, trivial, trivial, hg11, trivial⟩ ?_
          refine Ev.icmp_ne 102 169 tk_R_run rfl (by decide) (fun hc12 => ?_) (fun hc12 => ?_)
          · replace hx := ia hc12 hx
            refine Ev.blk (pc' := 170) (lv' := [some (vr 12 0 80), some (vi v1), some (vi v2), some (vi v3), some (vi v4)]) (st' := [vi v3]) (h' := h) 105 1 (Nat.le_of_ble_eq_true rfl) tk_R_run rfl rfl ⟨trivial, trivial⟩ ?_
            obtain rfl := Option.some.inj hx
            obtain ⟨rfl, rfl⟩ := hP
            exact Ev.iret 106 tk_R_run rfl rfl
          · replace hx := ip hc12 hx
            refine Ev.blk (pc' := 170) (lv' := [some (vr 12 0 80), some (vi v1), some (vi v2), some (vi v3), some (vi v4)]) (st' := [vi (ii (-1))]) (h' := h) 103 2 (Nat.le_of_ble_eq_true rfl) tk_R_run rfl rfl ⟨trivial, trivial, trivial⟩ ?_
            obtain rfl := Option.some.inj hx
            obtain ⟨rfl, rfl⟩ := hP
            exact Ev.iret 106 tk_R_run rfl rfl
        · replace hx := ip hc10 hx
          refine Ev.blk (pc' := 154) (lv' := [some (vr 12 0 80), some (vi v1), some (vi v2), some (vi v3), some (vi v4)]) (st' := [vi v4]) (h' := h) 95 1 (Nat.le_of_ble_eq_true rfl) tk_R_run rfl rfl ⟨trivial, trivial⟩ ?_
          obtain rfl := Option.some.inj hx
          obtain ⟨rfl, rfl⟩ := hP
          exact Ev.iret 96 tk_R_run rfl rfl
      · replace hx := ia hc9 hx
        obtain ⟨hg13, hx⟩ := gd hx
        obtain ⟨hg14, hx⟩ := gd hx
        refine Ev.blk (pc' := 135) (lv' := [some (vr 12 0 80), some (vi v1), some (vi v2), some (vi v3), some (vi v4)]) (st' := [vi (h.1 95 (((ii 2) * (((ii 64) * v1) + v3)) + (ii 1)).toNatClampNeg), vi (h.1 95 ((ii 2) * (((ii 64) * v1) + v3)).toNatClampNeg), vr 20 227 98, vr 12 0 80, vi v4]) (h' := h) 61 26 (Nat.le_of_ble_eq_true rfl) tk_R_run rfl rfl ⟨trivial, trivial, trivial, trivial, trivial, trivial, trivial, trivial, trivial, trivial, trivial, trivial, trivial, hg13, trivial, trivial, trivial, trivial, trivial, trivial, trivial, trivial, trivial, trivial, trivial, hg14, trivial⟩ ?_
        obtain ⟨q2, hq15, hx⟩ := bd hx
        refine Ev.callV (ν := m_R_goes) (av := [vr 20 227 98, vi (h.1 95 ((ii 2) * (((ii 64) * v1) + v3)).toNatClampNeg), vi (h.1 95 (((ii 2) * (((ii 64) * v1) + v3)) + (ii 1)).toNatClampNeg)]) (rest := [vi v4]) (r1 := some (vi q2.1)) (h1 := q2.2) (ci := 12) (nn := 0) (o := 80) 87 3 tk_R_run rfl bb_R_goes vv_R_goes lk_12_395 (by decide) rfl rfl (Or.inl rfl) (Nat.le_of_ble_eq_true rfl) (s_R_goes Γ 227 98 (h.1 95 ((ii 2) * (((ii 64) * v1) + v3)).toNatClampNeg) (h.1 95 (((ii 2) * (((ii 64) * v1) + v3)) + (ii 1)).toNatClampNeg) h _ hq15) ?_
        show Ev Γ m_R_run 138 [some (vr 12 0 80), some (vi v1), some (vi v2), some (vi v3), some (vi v4)] [vi q2.1, vi v4] q2.2 r h'
        refine Ev.blk (pc' := 50) (lv' := [some (vr 12 0 80), some (vi v1), some (vi v2), some (vi (v3 + ii 1)), some (vi (v4 + q2.1))]) (st' := []) (h' := q2.2) 88 4 (Nat.le_of_ble_eq_true rfl) tk_R_run rfl rfl ⟨trivial, trivial, trivial, trivial, trivial⟩ ?_
        exact Ev.msk [true, true, true, true, true] (ih v1 v2 (v3 + ii 1) (v4 + q2.1) q2.2 _ hx r h' hP)
set_option maxRecDepth 4000 in
theorem s_R_run (Γ : AG) (a1 : Int32) (a2 : Int32) (h : AH) (x : Int32 × AH) (hx : f_R_run a1 a2 h = some x) : MetA Γ m_R_run [vr 12 0 80, vi a1, vi a2] h (some (vi x.1)) x.2 := by
  refine Ev.met rfl rfl (Nat.le_of_ble_eq_true rfl) ?_
  show Ev Γ m_R_run 0 [some (vr 12 0 80), some (vi a1), some (vi a2), none, none] [] h _ _
  obtain ⟨r, hr⟩ : ∃ r : Option AV, r = some (vi x.1) := ⟨_, rfl⟩
  obtain ⟨h', hh⟩ : ∃ h' : AH, h' = x.2 := ⟨_, rfl⟩
  have hP : r = some (vi x.1) ∧ h' = x.2 := ⟨hr, hh⟩
  suffices hS : Ev Γ m_R_run 0 [some (vr 12 0 80), some (vi a1), some (vi a2), none, none] [] h r h' by rw [hr, hh] at hS; exact hS
  clear hr hh
  unfold f_R_run at hx
  refine Ev.blk (pc' := 7) (lv' := [some (vr 12 0 80), some (vi a1), some (vi a2), none, none]) (st' := [vi a1, vr 12 0 80]) (h' := (wI h 80 0 (ii 0))) 0 5 (Nat.le_of_ble_eq_true rfl) tk_R_run rfl rfl ⟨trivial, trivial, trivial, trivial, trivial, trivial⟩ ?_
  refine Ev.callV (ν := m_R_isWalk) (av := [vi a1]) (rest := []) (r1 := some (vi (p_R_isWalk a1 (wI h 80 0 (ii 0))))) (h1 := (wI h 80 0 (ii 0))) (ci := 12) (nn := 0) (o := 80) 5 1 tk_R_run rfl bb_R_isWalk vv_R_isWalk lk_12_423 (by decide) rfl rfl (Or.inl rfl) (Nat.le_of_ble_eq_true rfl) (s_R_isWalk Γ a1 (wI h 80 0 (ii 0))) ?_
  show Ev Γ m_R_run 10 [some (vr 12 0 80), some (vi a1), some (vi a2), none, none] [vi (p_R_isWalk a1 (wI h 80 0 (ii 0)))] (wI h 80 0 (ii 0)) r h'
  refine Ev.if_eq 6 30 tk_R_run rfl (by decide) (fun hc1 => ?_) (fun hc1 => ?_)
  · replace hx := ip hc1 hx
    refine Ev.blk (pc' := 33) (lv' := [some (vr 12 0 80), some (vi a1), some (vi a2), none, none]) (st' := [vi (ii (-1000000))]) (h' := (wI h 80 0 (ii 0))) 16 1 (Nat.le_of_ble_eq_true rfl) tk_R_run rfl rfl ⟨trivial, trivial⟩ ?_
    obtain rfl := Option.some.inj hx
    obtain ⟨rfl, rfl⟩ := hP
    exact Ev.iret 17 tk_R_run rfl rfl
  · replace hx := ia hc1 hx
    refine Ev.blk (pc' := 17) (lv' := [some (vr 12 0 80), some (vi a1), some (vi a2), none, none]) (st' := [vi ((wI h 80 0 (ii 0)).1 80 34)]) (h' := (wI h 80 0 (ii 0))) 7 2 (Nat.le_of_ble_eq_true rfl) tk_R_run rfl rfl ⟨trivial, trivial, trivial⟩ ?_
    refine Ev.if_eq 9 30 tk_R_run rfl (by decide) (fun hc2 => ?_) (fun hc2 => ?_)
    · replace hx := ip hc2 hx
      refine Ev.blk (pc' := 33) (lv' := [some (vr 12 0 80), some (vi a1), some (vi a2), none, none]) (st' := [vi (ii (-1000000))]) (h' := (wI h 80 0 (ii 0))) 16 1 (Nat.le_of_ble_eq_true rfl) tk_R_run rfl rfl ⟨trivial, trivial⟩ ?_
      obtain rfl := Option.some.inj hx
      obtain ⟨rfl, rfl⟩ := hP
      exact Ev.iret 17 tk_R_run rfl rfl
    · replace hx := ia hc2 hx
      refine Ev.blk (pc' := 24) (lv' := [some (vr 12 0 80), some (vi a1), some (vi a2), none, none]) (st' := [vl (Int64.ofNat 1), vl (Int64.ofNat 0), vl a2.toInt64]) (h' := (wI h 80 0 (ii 0))) 10 4 (Nat.le_of_ble_eq_true rfl) tk_R_run rfl rfl ⟨trivial, trivial, trivial, trivial, trivial⟩ ?_
      refine Ev.callS (ν := m_R_isIn) (av := [vl a2.toInt64, vl (Int64.ofNat 0), vl (Int64.ofNat 1)]) (rest := []) (r1 := some (vi (p_R_isIn a2.toInt64 (Int64.ofNat 0) (Int64.ofNat 1)))) (h1 := (wI h 80 0 (ii 0))) 14 3 tk_R_run rfl bb_R_isIn vv_R_isIn lk_12_223 (by decide) rfl rfl (Nat.le_of_ble_eq_true rfl) (s_R_isIn Γ a2.toInt64 (Int64.ofNat 0) (Int64.ofNat 1) (wI h 80 0 (ii 0))) ?_
      show Ev Γ m_R_run 27 [some (vr 12 0 80), some (vi a1), some (vi a2), none, none] [vi (p_R_isIn a2.toInt64 (Int64.ofNat 0) (Int64.ofNat 1))] (wI h 80 0 (ii 0)) r h'
      refine Ev.if_ne 15 34 tk_R_run rfl (by decide) (fun hc3 => ?_) (fun hc3 => ?_)
      · replace hx := ia hc3 hx
        refine Ev.blk (pc' := 42) (lv' := [some (vr 12 0 80), some (vi a1), some (vi a2), none, none]) (st' := [vr 20 227 98, vr 20 227 97]) (h' := (wI h 80 0 (ii 0))) 18 4 (Nat.le_of_ble_eq_true rfl) tk_R_run rfl rfl ⟨trivial, trivial, trivial, trivial, trivial⟩ ?_
        obtain ⟨q1, hq4, hx⟩ := bd hx
        refine Ev.callS (ν := m_R_copy) (av := [vr 20 227 97, vr 20 227 98]) (rest := []) (r1 := none) (h1 := q1) 22 2 tk_R_run rfl bb_R_copy vv_R_copy lk_12_331 (by decide) rfl rfl (Nat.le_of_ble_eq_true rfl) (s_R_copy Γ 227 97 227 98 (wI h 80 0 (ii 0)) _ hq4) ?_
        show Ev Γ m_R_run 45 [some (vr 12 0 80), some (vi a1), some (vi a2), none, none] [] q1 r h'
        refine Ev.blk (pc' := 50) (lv' := [some (vr 12 0 80), some (vi a1), some (vi a2), some (vi (ii 0)), some (vi (ii 0))]) (st' := []) (h' := q1) 23 4 (Nat.le_of_ble_eq_true rfl) tk_R_run rfl rfl ⟨trivial, trivial, trivial, trivial, trivial⟩ ?_
        refine Ev.msk [true, true, true, true, true] ?_
        show Ev Γ m_R_run 50 [some (vr 12 0 80), some (vi a1), some (vi a2), some (vi (ii 0)), some (vi (ii 0))] [] q1 r h'
        exact l_R_run_L50 Γ FU a1 a2 (ii 0) (ii 0) q1 _ hx r h' hP
      · replace hx := ip hc3 hx
        refine Ev.blk (pc' := 33) (lv' := [some (vr 12 0 80), some (vi a1), some (vi a2), none, none]) (st' := [vi (ii (-1000000))]) (h' := (wI h 80 0 (ii 0))) 16 1 (Nat.le_of_ble_eq_true rfl) tk_R_run rfl rfl ⟨trivial, trivial⟩ ?_
        obtain rfl := Option.some.inj hx
        obtain ⟨rfl, rfl⟩ := hP
        exact Ev.iret 17 tk_R_run rfl rfl
set_option maxRecDepth 4000 in
theorem l_R_perform_L24 (Γ : AG) : ∀ (n : Nat) (v1 : Int32) (v2 : Int32) (h : AH) (x : Int32 × AH), R_perform_L24 n v1 v2 h = some x → ∀ (r : Option AV) (h' : AH), r = some (vi x.1) ∧ h' = x.2 → Ev Γ m_R_perform 24 [some (vr 12 0 80), some (vi v1), some (vi v2), none] [] h r h' := by
  intro n
  induction n with
  | zero => intro v1 v2 h x hx; cases hx
  | succ n ih =>
    intro v1 v2 h x hx r h' hP
    replace hx : R_perform_L24_b (R_perform_L24 n) v1 v2 h = some x := hx
    unfold R_perform_L24_b at hx
    obtain ⟨hg1, hx⟩ := gd hx
    refine Ev.blk (pc' := 31) (lv' := [some (vr 12 0 80), some (vi v1), some (vi v2), none]) (st' := [vi (h.1 96 (v1).toNatClampNeg), vi v2]) (h' := h) 14 5 (Nat.le_of_ble_eq_true rfl) tk_R_perform rfl rfl ⟨trivial, trivial, trivial, trivial, hg1, trivial⟩ ?_
    refine Ev.icmp_ge 19 121 tk_R_perform rfl (by decide) (fun hc2 => ?_) (fun hc2 => ?_)
    · replace hx := ip hc2 hx
      refine Ev.blk (pc' := 122) (lv' := [some (vr 12 0 80), some (vi v1), some (vi v2), none]) (st' := [vi v2]) (h' := h) 79 1 (Nat.le_of_ble_eq_true rfl) tk_R_perform rfl rfl ⟨trivial, trivial⟩ ?_
      obtain rfl := Option.some.inj hx
      obtain ⟨rfl, rfl⟩ := hP
      exact Ev.iret 80 tk_R_perform rfl rfl
    · replace hx := ia hc2 hx
      obtain ⟨hg3, hx⟩ := gd hx
      obtain ⟨hg4, hx⟩ := gd hx
      refine Ev.blk (pc' := 67) (lv' := [some (vr 12 0 80), some (vi v1), some (vi v2), none]) (st' := [vi (h.1 95 (((ii 2) * (((ii 64) * v1) + v2)) + (ii 1)).toNatClampNeg), vi (h.1 95 ((ii 2) * (((ii 64) * v1) + v2)).toNatClampNeg), vr 20 227 97, vr 12 0 80]) (h' := h) 20 25 (Nat.le_of_ble_eq_true rfl) tk_R_perform rfl rfl ⟨trivial, trivial, trivial, trivial, trivial, trivial, trivial, trivial, trivial, trivial, trivial, trivial, hg3, trivial, trivial, trivial, trivial, trivial, trivial, trivial, trivial, trivial, trivial, trivial, hg4, trivial⟩ ?_
      obtain ⟨q1, hq5, hx⟩ := bd hx
      refine Ev.callV (ν := m_R_whereTo) (av := [vr 20 227 97, vi (h.1 95 ((ii 2) * (((ii 64) * v1) + v2)).toNatClampNeg), vi (h.1 95 (((ii 2) * (((ii 64) * v1) + v2)) + (ii 1)).toNatClampNeg)]) (rest := []) (r1 := some (vi q1)) (h1 := h) (ci := 12) (nn := 0) (o := 80) 45 3 tk_R_perform rfl bb_R_whereTo vv_R_whereTo lk_12_385 (by decide) rfl rfl (Or.inl rfl) (Nat.le_of_ble_eq_true rfl) (s_R_whereTo Γ 227 97 (h.1 95 ((ii 2) * (((ii 64) * v1) + v2)).toNatClampNeg) (h.1 95 (((ii 2) * (((ii 64) * v1) + v2)) + (ii 1)).toNatClampNeg) h _ hq5) ?_
      show Ev Γ m_R_perform 70 [some (vr 12 0 80), some (vi v1), some (vi v2), none] [vi q1] h r h'
      refine Ev.blk (pc' := 71) (lv' := [some (vr 12 0 80), some (vi v1), some (vi v2), none]) (st' := [vi (ii (-1)), vi q1]) (h' := h) 46 1 (Nat.le_of_ble_eq_true rfl) tk_R_perform rfl rfl ⟨trivial, trivial⟩ ?_
      refine Ev.icmp_eq 47 121 tk_R_perform rfl (by decide) (fun hc6 => ?_) (fun hc6 => ?_)
      · replace hx := ip hc6 hx
        refine Ev.blk (pc' := 122) (lv' := [some (vr 12 0 80), some (vi v1), some (vi v2), none]) (st' := [vi v2]) (h' := h) 79 1 (Nat.le_of_ble_eq_true rfl) tk_R_perform rfl rfl ⟨trivial, trivial⟩ ?_
        obtain rfl := Option.some.inj hx
        obtain ⟨rfl, rfl⟩ := hP
        exact Ev.iret 80 tk_R_perform rfl rfl
      · replace hx := ia hc6 hx
        refine Ev.blk (pc' := 75) (lv' := [some (vr 12 0 80), some (vi v1), some (vi v2), none]) (st' := [vr 12 0 80]) (h' := h) 48 1 (Nat.le_of_ble_eq_true rfl) tk_R_perform rfl rfl ⟨trivial, trivial⟩ ?_
        obtain ⟨q2, hq7, hx⟩ := bd hx
        refine Ev.callV (ν := m_R_remember) (av := []) (rest := []) (r1 := none) (h1 := q2) (ci := 12) (nn := 0) (o := 80) 49 0 tk_R_perform rfl bb_R_remember vv_R_remember lk_12_392 (by decide) rfl rfl (Or.inl rfl) (Nat.le_of_ble_eq_true rfl) (s_R_remember Γ h _ hq7) ?_
        show Ev Γ m_R_perform 78 [some (vr 12 0 80), some (vi v1), some (vi v2), none] [] q2 r h'
        obtain ⟨hg8, hx⟩ := gd hx
        obtain ⟨hg9, hx⟩ := gd hx
        refine Ev.blk (pc' := 111) (lv' := [some (vr 12 0 80), some (vi v1), some (vi v2), none]) (st' := [vi (q2.1 95 (((ii 2) * (((ii 64) * v1) + v2)) + (ii 1)).toNatClampNeg), vi (q2.1 95 ((ii 2) * (((ii 64) * v1) + v2)).toNatClampNeg), vr 20 227 97, vr 12 0 80]) (h' := q2) 50 25 (Nat.le_of_ble_eq_true rfl) tk_R_perform rfl rfl ⟨trivial, trivial, trivial, trivial, trivial, trivial, trivial, trivial, trivial, trivial, trivial, trivial, hg8, trivial, trivial, trivial, trivial, trivial, trivial, trivial, trivial, trivial, trivial, trivial, hg9, trivial⟩ ?_
        obtain ⟨q3, hq10, hx⟩ := bd hx
        refine Ev.callV (ν := m_R_goes) (av := [vr 20 227 97, vi (q2.1 95 ((ii 2) * (((ii 64) * v1) + v2)).toNatClampNeg), vi (q2.1 95 (((ii 2) * (((ii 64) * v1) + v2)) + (ii 1)).toNatClampNeg)]) (rest := []) (r1 := some (vi q3.1)) (h1 := q3.2) (ci := 12) (nn := 0) (o := 80) 75 3 tk_R_perform rfl bb_R_goes vv_R_goes lk_12_395 (by decide) rfl rfl (Or.inl rfl) (Nat.le_of_ble_eq_true rfl) (s_R_goes Γ 227 97 (q2.1 95 ((ii 2) * (((ii 64) * v1) + v2)).toNatClampNeg) (q2.1 95 (((ii 2) * (((ii 64) * v1) + v2)) + (ii 1)).toNatClampNeg) q2 _ hq10) ?_
        show Ev Γ m_R_perform 114 [some (vr 12 0 80), some (vi v1), some (vi v2), none] [vi q3.1] q3.2 r h'
        refine Ev.blk (pc' := 24) (lv' := [some (vr 12 0 80), some (vi v1), some (vi (v2 + ii 1)), some (vi q3.1)]) (st' := []) (h' := q3.2) 76 3 (Nat.le_of_ble_eq_true rfl) tk_R_perform rfl rfl ⟨trivial, trivial, trivial, trivial⟩ ?_
        exact Ev.msk [true, true, true, false] (ih v1 (v2 + ii 1) q3.2 _ hx r h' hP)
set_option maxRecDepth 4000 in
theorem s_R_perform (Γ : AG) (a1 : Int32) (h : AH) (x : Int32 × AH) (hx : f_R_perform a1 h = some x) : MetA Γ m_R_perform [vr 12 0 80, vi a1] h (some (vi x.1)) x.2 := by
  refine Ev.met rfl rfl (Nat.le_of_ble_eq_true rfl) ?_
  show Ev Γ m_R_perform 0 [some (vr 12 0 80), some (vi a1), none, none] [] h _ _
  obtain ⟨r, hr⟩ : ∃ r : Option AV, r = some (vi x.1) := ⟨_, rfl⟩
  obtain ⟨h', hh⟩ : ∃ h' : AH, h' = x.2 := ⟨_, rfl⟩
  have hP : r = some (vi x.1) ∧ h' = x.2 := ⟨hr, hh⟩
  suffices hS : Ev Γ m_R_perform 0 [some (vr 12 0 80), some (vi a1), none, none] [] h r h' by rw [hr, hh] at hS; exact hS
  clear hr hh
  unfold f_R_perform at hx
  refine Ev.blk (pc' := 7) (lv' := [some (vr 12 0 80), some (vi a1), none, none]) (st' := [vi a1, vr 12 0 80]) (h' := (wI h 80 0 (ii 0))) 0 5 (Nat.le_of_ble_eq_true rfl) tk_R_perform rfl rfl ⟨trivial, trivial, trivial, trivial, trivial, trivial⟩ ?_
  refine Ev.callV (ν := m_R_isWalk) (av := [vi a1]) (rest := []) (r1 := some (vi (p_R_isWalk a1 (wI h 80 0 (ii 0))))) (h1 := (wI h 80 0 (ii 0))) (ci := 12) (nn := 0) (o := 80) 5 1 tk_R_perform rfl bb_R_isWalk vv_R_isWalk lk_12_423 (by decide) rfl rfl (Or.inl rfl) (Nat.le_of_ble_eq_true rfl) (s_R_isWalk Γ a1 (wI h 80 0 (ii 0))) ?_
  show Ev Γ m_R_perform 10 [some (vr 12 0 80), some (vi a1), none, none] [vi (p_R_isWalk a1 (wI h 80 0 (ii 0)))] (wI h 80 0 (ii 0)) r h'
  refine Ev.if_eq 6 20 tk_R_perform rfl (by decide) (fun hc1 => ?_) (fun hc1 => ?_)
  · replace hx := ip hc1 hx
    refine Ev.blk (pc' := 21) (lv' := [some (vr 12 0 80), some (vi a1), none, none]) (st' := [vi (ii (-1))]) (h' := (wI h 80 0 (ii 0))) 10 1 (Nat.le_of_ble_eq_true rfl) tk_R_perform rfl rfl ⟨trivial, trivial⟩ ?_
    obtain rfl := Option.some.inj hx
    obtain ⟨rfl, rfl⟩ := hP
    exact Ev.iret 11 tk_R_perform rfl rfl
  · replace hx := ia hc1 hx
    refine Ev.blk (pc' := 17) (lv' := [some (vr 12 0 80), some (vi a1), none, none]) (st' := [vi ((wI h 80 0 (ii 0)).1 80 34)]) (h' := (wI h 80 0 (ii 0))) 7 2 (Nat.le_of_ble_eq_true rfl) tk_R_perform rfl rfl ⟨trivial, trivial, trivial⟩ ?_
    refine Ev.if_ne 9 22 tk_R_perform rfl (by decide) (fun hc2 => ?_) (fun hc2 => ?_)
    · replace hx := ia hc2 hx
      refine Ev.blk (pc' := 24) (lv' := [some (vr 12 0 80), some (vi a1), some (vi (ii 0)), none]) (st' := []) (h' := (wI h 80 0 (ii 0))) 12 2 (Nat.le_of_ble_eq_true rfl) tk_R_perform rfl rfl ⟨trivial, trivial, trivial⟩ ?_
      refine Ev.msk [true, true, true, false] ?_
      show Ev Γ m_R_perform 24 [some (vr 12 0 80), some (vi a1), some (vi (ii 0)), none] [] (wI h 80 0 (ii 0)) r h'
      exact l_R_perform_L24 Γ FU a1 (ii 0) (wI h 80 0 (ii 0)) _ hx r h' hP
    · replace hx := ip hc2 hx
      refine Ev.blk (pc' := 21) (lv' := [some (vr 12 0 80), some (vi a1), none, none]) (st' := [vi (ii (-1))]) (h' := (wI h 80 0 (ii 0))) 10 1 (Nat.le_of_ble_eq_true rfl) tk_R_perform rfl rfl ⟨trivial, trivial⟩ ?_
      obtain rfl := Option.some.inj hx
      obtain ⟨rfl, rfl⟩ := hP
      exact Ev.iret 11 tk_R_perform rfl rfl
set_option maxRecDepth 4000 in
theorem l_R_bringsOf_L40 (Γ : AG) : ∀ (n : Nat) (n1 : Nat) (o1 : Nat) (v2 : Int32) (v5 : Int32) (v6 : Int32) (h : AH) (x : Int32), R_bringsOf_L40 n n1 o1 v2 v5 v6 h = some x → ∀ (r : Option AV) (h' : AH), r = some (vi x) ∧ h' = h → Ev Γ m_R_bringsOf 40 [some (vr 12 0 80), some (vr 20 n1 o1), some (vi v2), none, none, some (vi v5), some (vi v6), none] [] h r h' := by
  intro n
  induction n with
  | zero => intro n1 o1 v2 v5 v6 h x hx; cases hx
  | succ n ih =>
    intro n1 o1 v2 v5 v6 h x hx r h' hP
    replace hx : R_bringsOf_L40_b (R_bringsOf_L40 n) n1 o1 v2 v5 v6 h = some x := hx
    unfold R_bringsOf_L40_b at hx
    refine Ev.blk (pc' := 43) (lv' := [some (vr 12 0 80), some (vr 20 n1 o1), some (vi v2), none, none, some (vi v5), some (vi v6), none]) (st' := [vi (ii 4), vi v6]) (h' := h) 25 2 (Nat.le_of_ble_eq_true rfl) tk_R_bringsOf rfl rfl ⟨trivial, trivial, trivial⟩ ?_
    refine Ev.icmp_ge 27 87 tk_R_bringsOf rfl (by decide) (fun hc1 => ?_) (fun hc1 => ?_)
    · replace hx := ip hc1 hx
      refine Ev.blk (pc' := 90) (lv' := [some (vr 12 0 80), some (vr 20 n1 o1), some (vi v2), none, none, some (vi v5), some (vi v6), none]) (st' := [vi v5, vi (ii 0)]) (h' := h) 50 2 (Nat.le_of_ble_eq_true rfl) tk_R_bringsOf rfl rfl ⟨trivial, trivial, trivial⟩ ?_
      refine Ev.mmax (rest := []) 52 tk_R_bringsOf rfl lk_12_368 (by decide) (Nat.le_of_ble_eq_true rfl) ?_
      show Ev Γ m_R_bringsOf 93 [some (vr 12 0 80), some (vr 20 n1 o1), some (vi v2), none, none, some (vi v5), some (vi v6), none] [vi (p_Math_max (ii 0) v5)] h r h'
      obtain rfl := Option.some.inj hx
      obtain ⟨rfl, rfl⟩ := hP
      exact Ev.iret 53 tk_R_bringsOf rfl rfl
    · replace hx := ia hc1 hx
      refine Ev.blk (pc' := 50) (lv' := [some (vr 12 0 80), some (vr 20 n1 o1), some (vi v2), none, none, some (vi v5), some (vi v6), none]) (st' := [vi v6, vi v2, vr 12 0 80]) (h' := h) 28 3 (Nat.le_of_ble_eq_true rfl) tk_R_bringsOf rfl rfl ⟨trivial, trivial, trivial, trivial⟩ ?_
      obtain ⟨q1, hq2, hx⟩ := bd hx
      refine Ev.callV (ν := m_R_stepTo) (av := [vi v2, vi v6]) (rest := []) (r1 := some (vi q1)) (h1 := h) (ci := 12) (nn := 0) (o := 80) 31 2 tk_R_bringsOf rfl bb_R_stepTo vv_R_stepTo lk_12_350 (by decide) rfl rfl (Or.inl rfl) (Nat.le_of_ble_eq_true rfl) (s_R_stepTo Γ v2 v6 h _ hq2) ?_
      show Ev Γ m_R_bringsOf 53 [some (vr 12 0 80), some (vr 20 n1 o1), some (vi v2), none, none, some (vi v5), some (vi v6), none] [vi q1] h r h'
      refine Ev.blk (pc' := 60) (lv' := [some (vr 12 0 80), some (vr 20 n1 o1), some (vi v2), none, none, some (vi v5), some (vi v6), some (vi q1)]) (st' := [vi (ii (-1)), vi q1, vi v5]) (h' := h) 32 4 (Nat.le_of_ble_eq_true rfl) tk_R_bringsOf rfl rfl ⟨trivial, trivial, trivial, trivial, trivial⟩ ?_
      obtain ⟨q2, hq3, hx⟩ := bd hx
      have K4 : Ev Γ m_R_bringsOf 78 [some (vr 12 0 80), some (vr 20 n1 o1), some (vi v2), none, none, none, some (vi v6), none] [vi q2, vi v5] h r h' := by
        refine Ev.blk (pc' := 40) (lv' := [some (vr 12 0 80), some (vr 20 n1 o1), some (vi v2), none, none, some (vi (v5 - q2)), some (vi (v6 + ii 1)), none]) (st' := []) (h' := h) 46 4 (Nat.le_of_ble_eq_true rfl) tk_R_bringsOf rfl rfl ⟨trivial, trivial, trivial, trivial, trivial⟩ ?_
        exact Ev.msk [true, true, true, false, false, true, true, false] (ih n1 o1 v2 (v5 - q2) (v6 + ii 1) h _ hx r h' hP)
      clear hx
      refine Ev.icmp_eq 36 77 tk_R_bringsOf rfl (by decide) (fun hc5 => ?_) (fun hc5 => ?_)
      · replace hq3 := ip hc5 hq3
        refine Ev.blk (pc' := 78) (lv' := [some (vr 12 0 80), some (vr 20 n1 o1), some (vi v2), none, none, some (vi v5), some (vi v6), some (vi q1)]) (st' := [vi (ii 0), vi v5]) (h' := h) 45 1 (Nat.le_of_ble_eq_true rfl) tk_R_bringsOf rfl rfl ⟨trivial, trivial⟩ ?_
        obtain rfl := Option.some.inj hq3
        exact Ev.msk [true, true, true, false, false, false, true, false] K4
      · replace hq3 := ia hc5 hq3
        obtain ⟨hg6, hq3⟩ := gd hq3
        refine Ev.blk (pc' := 70) (lv' := [some (vr 12 0 80), some (vr 20 n1 o1), some (vi v2), none, none, some (vi v5), some (vi v6), some (vi q1)]) (st' := [vi (h.1 o1 ((ii 14) + q1).toNatClampNeg), vi v5]) (h' := h) 37 5 (Nat.le_of_ble_eq_true rfl) tk_R_bringsOf rfl rfl ⟨trivial, trivial, trivial, trivial, hg6, trivial⟩ ?_
        refine Ev.if_le 42 77 tk_R_bringsOf rfl (by decide) (fun hc7 => ?_) (fun hc7 => ?_)
        · replace hq3 := ip hc7 hq3
          refine Ev.blk (pc' := 78) (lv' := [some (vr 12 0 80), some (vr 20 n1 o1), some (vi v2), none, none, some (vi v5), some (vi v6), some (vi q1)]) (st' := [vi (ii 0), vi v5]) (h' := h) 45 1 (Nat.le_of_ble_eq_true rfl) tk_R_bringsOf rfl rfl ⟨trivial, trivial⟩ ?_
          obtain rfl := Option.some.inj hq3
          exact Ev.msk [true, true, true, false, false, false, true, false] K4
        · replace hq3 := ia hc7 hq3
          refine Ev.blk (pc' := 78) (lv' := [some (vr 12 0 80), some (vr 20 n1 o1), some (vi v2), none, none, some (vi v5), some (vi v6), some (vi q1)]) (st' := [vi (ii 1), vi v5]) (h' := h) 43 2 (Nat.le_of_ble_eq_true rfl) tk_R_bringsOf rfl rfl ⟨trivial, trivial, trivial⟩ ?_
          obtain rfl := Option.some.inj hq3
          exact Ev.msk [true, true, true, false, false, false, true, false] K4
set_option maxRecDepth 4000 in
theorem s_R_bringsOf (Γ : AG) (n1 : Nat) (o1 : Nat) (a2 : Int32) (a3 : Int32) (h : AH) (x : Int32) (hx : f_R_bringsOf n1 o1 a2 a3 h = some x) : MetA Γ m_R_bringsOf [vr 12 0 80, vr 20 n1 o1, vi a2, vi a3] h (some (vi x)) h := by
  refine Ev.met rfl rfl (Nat.le_of_ble_eq_true rfl) ?_
  show Ev Γ m_R_bringsOf 0 [some (vr 12 0 80), some (vr 20 n1 o1), some (vi a2), some (vi a3), none, none, none, none] [] h _ _
  obtain ⟨r, hr⟩ : ∃ r : Option AV, r = some (vi x) := ⟨_, rfl⟩
  obtain ⟨h', hh⟩ : ∃ h' : AH, h' = h := ⟨_, rfl⟩
  have hP : r = some (vi x) ∧ h' = h := ⟨hr, hh⟩
  suffices hS : Ev Γ m_R_bringsOf 0 [some (vr 12 0 80), some (vr 20 n1 o1), some (vi a2), some (vi a3), none, none, none, none] [] h r h' by rw [hr, hh] at hS; exact hS
  clear hr hh
  unfold f_R_bringsOf at hx
  refine Ev.blk (pc' := 3) (lv' := [some (vr 12 0 80), some (vr 20 n1 o1), some (vi a2), some (vi a3), none, none, none, none]) (st' := [vi a3, vi a2, vr 12 0 80]) (h' := h) 0 3 (Nat.le_of_ble_eq_true rfl) tk_R_bringsOf rfl rfl ⟨trivial, trivial, trivial, trivial⟩ ?_
  obtain ⟨q1, hq1, hx⟩ := bd hx
  refine Ev.callV (ν := m_R_depthOf) (av := [vi a2, vi a3]) (rest := []) (r1 := some (vi q1)) (h1 := h) (ci := 12) (nn := 0) (o := 80) 3 2 tk_R_bringsOf rfl bb_R_depthOf vv_R_depthOf lk_12_362 (by decide) rfl rfl (Or.inl rfl) (Nat.le_of_ble_eq_true rfl) (s_R_depthOf Γ a2 a3 h _ hq1) ?_
  show Ev Γ m_R_bringsOf 6 [some (vr 12 0 80), some (vr 20 n1 o1), some (vi a2), some (vi a3), none, none, none, none] [vi q1] h r h'
  refine Ev.blk (pc' := 11) (lv' := [some (vr 12 0 80), some (vr 20 n1 o1), some (vi a2), some (vi a3), some (vi q1), none, none, none]) (st' := [vi (ii (-1)), vi q1]) (h' := h) 4 3 (Nat.le_of_ble_eq_true rfl) tk_R_bringsOf rfl rfl ⟨trivial, trivial, trivial, trivial⟩ ?_
  refine Ev.icmp_eq 7 25 tk_R_bringsOf rfl (by decide) (fun hc2 => ?_) (fun hc2 => ?_)
  · replace hx := ip hc2 hx
    refine Ev.blk (pc' := 26) (lv' := [some (vr 12 0 80), some (vr 20 n1 o1), some (vi a2), some (vi a3), some (vi q1), none, none, none]) (st' := [vi (ii 0)]) (h' := h) 15 1 (Nat.le_of_ble_eq_true rfl) tk_R_bringsOf rfl rfl ⟨trivial, trivial⟩ ?_
    obtain rfl := Option.some.inj hx
    obtain ⟨rfl, rfl⟩ := hP
    exact Ev.iret 16 tk_R_bringsOf rfl rfl
  · replace hx := ia hc2 hx
    obtain ⟨hg3, hx⟩ := gd hx
    refine Ev.blk (pc' := 22) (lv' := [some (vr 12 0 80), some (vr 20 n1 o1), some (vi a2), some (vi a3), some (vi q1), none, none, none]) (st' := [vi (h.1 o1 ((ii 14) + a2).toNatClampNeg), vi q1]) (h' := h) 8 6 (Nat.le_of_ble_eq_true rfl) tk_R_bringsOf rfl rfl ⟨trivial, trivial, trivial, trivial, trivial, hg3, trivial⟩ ?_
    refine Ev.icmp_le 14 27 tk_R_bringsOf rfl (by decide) (fun hc4 => ?_) (fun hc4 => ?_)
    · replace hx := ip hc4 hx
      obtain ⟨hg5, hx⟩ := gd hx
      refine Ev.blk (pc' := 40) (lv' := [some (vr 12 0 80), some (vr 20 n1 o1), some (vi a2), some (vi a3), some (vi q1), some (vi ((ii 10) - (q1 / (ii 10)))), some (vi (ii 0)), none]) (st' := []) (h' := h) 17 8 (Nat.le_of_ble_eq_true rfl) tk_R_bringsOf rfl rfl ⟨trivial, trivial, trivial, hg5, trivial, trivial, trivial, trivial, trivial⟩ ?_
      refine Ev.msk [true, true, true, false, false, true, true, false] ?_
      show Ev Γ m_R_bringsOf 40 [some (vr 12 0 80), some (vr 20 n1 o1), some (vi a2), none, none, some (vi ((ii 10) - (q1 / (ii 10)))), some (vi (ii 0)), none] [] h r h'
      exact l_R_bringsOf_L40 Γ FU n1 o1 a2 ((ii 10) - (q1 / (ii 10))) (ii 0) h _ hx r h' hP
    · replace hx := ia hc4 hx
      refine Ev.blk (pc' := 26) (lv' := [some (vr 12 0 80), some (vr 20 n1 o1), some (vi a2), some (vi a3), some (vi q1), none, none, none]) (st' := [vi (ii 0)]) (h' := h) 15 1 (Nat.le_of_ble_eq_true rfl) tk_R_bringsOf rfl rfl ⟨trivial, trivial⟩ ?_
      obtain rfl := Option.some.inj hx
      obtain ⟨rfl, rfl⟩ := hP
      exact Ev.iret 16 tk_R_bringsOf rfl rfl
