set_option maxRecDepth 4000 in
theorem s_HF_count (Γ : AG) (a1 : Int32) (h : AH) (x : Int32) (hx : f_HF_count a1 h = some x) : MetA Γ m_HF_count [vr 0 0 0, vi a1] h (some (vi x)) h := by
  refine Ev.met rfl rfl (Nat.le_of_ble_eq_true rfl) ?_
  show Ev Γ m_HF_count 0 [some (vr 0 0 0), some (vi a1)] [] h _ _
  obtain ⟨r, hr⟩ : ∃ r : Option AV, r = some (vi x) := ⟨_, rfl⟩
  obtain ⟨h', hh⟩ : ∃ h' : AH, h' = h := ⟨_, rfl⟩
  have hP : r = some (vi x) ∧ h' = h := ⟨hr, hh⟩
  suffices hS : Ev Γ m_HF_count 0 [some (vr 0 0 0), some (vi a1)] [] h r h' by rw [hr, hh] at hS; exact hS
  clear hr hh
  unfold f_HF_count at hx
  refine Ev.blk (pc' := 1) (lv' := [some (vr 0 0 0), some (vi a1)]) (st' := [vi a1]) (h' := h) 0 1 (Nat.le_of_ble_eq_true rfl) tk_HF_count rfl rfl ⟨trivial, trivial⟩ ?_
  by_cases hc1 : a1 = ii 0
  · replace hx := ip hc1 hx
    refine Ev.tabIn (off := 43) 1 44 0 tk_HF_count rfl hc1 (by decide) (by decide) ?_
    refine Ev.blk (pc' := 51) (lv' := [some (vr 0 0 0), some (vi a1)]) (st' := [vi (h.1 (h.2.2 0 13) 9)]) (h' := h) 2 3 (Nat.le_of_ble_eq_true rfl) tk_HF_count rfl rfl ⟨trivial, trivial, trivial, trivial⟩ ?_
    obtain rfl := Option.some.inj hx
    obtain ⟨rfl, rfl⟩ := hP
    exact Ev.iret 5 tk_HF_count rfl rfl
  replace hx := ia hc1 hx
  by_cases hc2 : a1 = ii 1
  · replace hx := ip hc2 hx
    refine Ev.tabIn (off := 51) 1 52 1 tk_HF_count rfl hc2 (by decide) (by decide) ?_
    refine Ev.blk (pc' := 59) (lv' := [some (vr 0 0 0), some (vi a1)]) (st' := [vi (h.1 (h.2.2 0 13) 11)]) (h' := h) 6 3 (Nat.le_of_ble_eq_true rfl) tk_HF_count rfl rfl ⟨trivial, trivial, trivial, trivial⟩ ?_
    obtain rfl := Option.some.inj hx
    obtain ⟨rfl, rfl⟩ := hP
    exact Ev.iret 9 tk_HF_count rfl rfl
  replace hx := ia hc2 hx
  by_cases hc3 : a1 = ii 2
  · replace hx := ip hc3 hx
    refine Ev.tabIn (off := 59) 1 60 2 tk_HF_count rfl hc3 (by decide) (by decide) ?_
    refine Ev.blk (pc' := 67) (lv' := [some (vr 0 0 0), some (vi a1)]) (st' := [vi (h.1 (h.2.2 0 13) 10)]) (h' := h) 10 3 (Nat.le_of_ble_eq_true rfl) tk_HF_count rfl rfl ⟨trivial, trivial, trivial, trivial⟩ ?_
    obtain rfl := Option.some.inj hx
    obtain ⟨rfl, rfl⟩ := hP
    exact Ev.iret 13 tk_HF_count rfl rfl
  replace hx := ia hc3 hx
  by_cases hc4 : a1 = ii 3
  · replace hx := ip hc4 hx
    refine Ev.tabIn (off := 67) 1 68 3 tk_HF_count rfl hc4 (by decide) (by decide) ?_
    refine Ev.blk (pc' := 72) (lv' := [some (vr 0 0 0), some (vi a1)]) (st' := [vi (h.1 0 14)]) (h' := h) 14 2 (Nat.le_of_ble_eq_true rfl) tk_HF_count rfl rfl ⟨trivial, trivial, trivial⟩ ?_
    obtain rfl := Option.some.inj hx
    obtain ⟨rfl, rfl⟩ := hP
    exact Ev.iret 16 tk_HF_count rfl rfl
  replace hx := ia hc4 hx
  by_cases hc5 : a1 = ii 4
  · replace hx := ip hc5 hx
    refine Ev.tabIn (off := 72) 1 73 4 tk_HF_count rfl hc5 (by decide) (by decide) ?_
    refine Ev.blk (pc' := 77) (lv' := [some (vr 0 0 0), some (vi a1)]) (st' := [vi (h.1 0 15)]) (h' := h) 17 2 (Nat.le_of_ble_eq_true rfl) tk_HF_count rfl rfl ⟨trivial, trivial, trivial⟩ ?_
    obtain rfl := Option.some.inj hx
    obtain ⟨rfl, rfl⟩ := hP
    exact Ev.iret 19 tk_HF_count rfl rfl
  replace hx := ia hc5 hx
  by_cases hc6 : a1 = ii 5
  · replace hx := ip hc6 hx
    refine Ev.tabIn (off := 77) 1 78 5 tk_HF_count rfl hc6 (by decide) (by decide) ?_
    refine Ev.blk (pc' := 85) (lv' := [some (vr 0 0 0), some (vi a1)]) (st' := [vi (h.1 1 1)]) (h' := h) 20 3 (Nat.le_of_ble_eq_true rfl) tk_HF_count rfl rfl ⟨trivial, trivial, trivial, trivial⟩ ?_
    obtain rfl := Option.some.inj hx
    obtain ⟨rfl, rfl⟩ := hP
    exact Ev.iret 23 tk_HF_count rfl rfl
  replace hx := ia hc6 hx
  by_cases hc7 : a1 = ii 6
  · replace hx := ip hc7 hx
    refine Ev.tabIn (off := 85) 1 86 6 tk_HF_count rfl hc7 (by decide) (by decide) ?_
    refine Ev.blk (pc' := 90) (lv' := [some (vr 0 0 0), some (vi a1)]) (st' := [vi (h.1 0 16)]) (h' := h) 24 2 (Nat.le_of_ble_eq_true rfl) tk_HF_count rfl rfl ⟨trivial, trivial, trivial⟩ ?_
    obtain rfl := Option.some.inj hx
    obtain ⟨rfl, rfl⟩ := hP
    exact Ev.iret 26 tk_HF_count rfl rfl
  replace hx := ia hc7 hx
  refine Ev.tabOut 1 91 7 tk_HF_count rfl (by decide) (fun k hk => ?_) (by decide) ?_
  · rcases (show k = 0 ∨ k = 1 ∨ k = 2 ∨ k = 3 ∨ k = 4 ∨ k = 5 ∨ k = 6 by omega) with rfl | rfl | rfl | rfl | rfl | rfl | rfl
    · exact hc1
    · exact hc2
    · exact hc3
    · exact hc4
    · exact hc5
    · exact hc6
    · exact hc7
  · refine Ev.blk (pc' := 93) (lv' := [some (vr 0 0 0), some (vi a1)]) (st' := [vi a1, vr 0 0 0]) (h' := h) 27 2 (Nat.le_of_ble_eq_true rfl) tk_HF_count rfl rfl ⟨trivial, trivial, trivial⟩ ?_
    obtain ⟨q1, hq8, hx⟩ := bd hx
    refine Ev.callV (ν := m_HF_countOfMoor) (av := [vi a1]) (rest := []) (r1 := some (vi q1)) (h1 := h) (ci := 0) (nn := 0) (o := 0) 29 1 tk_HF_count rfl bb_HF_countOfMoor vv_HF_countOfMoor lk_0_391 (by decide) rfl rfl (Or.inl rfl) (Nat.le_of_ble_eq_true rfl) (s_HF_countOfMoor Γ a1 h _ hq8) ?_
    show Ev Γ m_HF_count 96 [some (vr 0 0 0), some (vi a1)] [vi q1] h r h'
    obtain rfl := Option.some.inj hx
    obtain ⟨rfl, rfl⟩ := hP
    exact Ev.iret 30 tk_HF_count rfl rfl
theorem s_R_thrown (Γ : AG) (h : AH) : MetA Γ m_R_thrown [vr 12 0 80] h (some (vi (p_R_thrown h))) h := by
  refine Ev.met rfl rfl (Nat.le_of_ble_eq_true rfl) ?_
  generalize hx : p_R_thrown h = x
  show Ev Γ m_R_thrown 0 [some (vr 12 0 80)] [] h _ _
  obtain ⟨r, hr⟩ : ∃ r : Option AV, r = some (vi x) := ⟨_, rfl⟩
  obtain ⟨h', hh⟩ : ∃ h' : AH, h' = h := ⟨_, rfl⟩
  have hP : r = some (vi x) ∧ h' = h := ⟨hr, hh⟩
  suffices hS : Ev Γ m_R_thrown 0 [some (vr 12 0 80)] [] h r h' by rw [hr, hh] at hS; exact hS
  clear hr hh
  unfold p_R_thrown at hx
  refine Ev.blk (pc' := 4) (lv' := [some (vr 12 0 80)]) (st' := [vi (h.1 80 0)]) (h' := h) 0 2 (Nat.le_of_ble_eq_true rfl) tk_R_thrown rfl rfl ⟨trivial, trivial, trivial⟩ ?_
  subst hx
  obtain ⟨rfl, rfl⟩ := hP
  exact Ev.iret 2 tk_R_thrown rfl rfl
set_option maxRecDepth 4000 in
theorem l_R_bytesIn_L5 (Γ : AG) : ∀ (n : Nat) (v0 : Int32) (v1 : Int32) (v2 : Int32) (h : AH) (x : Int32), R_bytesIn_L5 n v0 v1 v2 h = some x → ∀ (r : Option AV) (h' : AH), r = some (vi x) ∧ h' = h → Ev Γ m_R_bytesIn 5 [some (vi v0), some (vi v1), some (vi v2)] [] h r h' := by
  intro n
  induction n with
  | zero => intro v0 v1 v2 h x hx; cases hx
  | succ n ih =>
    intro v0 v1 v2 h x hx r h' hP
    replace hx : R_bytesIn_L5_b (R_bytesIn_L5 n) v0 v1 v2 h = some x := hx
    unfold R_bytesIn_L5_b at hx
    refine Ev.blk (pc' := 6) (lv' := [some (vi v0), some (vi v1), some (vi v2)]) (st' := [vi v2]) (h' := h) 4 1 (Nat.le_of_ble_eq_true rfl) tk_R_bytesIn rfl rfl ⟨trivial, trivial⟩ ?_
    refine Ev.if_lt 5 33 tk_R_bytesIn rfl (by decide) (fun hc1 => ?_) (fun hc1 => ?_)
    · replace hx := ip hc1 hx
      refine Ev.blk (pc' := 34) (lv' := [some (vi v0), some (vi v1), some (vi v2)]) (st' := [vi v1]) (h' := h) 20 1 (Nat.le_of_ble_eq_true rfl) tk_R_bytesIn rfl rfl ⟨trivial, trivial⟩ ?_
      obtain rfl := Option.some.inj hx
      obtain ⟨rfl, rfl⟩ := hP
      exact Ev.iret 21 tk_R_bytesIn rfl rfl
    · replace hx := ia hc1 hx
      refine Ev.blk (pc' := 17) (lv' := [some (vi v0), some (vi v1), some (vi v2)]) (st' := [vi ((shrI v0 v2) &&& (ii 255)), vi v1]) (h' := h) 6 6 (Nat.le_of_ble_eq_true rfl) tk_R_bytesIn rfl rfl ⟨trivial, trivial, trivial, trivial, trivial, trivial, trivial⟩ ?_
      have K2 : ∀ v2_0 : Int32, v2_0 = (if ((shrI v0 v2) &&& (ii 255)) = 0 then (ii 0) else (ii 1)) → Ev Γ m_R_bytesIn 25 [some (vi v0), none, some (vi v2)] [vi v2_0, vi v1] h r h' := by
        intro v2_0 e3
        subst e3
        refine Ev.blk (pc' := 5) (lv' := [some (vi v0), some (vi (v1 + (if ((shrI v0 v2) &&& (ii 255)) = 0 then (ii 0) else (ii 1)))), some (vi (v2 + ii (-8)))]) (st' := []) (h' := h) 16 4 (Nat.le_of_ble_eq_true rfl) tk_R_bytesIn rfl rfl ⟨trivial, trivial, trivial, trivial, trivial⟩ ?_
        exact Ev.msk [true, true, true] (ih v0 (v1 + (if ((shrI v0 v2) &&& (ii 255)) = 0 then (ii 0) else (ii 1))) (v2 + ii (-8)) h _ hx r h' hP)
      refine Ev.if_eq 12 24 tk_R_bytesIn rfl (by decide) (fun hc4 => ?_) (fun hc4 => ?_)
      · refine Ev.blk (pc' := 25) (lv' := [some (vi v0), some (vi v1), some (vi v2)]) (st' := [vi (ii 0), vi v1]) (h' := h) 15 1 (Nat.le_of_ble_eq_true rfl) tk_R_bytesIn rfl rfl ⟨trivial, trivial⟩ ?_
        exact Ev.msk [true, false, true] (K2 _ (by first | rfl | simp only [if_pos hc4]))
      · refine Ev.blk (pc' := 25) (lv' := [some (vi v0), some (vi v1), some (vi v2)]) (st' := [vi (ii 1), vi v1]) (h' := h) 13 2 (Nat.le_of_ble_eq_true rfl) tk_R_bytesIn rfl rfl ⟨trivial, trivial, trivial⟩ ?_
        exact Ev.msk [true, false, true] (K2 _ (by first | rfl | simp only [if_neg hc4]))
set_option maxRecDepth 4000 in
theorem s_R_bytesIn (Γ : AG) (a0 : Int32) (h : AH) (x : Int32) (hx : f_R_bytesIn a0 h = some x) : MetA Γ m_R_bytesIn [vi a0] h (some (vi x)) h := by
  refine Ev.met rfl rfl (Nat.le_of_ble_eq_true rfl) ?_
  show Ev Γ m_R_bytesIn 0 [some (vi a0), none, none] [] h _ _
  obtain ⟨r, hr⟩ : ∃ r : Option AV, r = some (vi x) := ⟨_, rfl⟩
  obtain ⟨h', hh⟩ : ∃ h' : AH, h' = h := ⟨_, rfl⟩
  have hP : r = some (vi x) ∧ h' = h := ⟨hr, hh⟩
  suffices hS : Ev Γ m_R_bytesIn 0 [some (vi a0), none, none] [] h r h' by rw [hr, hh] at hS; exact hS
  clear hr hh
  unfold f_R_bytesIn at hx
  refine Ev.blk (pc' := 5) (lv' := [some (vi a0), some (vi (ii 0)), some (vi (ii 24))]) (st' := []) (h' := h) 0 4 (Nat.le_of_ble_eq_true rfl) tk_R_bytesIn rfl rfl ⟨trivial, trivial, trivial, trivial, trivial⟩ ?_
  refine Ev.msk [true, true, true] ?_
  show Ev Γ m_R_bytesIn 5 [some (vi a0), some (vi (ii 0)), some (vi (ii 24))] [] h r h'
  exact l_R_bytesIn_L5 Γ FU a0 (ii 0) (ii 24) h _ hx r h' hP
set_option maxRecDepth 4000 in
theorem l_R_put_L3 (Γ : AG) : ∀ (n : Nat) (v1 : Int32) (v2 : Int32) (h : AH) (x : AH), R_put_L3 n v1 v2 h = some x → ∀ (r : Option AV) (h' : AH), r = none ∧ h' = x → Ev Γ m_R_put 3 [some (vr 12 0 80), some (vi v1), some (vi v2)] [] h r h' := by
  intro n
  induction n with
  | zero => intro v1 v2 h x hx; cases hx
  | succ n ih =>
    intro v1 v2 h x hx r h' hP
    replace hx : R_put_L3_b (R_put_L3 n) v1 v2 h = some x := hx
    unfold R_put_L3_b at hx
    refine Ev.blk (pc' := 4) (lv' := [some (vr 12 0 80), some (vi v1), some (vi v2)]) (st' := [vi v2]) (h' := h) 2 1 (Nat.le_of_ble_eq_true rfl) tk_R_put rfl rfl ⟨trivial, trivial⟩ ?_
    refine Ev.if_lt 3 49 tk_R_put rfl (by decide) (fun hc1 => ?_) (fun hc1 => ?_)
    · replace hx := ip hc1 hx
      obtain rfl := Option.some.inj hx
      obtain ⟨rfl, rfl⟩ := hP
      exact Ev.vret 28 tk_R_put rfl rfl
    · replace hx := ia hc1 hx
      refine Ev.blk (pc' := 14) (lv' := [some (vr 12 0 80), some (vi v1), some (vi v2)]) (st' := [vi ((shrI v1 v2) &&& (ii 255))]) (h' := h) 4 5 (Nat.le_of_ble_eq_true rfl) tk_R_put rfl rfl ⟨trivial, trivial, trivial, trivial, trivial, trivial⟩ ?_
      obtain ⟨q1, hq2, hx⟩ := bd hx
      have K3 : Ev Γ m_R_put 43 [some (vr 12 0 80), some (vi v1), some (vi v2)] [] q1 r h' := by
        refine Ev.blk (pc' := 3) (lv' := [some (vr 12 0 80), some (vi v1), some (vi (v2 + ii (-8)))]) (st' := []) (h' := q1) 26 2 (Nat.le_of_ble_eq_true rfl) tk_R_put rfl rfl ⟨trivial, trivial, trivial⟩ ?_
        exact Ev.msk [true, true, true] (ih v1 (v2 + ii (-8)) q1 _ hx r h' hP)
      clear hx
      refine Ev.if_ne 9 20 tk_R_put rfl (by decide) (fun hc4 => ?_) (fun hc4 => ?_)
      · replace hq2 := ia hc4 hq2
        obtain ⟨hg5, hq2⟩ := gd hq2
        refine Ev.blk (pc' := 43) (lv' := [some (vr 12 0 80), some (vi v1), some (vi v2)]) (st' := []) (h' := (wI (wI h 81 (h.1 80 6).toNatClampNeg ((shrI v1 v2).toInt8.toInt32).toInt8.toInt32) 80 6 (((wI h 81 (h.1 80 6).toNatClampNeg ((shrI v1 v2).toInt8.toInt32).toInt8.toInt32).1 80 6) + (ii 1)))) 11 15 (Nat.le_of_ble_eq_true rfl) tk_R_put rfl rfl ⟨trivial, trivial, trivial, trivial, trivial, trivial, trivial, trivial, hg5, trivial, trivial, trivial, trivial, trivial, trivial, trivial⟩ ?_
        obtain rfl := Option.some.inj hq2
        exact Ev.msk [true, true, true] K3
      · replace hq2 := ip hc4 hq2
        refine Ev.blk (pc' := 43) (lv' := [some (vr 12 0 80), some (vi v1), some (vi v2)]) (st' := []) (h' := h) 10 1 (Nat.le_of_ble_eq_true rfl) tk_R_put rfl rfl ⟨trivial, trivial⟩ ?_
        obtain rfl := Option.some.inj hq2
        exact Ev.msk [true, true, true] K3
set_option maxRecDepth 4000 in
theorem s_R_put (Γ : AG) (a1 : Int32) (h : AH) (x : AH) (hx : f_R_put a1 h = some x) : MetA Γ m_R_put [vr 12 0 80, vi a1] h (none) x := by
  refine Ev.met rfl rfl (Nat.le_of_ble_eq_true rfl) ?_
  show Ev Γ m_R_put 0 [some (vr 12 0 80), some (vi a1), none] [] h _ _
  obtain ⟨r, hr⟩ : ∃ r : Option AV, r = none := ⟨_, rfl⟩
  obtain ⟨h', hh⟩ : ∃ h' : AH, h' = x := ⟨_, rfl⟩
  have hP : r = none ∧ h' = x := ⟨hr, hh⟩
  suffices hS : Ev Γ m_R_put 0 [some (vr 12 0 80), some (vi a1), none] [] h r h' by rw [hr, hh] at hS; exact hS
  clear hr hh
  unfold f_R_put at hx
  refine Ev.blk (pc' := 3) (lv' := [some (vr 12 0 80), some (vi a1), some (vi (ii 24))]) (st' := []) (h' := h) 0 2 (Nat.le_of_ble_eq_true rfl) tk_R_put rfl rfl ⟨trivial, trivial, trivial⟩ ?_
  refine Ev.msk [true, true, true] ?_
  show Ev Γ m_R_put 3 [some (vr 12 0 80), some (vi a1), some (vi (ii 24))] [] h r h'
  exact l_R_put_L3 Γ FU a1 (ii 24) h _ hx r h' hP
set_option maxRecDepth 4000 in
theorem s_R_feed (Γ : AG) (a1 : Int32) (a2 : Int32) (a3 : Int32) (a4 : Int32) (a5 : Int32) (h : AH) (x : Int32 × AH) (hx : f_R_feed a1 a2 a3 a4 a5 h = some x) : MetA Γ m_R_feed [vr 12 0 80, vi a1, vi a2, vi a3, vi a4, vi a5] h (some (vi x.1)) x.2 := by
  refine Ev.met rfl rfl (Nat.le_of_ble_eq_true rfl) ?_
  show Ev Γ m_R_feed 0 [some (vr 12 0 80), some (vi a1), some (vi a2), some (vi a3), some (vi a4), some (vi a5)] [] h _ _
  obtain ⟨r, hr⟩ : ∃ r : Option AV, r = some (vi x.1) := ⟨_, rfl⟩
  obtain ⟨h', hh⟩ : ∃ h' : AH, h' = x.2 := ⟨_, rfl⟩
  have hP : r = some (vi x.1) ∧ h' = x.2 := ⟨hr, hh⟩
  suffices hS : Ev Γ m_R_feed 0 [some (vr 12 0 80), some (vi a1), some (vi a2), some (vi a3), some (vi a4), some (vi a5)] [] h r h' by rw [hr, hh] at hS; exact hS
  clear hr hh
  unfold f_R_feed at hx
  refine Ev.blk (pc' := 10) (lv' := [some (vr 12 0 80), some (vi a1), some (vi a2), some (vi a3), some (vi a4), some (vi a5)]) (st' := [vi a1, vi ((wI h 80 0 (ii 0)).1 80 6)]) (h' := (wI h 80 0 (ii 0))) 0 6 (Nat.le_of_ble_eq_true rfl) tk_R_feed rfl rfl ⟨trivial, trivial, trivial, trivial, trivial, trivial, trivial⟩ ?_
  obtain ⟨q1, hq1, hx⟩ := bd hx
  refine Ev.callS (ν := m_R_bytesIn) (av := [vi a1]) (rest := [vi ((wI h 80 0 (ii 0)).1 80 6)]) (r1 := some (vi q1)) (h1 := (wI h 80 0 (ii 0))) 6 1 tk_R_feed rfl bb_R_bytesIn vv_R_bytesIn lk_12_117 (by decide) rfl rfl (Nat.le_of_ble_eq_true rfl) (s_R_bytesIn Γ a1 (wI h 80 0 (ii 0)) _ hq1) ?_
  show Ev Γ m_R_feed 13 [some (vr 12 0 80), some (vi a1), some (vi a2), some (vi a3), some (vi a4), some (vi a5)] [vi q1, vi ((wI h 80 0 (ii 0)).1 80 6)] (wI h 80 0 (ii 0)) r h'
  refine Ev.blk (pc' := 15) (lv' := [some (vr 12 0 80), some (vi a1), some (vi a2), some (vi a3), some (vi a4), some (vi a5)]) (st' := [vi a2, vi (((wI h 80 0 (ii 0)).1 80 6) + q1)]) (h' := (wI h 80 0 (ii 0))) 7 2 (Nat.le_of_ble_eq_true rfl) tk_R_feed rfl rfl ⟨trivial, trivial, trivial⟩ ?_
  obtain ⟨q2, hq2, hx⟩ := bd hx
  refine Ev.callS (ν := m_R_bytesIn) (av := [vi a2]) (rest := [vi (((wI h 80 0 (ii 0)).1 80 6) + q1)]) (r1 := some (vi q2)) (h1 := (wI h 80 0 (ii 0))) 9 1 tk_R_feed rfl bb_R_bytesIn vv_R_bytesIn lk_12_117 (by decide) rfl rfl (Nat.le_of_ble_eq_true rfl) (s_R_bytesIn Γ a2 (wI h 80 0 (ii 0)) _ hq2) ?_
  show Ev Γ m_R_feed 18 [some (vr 12 0 80), some (vi a1), some (vi a2), some (vi a3), some (vi a4), some (vi a5)] [vi q2, vi (((wI h 80 0 (ii 0)).1 80 6) + q1)] (wI h 80 0 (ii 0)) r h'
  refine Ev.blk (pc' := 20) (lv' := [some (vr 12 0 80), some (vi a1), some (vi a2), some (vi a3), some (vi a4), some (vi a5)]) (st' := [vi a3, vi ((((wI h 80 0 (ii 0)).1 80 6) + q1) + q2)]) (h' := (wI h 80 0 (ii 0))) 10 2 (Nat.le_of_ble_eq_true rfl) tk_R_feed rfl rfl ⟨trivial, trivial, trivial⟩ ?_
  obtain ⟨q3, hq3, hx⟩ := bd hx
  refine Ev.callS (ν := m_R_bytesIn) (av := [vi a3]) (rest := [vi ((((wI h 80 0 (ii 0)).1 80 6) + q1) + q2)]) (r1 := some (vi q3)) (h1 := (wI h 80 0 (ii 0))) 12 1 tk_R_feed rfl bb_R_bytesIn vv_R_bytesIn lk_12_117 (by decide) rfl rfl (Nat.le_of_ble_eq_true rfl) (s_R_bytesIn Γ a3 (wI h 80 0 (ii 0)) _ hq3) ?_
  show Ev Γ m_R_feed 23 [some (vr 12 0 80), some (vi a1), some (vi a2), some (vi a3), some (vi a4), some (vi a5)] [vi q3, vi ((((wI h 80 0 (ii 0)).1 80 6) + q1) + q2)] (wI h 80 0 (ii 0)) r h'
  refine Ev.blk (pc' := 26) (lv' := [some (vr 12 0 80), some (vi a1), some (vi a2), some (vi a3), some (vi a4), some (vi a5)]) (st' := [vi a4, vi (((((wI h 80 0 (ii 0)).1 80 6) + q1) + q2) + q3)]) (h' := (wI h 80 0 (ii 0))) 13 2 (Nat.le_of_ble_eq_true rfl) tk_R_feed rfl rfl ⟨trivial, trivial, trivial⟩ ?_
  obtain ⟨q4, hq4, hx⟩ := bd hx
  refine Ev.callS (ν := m_R_bytesIn) (av := [vi a4]) (rest := [vi (((((wI h 80 0 (ii 0)).1 80 6) + q1) + q2) + q3)]) (r1 := some (vi q4)) (h1 := (wI h 80 0 (ii 0))) 15 1 tk_R_feed rfl bb_R_bytesIn vv_R_bytesIn lk_12_117 (by decide) rfl rfl (Nat.le_of_ble_eq_true rfl) (s_R_bytesIn Γ a4 (wI h 80 0 (ii 0)) _ hq4) ?_
  show Ev Γ m_R_feed 29 [some (vr 12 0 80), some (vi a1), some (vi a2), some (vi a3), some (vi a4), some (vi a5)] [vi q4, vi (((((wI h 80 0 (ii 0)).1 80 6) + q1) + q2) + q3)] (wI h 80 0 (ii 0)) r h'
  refine Ev.blk (pc' := 32) (lv' := [some (vr 12 0 80), some (vi a1), some (vi a2), some (vi a3), some (vi a4), some (vi a5)]) (st' := [vi a5, vi ((((((wI h 80 0 (ii 0)).1 80 6) + q1) + q2) + q3) + q4)]) (h' := (wI h 80 0 (ii 0))) 16 2 (Nat.le_of_ble_eq_true rfl) tk_R_feed rfl rfl ⟨trivial, trivial, trivial⟩ ?_
  obtain ⟨q5, hq5, hx⟩ := bd hx
  refine Ev.callS (ν := m_R_bytesIn) (av := [vi a5]) (rest := [vi ((((((wI h 80 0 (ii 0)).1 80 6) + q1) + q2) + q3) + q4)]) (r1 := some (vi q5)) (h1 := (wI h 80 0 (ii 0))) 18 1 tk_R_feed rfl bb_R_bytesIn vv_R_bytesIn lk_12_117 (by decide) rfl rfl (Nat.le_of_ble_eq_true rfl) (s_R_bytesIn Γ a5 (wI h 80 0 (ii 0)) _ hq5) ?_
  show Ev Γ m_R_feed 35 [some (vr 12 0 80), some (vi a1), some (vi a2), some (vi a3), some (vi a4), some (vi a5)] [vi q5, vi ((((((wI h 80 0 (ii 0)).1 80 6) + q1) + q2) + q3) + q4)] (wI h 80 0 (ii 0)) r h'
  refine Ev.blk (pc' := 39) (lv' := [some (vr 12 0 80), some (vi a1), some (vi a2), some (vi a3), some (vi a4), some (vi a5)]) (st' := [vi (ii 240), vi (((((((wI h 80 0 (ii 0)).1 80 6) + q1) + q2) + q3) + q4) + q5)]) (h' := (wI h 80 0 (ii 0))) 19 2 (Nat.le_of_ble_eq_true rfl) tk_R_feed rfl rfl ⟨trivial, trivial, trivial⟩ ?_
  refine Ev.icmp_le 21 44 tk_R_feed rfl (by decide) (fun hc6 => ?_) (fun hc6 => ?_)
  · replace hx := ip hc6 hx
    refine Ev.blk (pc' := 46) (lv' := [some (vr 12 0 80), some (vi a1), some (vi a2), some (vi a3), some (vi a4), some (vi a5)]) (st' := [vi a1, vr 12 0 80]) (h' := (wI h 80 0 (ii 0))) 24 2 (Nat.le_of_ble_eq_true rfl) tk_R_feed rfl rfl ⟨trivial, trivial, trivial⟩ ?_
    obtain ⟨q6, hq7, hx⟩ := bd hx
    refine Ev.callV (ν := m_R_put) (av := [vi a1]) (rest := []) (r1 := none) (h1 := q6) (ci := 12) (nn := 0) (o := 80) 26 1 tk_R_feed rfl bb_R_put vv_R_put lk_12_121 (by decide) rfl rfl (Or.inl rfl) (Nat.le_of_ble_eq_true rfl) (s_R_put Γ a1 (wI h 80 0 (ii 0)) _ hq7) ?_
    show Ev Γ m_R_feed 49 [some (vr 12 0 80), some (vi a1), some (vi a2), some (vi a3), some (vi a4), some (vi a5)] [] q6 r h'
    refine Ev.blk (pc' := 51) (lv' := [some (vr 12 0 80), some (vi a1), some (vi a2), some (vi a3), some (vi a4), some (vi a5)]) (st' := [vi a2, vr 12 0 80]) (h' := q6) 27 2 (Nat.le_of_ble_eq_true rfl) tk_R_feed rfl rfl ⟨trivial, trivial, trivial⟩ ?_
    obtain ⟨q7, hq8, hx⟩ := bd hx
    refine Ev.callV (ν := m_R_put) (av := [vi a2]) (rest := []) (r1 := none) (h1 := q7) (ci := 12) (nn := 0) (o := 80) 29 1 tk_R_feed rfl bb_R_put vv_R_put lk_12_121 (by decide) rfl rfl (Or.inl rfl) (Nat.le_of_ble_eq_true rfl) (s_R_put Γ a2 q6 _ hq8) ?_
    show Ev Γ m_R_feed 54 [some (vr 12 0 80), some (vi a1), some (vi a2), some (vi a3), some (vi a4), some (vi a5)] [] q7 r h'
    refine Ev.blk (pc' := 56) (lv' := [some (vr 12 0 80), some (vi a1), some (vi a2), some (vi a3), some (vi a4), some (vi a5)]) (st' := [vi a3, vr 12 0 80]) (h' := q7) 30 2 (Nat.le_of_ble_eq_true rfl) tk_R_feed rfl rfl ⟨trivial, trivial, trivial⟩ ?_
    obtain ⟨q8, hq9, hx⟩ := bd hx
    refine Ev.callV (ν := m_R_put) (av := [vi a3]) (rest := []) (r1 := none) (h1 := q8) (ci := 12) (nn := 0) (o := 80) 32 1 tk_R_feed rfl bb_R_put vv_R_put lk_12_121 (by decide) rfl rfl (Or.inl rfl) (Nat.le_of_ble_eq_true rfl) (s_R_put Γ a3 q7 _ hq9) ?_
    show Ev Γ m_R_feed 59 [some (vr 12 0 80), some (vi a1), some (vi a2), some (vi a3), some (vi a4), some (vi a5)] [] q8 r h'
    refine Ev.blk (pc' := 62) (lv' := [some (vr 12 0 80), some (vi a1), some (vi a2), some (vi a3), some (vi a4), some (vi a5)]) (st' := [vi a4, vr 12 0 80]) (h' := q8) 33 2 (Nat.le_of_ble_eq_true rfl) tk_R_feed rfl rfl ⟨trivial, trivial, trivial⟩ ?_
    obtain ⟨q9, hq10, hx⟩ := bd hx
    refine Ev.callV (ν := m_R_put) (av := [vi a4]) (rest := []) (r1 := none) (h1 := q9) (ci := 12) (nn := 0) (o := 80) 35 1 tk_R_feed rfl bb_R_put vv_R_put lk_12_121 (by decide) rfl rfl (Or.inl rfl) (Nat.le_of_ble_eq_true rfl) (s_R_put Γ a4 q8 _ hq10) ?_
    show Ev Γ m_R_feed 65 [some (vr 12 0 80), some (vi a1), some (vi a2), some (vi a3), some (vi a4), some (vi a5)] [] q9 r h'
    refine Ev.blk (pc' := 68) (lv' := [some (vr 12 0 80), some (vi a1), some (vi a2), some (vi a3), some (vi a4), some (vi a5)]) (st' := [vi a5, vr 12 0 80]) (h' := q9) 36 2 (Nat.le_of_ble_eq_true rfl) tk_R_feed rfl rfl ⟨trivial, trivial, trivial⟩ ?_
    obtain ⟨q10, hq11, hx⟩ := bd hx
    refine Ev.callV (ν := m_R_put) (av := [vi a5]) (rest := []) (r1 := none) (h1 := q10) (ci := 12) (nn := 0) (o := 80) 38 1 tk_R_feed rfl bb_R_put vv_R_put lk_12_121 (by decide) rfl rfl (Or.inl rfl) (Nat.le_of_ble_eq_true rfl) (s_R_put Γ a5 q9 _ hq11) ?_
    show Ev Γ m_R_feed 71 [some (vr 12 0 80), some (vi a1), some (vi a2), some (vi a3), some (vi a4), some (vi a5)] [] q10 r h'
    refine Ev.blk (pc' := 75) (lv' := [some (vr 12 0 80), some (vi a1), some (vi a2), some (vi a3), some (vi a4), some (vi a5)]) (st' := [vi (q10.1 80 6)]) (h' := q10) 39 2 (Nat.le_of_ble_eq_true rfl) tk_R_feed rfl rfl ⟨trivial, trivial, trivial⟩ ?_
    obtain rfl := Option.some.inj hx
    obtain ⟨rfl, rfl⟩ := hP
    exact Ev.iret 41 tk_R_feed rfl rfl
  · replace hx := ia hc6 hx
    refine Ev.blk (pc' := 43) (lv' := [some (vr 12 0 80), some (vi a1), some (vi a2), some (vi a3), some (vi a4), some (vi a5)]) (st' := [vi (ii (-1))]) (h' := (wI h 80 0 (ii 0))) 22 1 (Nat.le_of_ble_eq_true rfl) tk_R_feed rfl rfl ⟨trivial, trivial⟩ ?_
    obtain rfl := Option.some.inj hx
    obtain ⟨rfl, rfl⟩ := hP
    exact Ev.iret 23 tk_R_feed rfl rfl
set_option maxRecDepth 4000 in
theorem s_R_end (Γ : AG) (a1 : Int32) (h : AH) (x : Int32 × AH) (hx : f_R_end a1 h = some x) : MetA Γ m_R_end [vr 12 0 80, vi a1] h (some (vi x.1)) x.2 := by
  refine Ev.met rfl rfl (Nat.le_of_ble_eq_true rfl) ?_
  show Ev Γ m_R_end 0 [some (vr 12 0 80), some (vi a1)] [] h _ _
  obtain ⟨r, hr⟩ : ∃ r : Option AV, r = some (vi x.1) := ⟨_, rfl⟩
  obtain ⟨h', hh⟩ : ∃ h' : AH, h' = x.2 := ⟨_, rfl⟩
  have hP : r = some (vi x.1) ∧ h' = x.2 := ⟨hr, hh⟩
  suffices hS : Ev Γ m_R_end 0 [some (vr 12 0 80), some (vi a1)] [] h r h' by rw [hr, hh] at hS; exact hS
  clear hr hh
  unfold f_R_end at hx
  refine Ev.blk (pc' := 6) (lv' := [some (vr 12 0 80), some (vi a1)]) (st' := [vi a1]) (h' := (wI h 80 0 (ii 0))) 0 4 (Nat.le_of_ble_eq_true rfl) tk_R_end rfl rfl ⟨trivial, trivial, trivial, trivial, trivial⟩ ?_
  refine Ev.if_lt 4 17 tk_R_end rfl (by decide) (fun hc1 => ?_) (fun hc1 => ?_)
  · replace hx := ip hc1 hx
    refine Ev.blk (pc' := 18) (lv' := [some (vr 12 0 80), some (vi a1)]) (st' := [vi (ii 0)]) (h' := (wI h 80 0 (ii 0))) 9 1 (Nat.le_of_ble_eq_true rfl) tk_R_end rfl rfl ⟨trivial, trivial⟩ ?_
    obtain rfl := Option.some.inj hx
    obtain ⟨rfl, rfl⟩ := hP
    exact Ev.zret 10 tk_R_end rfl rfl rfl
  · replace hx := ia hc1 hx
    refine Ev.blk (pc' := 14) (lv' := [some (vr 12 0 80), some (vi a1)]) (st' := [vi ((wI h 80 0 (ii 0)).1 80 6), vi a1]) (h' := (wI h 80 0 (ii 0))) 5 3 (Nat.le_of_ble_eq_true rfl) tk_R_end rfl rfl ⟨trivial, trivial, trivial, trivial⟩ ?_
    refine Ev.icmp_le 8 19 tk_R_end rfl (by decide) (fun hc2 => ?_) (fun hc2 => ?_)
    · replace hx := ip hc2 hx
      refine Ev.blk (pc' := 25) (lv' := [some (vr 12 0 80), some (vi a1)]) (st' := [vi (ii 1)]) (h' := (wI (wI h 80 0 (ii 0)) 80 6 a1)) 11 4 (Nat.le_of_ble_eq_true rfl) tk_R_end rfl rfl ⟨trivial, trivial, trivial, trivial, trivial⟩ ?_
      obtain rfl := Option.some.inj hx
      obtain ⟨rfl, rfl⟩ := hP
      exact Ev.zret 15 tk_R_end rfl rfl rfl
    · replace hx := ia hc2 hx
      refine Ev.blk (pc' := 18) (lv' := [some (vr 12 0 80), some (vi a1)]) (st' := [vi (ii 0)]) (h' := (wI h 80 0 (ii 0))) 9 1 (Nat.le_of_ble_eq_true rfl) tk_R_end rfl rfl ⟨trivial, trivial⟩ ?_
      obtain rfl := Option.some.inj hx
      obtain ⟨rfl, rfl⟩ := hP
      exact Ev.zret 10 tk_R_end rfl rfl rfl
theorem s_R_isIn (Γ : AG) (a0 : Int64) (a2 : Int64) (a4 : Int64) (h : AH) : MetA Γ m_R_isIn [vl a0, vl a2, vl a4] h (some (vi (p_R_isIn a0 a2 a4))) h := by
  refine Ev.met rfl rfl (Nat.le_of_ble_eq_true rfl) ?_
  generalize hx : p_R_isIn a0 a2 a4 = x
  show Ev Γ m_R_isIn 0 [some (vl a0), none, some (vl a2), none, some (vl a4), none] [] h _ _
  obtain ⟨r, hr⟩ : ∃ r : Option AV, r = some (vi x) := ⟨_, rfl⟩
  obtain ⟨h', hh⟩ : ∃ h' : AH, h' = h := ⟨_, rfl⟩
  have hP : r = some (vi x) ∧ h' = h := ⟨hr, hh⟩
  suffices hS : Ev Γ m_R_isIn 0 [some (vl a0), none, some (vl a2), none, some (vl a4), none] [] h r h' by rw [hr, hh] at hS; exact hS
  clear hr hh
  unfold p_R_isIn at hx
  refine Ev.blk (pc' := 3) (lv' := [some (vl a0), none, some (vl a2), none, some (vl a4), none]) (st' := [vi (lg_cmp a0 a2)]) (h' := h) 0 3 (Nat.le_of_ble_eq_true rfl) tk_R_isIn rfl rfl ⟨trivial, trivial, trivial, trivial⟩ ?_
  refine Ev.if_lt 3 17 tk_R_isIn rfl (by decide) (fun hc1 => ?_) (fun hc1 => ?_)
  · replace hx := ip hc1 hx
    refine Ev.blk (pc' := 18) (lv' := [some (vl a0), none, some (vl a2), none, some (vl a4), none]) (st' := [vi (ii 0)]) (h' := h) 10 1 (Nat.le_of_ble_eq_true rfl) tk_R_isIn rfl rfl ⟨trivial, trivial⟩ ?_
    subst hx
    obtain ⟨rfl, rfl⟩ := hP
    exact Ev.zret 11 tk_R_isIn rfl rfl rfl
  · replace hx := ia hc1 hx
    refine Ev.blk (pc' := 10) (lv' := [some (vl a0), none, some (vl a2), none, some (vl a4), none]) (st' := [vi (lg_cmp a0 a4)]) (h' := h) 4 3 (Nat.le_of_ble_eq_true rfl) tk_R_isIn rfl rfl ⟨trivial, trivial, trivial, trivial⟩ ?_
    refine Ev.if_gt 7 17 tk_R_isIn rfl (by decide) (fun hc2 => ?_) (fun hc2 => ?_)
    · replace hx := ip hc2 hx
      refine Ev.blk (pc' := 18) (lv' := [some (vl a0), none, some (vl a2), none, some (vl a4), none]) (st' := [vi (ii 0)]) (h' := h) 10 1 (Nat.le_of_ble_eq_true rfl) tk_R_isIn rfl rfl ⟨trivial, trivial⟩ ?_
      subst hx
      obtain ⟨rfl, rfl⟩ := hP
      exact Ev.zret 11 tk_R_isIn rfl rfl rfl
    · replace hx := ia hc2 hx
      refine Ev.blk (pc' := 18) (lv' := [some (vl a0), none, some (vl a2), none, some (vl a4), none]) (st' := [vi (ii 1)]) (h' := h) 8 2 (Nat.le_of_ble_eq_true rfl) tk_R_isIn rfl rfl ⟨trivial, trivial, trivial⟩ ?_
      subst hx
      obtain ⟨rfl, rfl⟩ := hP
      exact Ev.zret 11 tk_R_isIn rfl rfl rfl
set_option maxRecDepth 4000 in
theorem s_R_starts (Γ : AG) (n1 : Nat) (o1 : Nat) (a2 : Int32) (a3 : Int32) (h : AH) (x : AH) (hx : f_R_starts n1 o1 a2 a3 h = some x) : MetA Γ m_R_starts [vr 12 0 80, vr 21 n1 o1, vi a2, vi a3] h (none) x := by
  refine Ev.met rfl rfl (Nat.le_of_ble_eq_true rfl) ?_
  show Ev Γ m_R_starts 0 [some (vr 12 0 80), some (vr 21 n1 o1), some (vi a2), some (vi a3)] [] h _ _
  obtain ⟨r, hr⟩ : ∃ r : Option AV, r = none := ⟨_, rfl⟩
  obtain ⟨h', hh⟩ : ∃ h' : AH, h' = x := ⟨_, rfl⟩
  have hP : r = none ∧ h' = x := ⟨hr, hh⟩
  suffices hS : Ev Γ m_R_starts 0 [some (vr 12 0 80), some (vr 21 n1 o1), some (vi a2), some (vi a3)] [] h r h' by rw [hr, hh] at hS; exact hS
  clear hr hh
  unfold f_R_starts at hx
  refine Ev.blk (pc' := 25) (lv' := [some (vr 12 0 80), some (vr 21 n1 o1), some (vi a2), some (vi a3)]) (st' := []) (h' := (wI (wI (wI (wI (wR h 80 5 o1) 80 8 a2) 80 9 a3) 80 10 (ii 0)) 80 11 (ii (-1)))) 0 15 (Nat.le_of_ble_eq_true rfl) tk_R_starts rfl rfl ⟨trivial, trivial, trivial, trivial, trivial, trivial, trivial, trivial, trivial, trivial, trivial, trivial, trivial, trivial, trivial, trivial⟩ ?_
  obtain rfl := Option.some.inj hx
  obtain ⟨rfl, rfl⟩ := hP
  exact Ev.vret 15 tk_R_starts rfl rfl
theorem s_R_usual (Γ : AG) (a0 : Int32) (a1 : Int32) (h : AH) : MetA Γ m_R_usual [vi a0, vi a1] h (some (vi (p_R_usual a0 a1))) h := by
  refine Ev.met rfl rfl (Nat.le_of_ble_eq_true rfl) ?_
  generalize hx : p_R_usual a0 a1 = x
  show Ev Γ m_R_usual 0 [some (vi a0), some (vi a1)] [] h _ _
  obtain ⟨r, hr⟩ : ∃ r : Option AV, r = some (vi x) := ⟨_, rfl⟩
  obtain ⟨h', hh⟩ : ∃ h' : AH, h' = h := ⟨_, rfl⟩
  have hP : r = some (vi x) ∧ h' = h := ⟨hr, hh⟩
  suffices hS : Ev Γ m_R_usual 0 [some (vi a0), some (vi a1)] [] h r h' by rw [hr, hh] at hS; exact hS
  clear hr hh
  unfold p_R_usual at hx
  refine Ev.blk (pc' := 1) (lv' := [some (vi a0), some (vi a1)]) (st' := [vi a0]) (h' := h) 0 1 (Nat.le_of_ble_eq_true rfl) tk_R_usual rfl rfl ⟨trivial, trivial⟩ ?_
  by_cases hc1 : a0 = ii 105
  · replace hx := ip hc1 hx
    refine Ev.look 1 84 tk_R_usual rfl (by decide) (off := 83) (by rw [hc1]; decide) (by decide) ?_
    refine Ev.blk (pc' := 86) (lv' := [some (vi a0), some (vi a1)]) (st' := [vi (ii 1), vi a1]) (h' := h) 25 2 (Nat.le_of_ble_eq_true rfl) tk_R_usual rfl rfl ⟨trivial, trivial, trivial⟩ ?_
    refine Ev.icmp_ne 27 93 tk_R_usual rfl (by decide) (fun hc2 => ?_) (fun hc2 => ?_)
    · replace hx := ia hc2 hx
      refine Ev.blk (pc' := 94) (lv' := [some (vi a0), some (vi a1)]) (st' := [vi (ii 0)]) (h' := h) 30 1 (Nat.le_of_ble_eq_true rfl) tk_R_usual rfl rfl ⟨trivial, trivial⟩ ?_
      subst hx
      obtain ⟨rfl, rfl⟩ := hP
      exact Ev.iret 31 tk_R_usual rfl rfl
    · replace hx := ip hc2 hx
      refine Ev.blk (pc' := 94) (lv' := [some (vi a0), some (vi a1)]) (st' := [vi (ii 2)]) (h' := h) 28 2 (Nat.le_of_ble_eq_true rfl) tk_R_usual rfl rfl ⟨trivial, trivial, trivial⟩ ?_
      subst hx
      obtain ⟨rfl, rfl⟩ := hP
      exact Ev.iret 31 tk_R_usual rfl rfl
  replace hx := ia hc1 hx
  by_cases hc3 : a0 = ii 107
  · replace hx := ip hc3 hx
    refine Ev.look 1 95 tk_R_usual rfl (by decide) (off := 94) (by rw [hc3]; decide) (by decide) ?_
    refine Ev.blk (pc' := 96) (lv' := [some (vi a0), some (vi a1)]) (st' := [vi a1]) (h' := h) 32 1 (Nat.le_of_ble_eq_true rfl) tk_R_usual rfl rfl ⟨trivial, trivial⟩ ?_
    subst hx
    obtain ⟨rfl, rfl⟩ := hP
    exact Ev.iret 33 tk_R_usual rfl rfl
  replace hx := ia hc3 hx
  by_cases hc4 : a0 = ii 115
  · replace hx := ip hc4 hx
    refine Ev.look 1 44 tk_R_usual rfl (by decide) (off := 43) (by rw [hc4]; decide) (by decide) ?_
    refine Ev.blk (pc' := 45) (lv' := [some (vi a0), some (vi a1)]) (st' := [vi a1]) (h' := h) 2 1 (Nat.le_of_ble_eq_true rfl) tk_R_usual rfl rfl ⟨trivial, trivial⟩ ?_
    refine Ev.if_ne 3 52 tk_R_usual rfl (by decide) (fun hc5 => ?_) (fun hc5 => ?_)
    · replace hx := ia hc5 hx
      refine Ev.blk (pc' := 54) (lv' := [some (vi a0), some (vi a1)]) (st' := [vi (ii 1), vi a1]) (h' := h) 6 2 (Nat.le_of_ble_eq_true rfl) tk_R_usual rfl rfl ⟨trivial, trivial, trivial⟩ ?_
      refine Ev.icmp_ne 8 61 tk_R_usual rfl (by decide) (fun hc6 => ?_) (fun hc6 => ?_)
      · replace hx := ia hc6 hx
        refine Ev.blk (pc' := 63) (lv' := [some (vi a0), some (vi a1)]) (st' := [vi (ii 2), vi a1]) (h' := h) 11 2 (Nat.le_of_ble_eq_true rfl) tk_R_usual rfl rfl ⟨trivial, trivial, trivial⟩ ?_
        refine Ev.icmp_ne 13 70 tk_R_usual rfl (by decide) (fun hc7 => ?_) (fun hc7 => ?_)
        · replace hx := ia hc7 hx
          refine Ev.blk (pc' := 71) (lv' := [some (vi a0), some (vi a1)]) (st' := [vi (ii 1)]) (h' := h) 16 1 (Nat.le_of_ble_eq_true rfl) tk_R_usual rfl rfl ⟨trivial, trivial⟩ ?_
          subst hx
          obtain ⟨rfl, rfl⟩ := hP
          exact Ev.iret 17 tk_R_usual rfl rfl
        · replace hx := ip hc7 hx
          refine Ev.blk (pc' := 71) (lv' := [some (vi a0), some (vi a1)]) (st' := [vi (ii 2)]) (h' := h) 14 2 (Nat.le_of_ble_eq_true rfl) tk_R_usual rfl rfl ⟨trivial, trivial, trivial⟩ ?_
          subst hx
          obtain ⟨rfl, rfl⟩ := hP
          exact Ev.iret 17 tk_R_usual rfl rfl
      · replace hx := ip hc6 hx
        refine Ev.blk (pc' := 71) (lv' := [some (vi a0), some (vi a1)]) (st' := [vi (ii 4)]) (h' := h) 9 2 (Nat.le_of_ble_eq_true rfl) tk_R_usual rfl rfl ⟨trivial, trivial, trivial⟩ ?_
        subst hx
        obtain ⟨rfl, rfl⟩ := hP
        exact Ev.iret 17 tk_R_usual rfl rfl
    · replace hx := ip hc5 hx
      refine Ev.blk (pc' := 71) (lv' := [some (vi a0), some (vi a1)]) (st' := [vi (ii 5)]) (h' := h) 4 2 (Nat.le_of_ble_eq_true rfl) tk_R_usual rfl rfl ⟨trivial, trivial, trivial⟩ ?_
      subst hx
      obtain ⟨rfl, rfl⟩ := hP
      exact Ev.iret 17 tk_R_usual rfl rfl
  replace hx := ia hc4 hx
  by_cases hc8 : a0 = ii 118
  · replace hx := ip hc8 hx
    refine Ev.look 1 72 tk_R_usual rfl (by decide) (off := 71) (by rw [hc8]; decide) (by decide) ?_
    refine Ev.blk (pc' := 74) (lv' := [some (vi a0), some (vi a1)]) (st' := [vi (ii 1), vi a1]) (h' := h) 18 2 (Nat.le_of_ble_eq_true rfl) tk_R_usual rfl rfl ⟨trivial, trivial, trivial⟩ ?_
    refine Ev.icmp_ne 20 82 tk_R_usual rfl (by decide) (fun hc9 => ?_) (fun hc9 => ?_)
    · replace hx := ia hc9 hx
      refine Ev.blk (pc' := 83) (lv' := [some (vi a0), some (vi a1)]) (st' := [vi (ii 0)]) (h' := h) 23 1 (Nat.le_of_ble_eq_true rfl) tk_R_usual rfl rfl ⟨trivial, trivial⟩ ?_
      subst hx
      obtain ⟨rfl, rfl⟩ := hP
      exact Ev.iret 24 tk_R_usual rfl rfl
    · replace hx := ip hc9 hx
      refine Ev.blk (pc' := 83) (lv' := [some (vi a0), some (vi a1)]) (st' := [vi (ii 20)]) (h' := h) 21 2 (Nat.le_of_ble_eq_true rfl) tk_R_usual rfl rfl ⟨trivial, trivial, trivial⟩ ?_
      subst hx
      obtain ⟨rfl, rfl⟩ := hP
      exact Ev.iret 24 tk_R_usual rfl rfl
  replace hx := ia hc8 hx
  refine Ev.lookD 1 97 tk_R_usual rfl (by decide) (fun q hq => ?_) (by decide) ?_
  · simp only [List.mem_cons, List.not_mem_nil, or_false] at hq
    rcases hq with rfl | rfl | rfl | rfl
    · exact hc1
    · exact hc3
    · exact hc4
    · exact hc8
  · refine Ev.blk (pc' := 99) (lv' := [some (vi a0), some (vi a1)]) (st' := [vi (ii 1), vi a1]) (h' := h) 34 2 (Nat.le_of_ble_eq_true rfl) tk_R_usual rfl rfl ⟨trivial, trivial, trivial⟩ ?_
    refine Ev.icmp_eq 36 107 tk_R_usual rfl (by decide) (fun hc10 => ?_) (fun hc10 => ?_)
    · replace hx := ip hc10 hx
      refine Ev.blk (pc' := 113) (lv' := [some (vi a0), some (vi a1)]) (st' := [vi (ii 30)]) (h' := h) 40 2 (Nat.le_of_ble_eq_true rfl) tk_R_usual rfl rfl ⟨trivial, trivial, trivial⟩ ?_
      subst hx
      obtain ⟨rfl, rfl⟩ := hP
      exact Ev.iret 43 tk_R_usual rfl rfl
    · replace hx := ia hc10 hx
      refine Ev.blk (pc' := 104) (lv' := [some (vi a0), some (vi a1)]) (st' := [vi (ii 3), vi a1]) (h' := h) 37 2 (Nat.le_of_ble_eq_true rfl) tk_R_usual rfl rfl ⟨trivial, trivial, trivial⟩ ?_
      refine Ev.icmp_ne 39 112 tk_R_usual rfl (by decide) (fun hc11 => ?_) (fun hc11 => ?_)
      · replace hx := ia hc11 hx
        refine Ev.blk (pc' := 113) (lv' := [some (vi a0), some (vi a1)]) (st' := [vi (ii 0)]) (h' := h) 42 1 (Nat.le_of_ble_eq_true rfl) tk_R_usual rfl rfl ⟨trivial, trivial⟩ ?_
        subst hx
        obtain ⟨rfl, rfl⟩ := hP
        exact Ev.iret 43 tk_R_usual rfl rfl
      · replace hx := ip hc11 hx
        refine Ev.blk (pc' := 113) (lv' := [some (vi a0), some (vi a1)]) (st' := [vi (ii 30)]) (h' := h) 40 2 (Nat.le_of_ble_eq_true rfl) tk_R_usual rfl rfl ⟨trivial, trivial, trivial⟩ ?_
        subst hx
        obtain ⟨rfl, rfl⟩ := hP
        exact Ev.iret 43 tk_R_usual rfl rfl
set_option maxRecDepth 4000 in
theorem l_R_look_L0 (Γ : AG) : ∀ (n : Nat) (h : AH) (x : Int32 × AH), R_look_L0 n  h = some x → ∀ (r : Option AV) (h' : AH), r = some (vi x.1) ∧ h' = x.2 → Ev Γ m_R_look 0 [some (vr 12 0 80)] [] h r h' := by
  intro n
  induction n with
  | zero => intro  h x hx; cases hx
  | succ n ih =>
    intro  h x hx r h' hP
    replace hx : R_look_L0_b (R_look_L0 n)  h = some x := hx
    unfold R_look_L0_b at hx
    refine Ev.blk (pc' := 8) (lv' := [some (vr 12 0 80)]) (st' := [vi (h.1 80 9), vi (h.1 80 10)]) (h' := h) 0 4 (Nat.le_of_ble_eq_true rfl) tk_R_look rfl rfl ⟨trivial, trivial, trivial, trivial, trivial⟩ ?_
    refine Ev.icmp_ge 4 43 tk_R_look rfl (by decide) (fun hc1 => ?_) (fun hc1 => ?_)
    · replace hx := ip hc1 hx
      refine Ev.blk (pc' := 51) (lv' := [some (vr 12 0 80)]) (st' := [vi (h.1 80 9), vi (h.1 80 10)]) (h' := h) 22 4 (Nat.le_of_ble_eq_true rfl) tk_R_look rfl rfl ⟨trivial, trivial, trivial, trivial, trivial⟩ ?_
      refine Ev.icmp_ge 26 75 tk_R_look rfl (by decide) (fun hc2 => ?_) (fun hc2 => ?_)
      · replace hx := ip hc2 hx
        refine Ev.blk (pc' := 76) (lv' := [some (vr 12 0 80)]) (st' := [vi (ii (-1))]) (h' := h) 38 1 (Nat.le_of_ble_eq_true rfl) tk_R_look rfl rfl ⟨trivial, trivial⟩ ?_
        obtain rfl := Option.some.inj hx
        obtain ⟨rfl, rfl⟩ := hP
        exact Ev.iret 39 tk_R_look rfl rfl
      · replace hx := ia hc2 hx
        obtain ⟨hg3, hx⟩ := gd hx
        refine Ev.blk (pc' := 76) (lv' := [some (vr 12 0 80)]) (st' := [vi ((h.1 (h.2.2 80 5) ((h.1 80 8) + (h.1 80 10)).toNatClampNeg) &&& (ii 255))]) (h' := h) 27 11 (Nat.le_of_ble_eq_true rfl) tk_R_look rfl rfl ⟨trivial, trivial, trivial, trivial, trivial, trivial, trivial, hg3, trivial, trivial, trivial, trivial⟩ ?_
        obtain rfl := Option.some.inj hx
        obtain ⟨rfl, rfl⟩ := hP
        exact Ev.iret 39 tk_R_look rfl rfl
    · replace hx := ia hc1 hx
      obtain ⟨hg4, hx⟩ := gd hx
      refine Ev.blk (pc' := 27) (lv' := [some (vr 12 0 80)]) (st' := [vi (ii 32), vi (h.1 (h.2.2 80 5) ((h.1 80 8) + (h.1 80 10)).toNatClampNeg)]) (h' := h) 5 9 (Nat.le_of_ble_eq_true rfl) tk_R_look rfl rfl ⟨trivial, trivial, trivial, trivial, trivial, trivial, trivial, hg4, trivial, trivial⟩ ?_
      refine Ev.icmp_ne 14 43 tk_R_look rfl (by decide) (fun hc5 => ?_) (fun hc5 => ?_)
      · replace hx := ia hc5 hx
        refine Ev.blk (pc' := 51) (lv' := [some (vr 12 0 80)]) (st' := [vi (h.1 80 9), vi (h.1 80 10)]) (h' := h) 22 4 (Nat.le_of_ble_eq_true rfl) tk_R_look rfl rfl ⟨trivial, trivial, trivial, trivial, trivial⟩ ?_
        refine Ev.icmp_ge 26 75 tk_R_look rfl (by decide) (fun hc6 => ?_) (fun hc6 => ?_)
        · replace hx := ip hc6 hx
          refine Ev.blk (pc' := 76) (lv' := [some (vr 12 0 80)]) (st' := [vi (ii (-1))]) (h' := h) 38 1 (Nat.le_of_ble_eq_true rfl) tk_R_look rfl rfl ⟨trivial, trivial⟩ ?_
          obtain rfl := Option.some.inj hx
          obtain ⟨rfl, rfl⟩ := hP
          exact Ev.iret 39 tk_R_look rfl rfl
        · replace hx := ia hc6 hx
          obtain ⟨hg7, hx⟩ := gd hx
          refine Ev.blk (pc' := 76) (lv' := [some (vr 12 0 80)]) (st' := [vi ((h.1 (h.2.2 80 5) ((h.1 80 8) + (h.1 80 10)).toNatClampNeg) &&& (ii 255))]) (h' := h) 27 11 (Nat.le_of_ble_eq_true rfl) tk_R_look rfl rfl ⟨trivial, trivial, trivial, trivial, trivial, trivial, trivial, hg7, trivial, trivial, trivial, trivial⟩ ?_
          obtain rfl := Option.some.inj hx
          obtain ⟨rfl, rfl⟩ := hP
          exact Ev.iret 39 tk_R_look rfl rfl
      · replace hx := ip hc5 hx
        refine Ev.blk (pc' := 0) (lv' := [some (vr 12 0 80)]) (st' := []) (h' := (wI h 80 10 ((h.1 80 10) + (ii 1)))) 15 7 (Nat.le_of_ble_eq_true rfl) tk_R_look rfl rfl ⟨trivial, trivial, trivial, trivial, trivial, trivial, trivial, trivial⟩ ?_
        exact Ev.msk [true] (ih  (wI h 80 10 ((h.1 80 10) + (ii 1))) _ hx r h' hP)
set_option maxRecDepth 4000 in
theorem s_R_look (Γ : AG) (h : AH) (x : Int32 × AH) (hx : f_R_look  h = some x) : MetA Γ m_R_look [vr 12 0 80] h (some (vi x.1)) x.2 := by
  refine Ev.met rfl rfl (Nat.le_of_ble_eq_true rfl) ?_
  show Ev Γ m_R_look 0 [some (vr 12 0 80)] [] h _ _
  obtain ⟨r, hr⟩ : ∃ r : Option AV, r = some (vi x.1) := ⟨_, rfl⟩
  obtain ⟨h', hh⟩ : ∃ h' : AH, h' = x.2 := ⟨_, rfl⟩
  have hP : r = some (vi x.1) ∧ h' = x.2 := ⟨hr, hh⟩
  suffices hS : Ev Γ m_R_look 0 [some (vr 12 0 80)] [] h r h' by rw [hr, hh] at hS; exact hS
  clear hr hh
  unfold f_R_look at hx
  refine Ev.msk [true] ?_
  show Ev Γ m_R_look 0 [some (vr 12 0 80)] [] h r h'
  exact l_R_look_L0 Γ FU  h _ hx r h' hP
set_option maxRecDepth 4000 in
theorem s_R_fails (Γ : AG) (h : AH) (x : Int32 × AH) (hx : f_R_fails  h = some x) : MetA Γ m_R_fails [vr 12 0 80] h (some (vi x.1)) x.2 := by
  refine Ev.met rfl rfl (Nat.le_of_ble_eq_true rfl) ?_
  show Ev Γ m_R_fails 0 [some (vr 12 0 80)] [] h _ _
  obtain ⟨r, hr⟩ : ∃ r : Option AV, r = some (vi x.1) := ⟨_, rfl⟩
  obtain ⟨h', hh⟩ : ∃ h' : AH, h' = x.2 := ⟨_, rfl⟩
  have hP : r = some (vi x.1) ∧ h' = x.2 := ⟨hr, hh⟩
  suffices hS : Ev Γ m_R_fails 0 [some (vr 12 0 80)] [] h r h' by rw [hr, hh] at hS; exact hS
  clear hr hh
  unfold f_R_fails at hx
  refine Ev.blk (pc' := 5) (lv' := [some (vr 12 0 80)]) (st' := [vi (ii (-1)), vi (h.1 80 11)]) (h' := h) 0 3 (Nat.le_of_ble_eq_true rfl) tk_R_fails rfl rfl ⟨trivial, trivial, trivial, trivial⟩ ?_
  obtain ⟨q1, hq1, hx⟩ := bd hx
  have K2 : Ev Γ m_R_fails 16 [none] [] q1 r h' := by
    refine Ev.blk (pc' := 17) (lv' := [none]) (st' := [vi (ii 0)]) (h' := q1) 8 1 (Nat.le_of_ble_eq_true rfl) tk_R_fails rfl rfl ⟨trivial, trivial⟩ ?_
    obtain rfl := Option.some.inj hx
    obtain ⟨rfl, rfl⟩ := hP
    exact Ev.zret 9 tk_R_fails rfl rfl rfl
  clear hx
  refine Ev.icmp_ne 3 16 tk_R_fails rfl (by decide) (fun hc3 => ?_) (fun hc3 => ?_)
  · replace hq1 := ia hc3 hq1
    obtain rfl := Option.some.inj hq1
    exact Ev.msk [false] K2
  · replace hq1 := ip hc3 hq1
    refine Ev.blk (pc' := 16) (lv' := [some (vr 12 0 80)]) (st' := []) (h' := (wI h 80 11 (h.1 80 10))) 4 4 (Nat.le_of_ble_eq_true rfl) tk_R_fails rfl rfl ⟨trivial, trivial, trivial, trivial, trivial⟩ ?_
    obtain rfl := Option.some.inj hq1
    exact Ev.msk [false] K2
set_option maxRecDepth 4000 in
theorem s_Lat_charAt (Γ : AG) (n0 : Nat) (o0 : Nat) (a1 : Int32) (h : AH) (x : Int32) (hx : f_Lat_charAt n0 o0 a1 h = some x) : MetA Γ m_Lat_charAt [vr 32 n0 o0, vi a1] h (some (vi x)) h := by
  refine Ev.met rfl rfl (Nat.le_of_ble_eq_true rfl) ?_
  show Ev Γ m_Lat_charAt 0 [some (vr 32 n0 o0), some (vi a1)] [] h _ _
  obtain ⟨r, hr⟩ : ∃ r : Option AV, r = some (vi x) := ⟨_, rfl⟩
  obtain ⟨h', hh⟩ : ∃ h' : AH, h' = h := ⟨_, rfl⟩
  have hP : r = some (vi x) ∧ h' = h := ⟨hr, hh⟩
  suffices hS : Ev Γ m_Lat_charAt 0 [some (vr 32 n0 o0), some (vi a1)] [] h r h' by rw [hr, hh] at hS; exact hS
  clear hr hh
  unfold f_Lat_charAt at hx
  refine Ev.blk (pc' := 3) (lv' := [some (vr 32 n0 o0), some (vi a1)]) (st' := [vi (ii (n0 : Int)), vi a1]) (h' := h) 0 3 (Nat.le_of_ble_eq_true rfl) tk_Lat_charAt rfl rfl ⟨trivial, trivial, trivial, trivial⟩ ?_
  obtain ⟨q1, hq1, hx⟩ := bd hx
  refine Ev.callS (ν := m_Str_checkIndex) (av := [vi a1, vi (ii (n0 : Int))]) (rest := []) (r1 := none) (h1 := h) 3 2 tk_Lat_charAt rfl bb_Str_checkIndex vv_Str_checkIndex lk_14_9 (by decide) rfl rfl (Nat.le_of_ble_eq_true rfl) (s_Str_checkIndex Γ a1 (ii (n0 : Int)) h _ hq1) ?_
  show Ev Γ m_Lat_charAt 6 [some (vr 32 n0 o0), some (vi a1)] [] h r h'
  obtain ⟨hg2, hx⟩ := gd hx
  refine Ev.blk (pc' := 14) (lv' := [some (vr 32 n0 o0), some (vi a1)]) (st' := [vi (chI (((am_str.getD o0 []).getD (a1).toNatClampNeg 0) &&& (ii 255)))]) (h' := h) 4 6 (Nat.le_of_ble_eq_true rfl) tk_Lat_charAt rfl rfl ⟨trivial, trivial, hg2, trivial, trivial, trivial, trivial⟩ ?_
  obtain ⟨hg3, hx⟩ := gd hx
  obtain rfl := Option.some.inj hx
  obtain ⟨rfl, rfl⟩ := hP
  exact Ev.zret 10 tk_Lat_charAt rfl rfl hg3
set_option maxRecDepth 4000 in
theorem s_Str_charAt (Γ : AG) (o0 : Nat) (a1 : Int32) (h : AH) (x : Int32) (hx : f_Str_charAt o0 a1 h = some x) : MetA Γ m_Str_charAt [vr 31 0 o0, vi a1] h (some (vi x)) h := by
  refine Ev.met rfl rfl (Nat.le_of_ble_eq_true rfl) ?_
  show Ev Γ m_Str_charAt 0 [some (vr 31 0 o0), some (vi a1)] [] h _ _
  obtain ⟨r, hr⟩ : ∃ r : Option AV, r = some (vi x) := ⟨_, rfl⟩
  obtain ⟨h', hh⟩ : ∃ h' : AH, h' = h := ⟨_, rfl⟩
  have hP : r = some (vi x) ∧ h' = h := ⟨hr, hh⟩
  suffices hS : Ev Γ m_Str_charAt 0 [some (vr 31 0 o0), some (vi a1)] [] h r h' by rw [hr, hh] at hS; exact hS
  clear hr hh
  unfold f_Str_charAt at hx
  refine Ev.blk (pc' := 1) (lv' := [some (vr 31 0 o0), some (vi a1)]) (st' := [vr 31 0 o0]) (h' := h) 0 1 (Nat.le_of_ble_eq_true rfl) tk_Str_charAt rfl rfl ⟨trivial, trivial⟩ ?_
  refine Ev.callV (ν := m_Str_isLatin1) (av := []) (rest := []) (r1 := some (vi (p_Str_isLatin1 o0))) (h1 := h) (ci := 31) (nn := 0) (o := o0) 1 0 tk_Str_charAt rfl bb_Str_isLatin1 vv_Str_isLatin1 lk_13_492 (by decide) rfl rfl (Or.inr ⟨rfl, rfl⟩) (Nat.le_of_ble_eq_true rfl) (s_Str_isLatin1 Γ o0 h) ?_
  show Ev Γ m_Str_charAt 4 [some (vr 31 0 o0), some (vi a1)] [vi (p_Str_isLatin1 o0)] h r h'
  refine Ev.if_eq 2 16 tk_Str_charAt rfl (by decide) (fun hc1 => ?_) (fun hc1 => ?_)
  · replace hx := ip hc1 hx
    refine Ev.blk (pc' := 21) (lv' := [some (vr 31 0 o0), some (vi a1)]) (st' := [vi a1, vr 32 (stL o0) o0]) (h' := h) 8 3 (Nat.le_of_ble_eq_true rfl) tk_Str_charAt rfl rfl ⟨trivial, trivial, trivial, trivial⟩ ?_
    cases hx
  · replace hx := ia hc1 hx
    refine Ev.blk (pc' := 12) (lv' := [some (vr 31 0 o0), some (vi a1)]) (st' := [vi a1, vr 32 (stL o0) o0]) (h' := h) 3 3 (Nat.le_of_ble_eq_true rfl) tk_Str_charAt rfl rfl ⟨trivial, trivial, trivial, trivial⟩ ?_
    obtain ⟨q1, hq2, hx⟩ := bd hx
    refine Ev.callS (ν := m_Lat_charAt) (av := [vr 32 (stL o0) o0, vi a1]) (rest := []) (r1 := some (vi q1)) (h1 := h) 6 2 tk_Str_charAt rfl bb_Lat_charAt vv_Lat_charAt lk_13_495 (by decide) rfl rfl (Nat.le_of_ble_eq_true rfl) (s_Lat_charAt Γ (stL o0) o0 a1 h _ hq2) ?_
    show Ev Γ m_Str_charAt 15 [some (vr 31 0 o0), some (vi a1)] [vi q1] h r h'
    obtain ⟨hg3, hx⟩ := gd hx
    obtain rfl := Option.some.inj hx
    obtain ⟨rfl, rfl⟩ := hP
    exact Ev.zret 7 tk_Str_charAt rfl rfl hg3
set_option maxRecDepth 4000 in
theorem l_R_spotOf_L2 (Γ : AG) : ∀ (n : Nat) (o0 : Nat) (v1 : Int32) (v2 : Int32) (h : AH) (x : Int32), R_spotOf_L2 n o0 v1 v2 h = some x → ∀ (r : Option AV) (h' : AH), r = some (vi x) ∧ h' = h → Ev Γ m_R_spotOf 2 [some (vr 31 0 o0), some (vi v1), some (vi v2)] [] h r h' := by
  intro n
  induction n with
  | zero => intro o0 v1 v2 h x hx; cases hx
  | succ n ih =>
    intro o0 v1 v2 h x hx r h' hP
    replace hx : R_spotOf_L2_b (R_spotOf_L2 n) o0 v1 v2 h = some x := hx
    unfold R_spotOf_L2_b at hx
    refine Ev.blk (pc' := 4) (lv' := [some (vr 31 0 o0), some (vi v1), some (vi v2)]) (st' := [vr 31 0 o0, vi v2]) (h' := h) 2 2 (Nat.le_of_ble_eq_true rfl) tk_R_spotOf rfl rfl ⟨trivial, trivial, trivial⟩ ?_
    refine Ev.callV (ν := m_Str_length) (av := []) (rest := [vi v2]) (r1 := some (vi (p_Str_length o0))) (h1 := h) (ci := 31) (nn := 0) (o := o0) 4 0 tk_R_spotOf rfl bb_Str_length vv_Str_length lk_12_105 (by decide) rfl rfl (Or.inr ⟨rfl, rfl⟩) (Nat.le_of_ble_eq_true rfl) (s_Str_length Γ o0 h) ?_
    show Ev Γ m_R_spotOf 7 [some (vr 31 0 o0), some (vi v1), some (vi v2)] [vi (p_Str_length o0), vi v2] h r h'
    refine Ev.icmp_ge 5 27 tk_R_spotOf rfl (by decide) (fun hc1 => ?_) (fun hc1 => ?_)
    · replace hx := ip hc1 hx
      refine Ev.blk (pc' := 28) (lv' := [some (vr 31 0 o0), some (vi v1), some (vi v2)]) (st' := [vi (ii (-1))]) (h' := h) 15 1 (Nat.le_of_ble_eq_true rfl) tk_R_spotOf rfl rfl ⟨trivial, trivial⟩ ?_
      obtain rfl := Option.some.inj hx
      obtain ⟨rfl, rfl⟩ := hP
      exact Ev.iret 16 tk_R_spotOf rfl rfl
    · replace hx := ia hc1 hx
      refine Ev.blk (pc' := 12) (lv' := [some (vr 31 0 o0), some (vi v1), some (vi v2)]) (st' := [vi v2, vr 31 0 o0]) (h' := h) 6 2 (Nat.le_of_ble_eq_true rfl) tk_R_spotOf rfl rfl ⟨trivial, trivial, trivial⟩ ?_
      obtain ⟨q1, hq2, hx⟩ := bd hx
      refine Ev.callV (ν := m_Str_charAt) (av := [vi v2]) (rest := []) (r1 := some (vi q1)) (h1 := h) (ci := 31) (nn := 0) (o := o0) 8 1 tk_R_spotOf rfl bb_Str_charAt vv_Str_charAt lk_12_111 (by decide) rfl rfl (Or.inr ⟨rfl, rfl⟩) (Nat.le_of_ble_eq_true rfl) (s_Str_charAt Γ o0 v2 h _ hq2) ?_
      show Ev Γ m_R_spotOf 15 [some (vr 31 0 o0), some (vi v1), some (vi v2)] [vi q1] h r h'
      refine Ev.blk (pc' := 16) (lv' := [some (vr 31 0 o0), some (vi v1), some (vi v2)]) (st' := [vi v1, vi q1]) (h' := h) 9 1 (Nat.le_of_ble_eq_true rfl) tk_R_spotOf rfl rfl ⟨trivial, trivial⟩ ?_
      refine Ev.icmp_ne 10 21 tk_R_spotOf rfl (by decide) (fun hc3 => ?_) (fun hc3 => ?_)
      · replace hx := ia hc3 hx
        refine Ev.blk (pc' := 2) (lv' := [some (vr 31 0 o0), some (vi v1), some (vi (v2 + ii 1))]) (st' := []) (h' := h) 13 2 (Nat.le_of_ble_eq_true rfl) tk_R_spotOf rfl rfl ⟨trivial, trivial, trivial⟩ ?_
        exact Ev.msk [true, true, true] (ih o0 v1 (v2 + ii 1) h _ hx r h' hP)
      · replace hx := ip hc3 hx
        refine Ev.blk (pc' := 20) (lv' := [some (vr 31 0 o0), some (vi v1), some (vi v2)]) (st' := [vi v2]) (h' := h) 11 1 (Nat.le_of_ble_eq_true rfl) tk_R_spotOf rfl rfl ⟨trivial, trivial⟩ ?_
        obtain rfl := Option.some.inj hx
        obtain ⟨rfl, rfl⟩ := hP
        exact Ev.iret 12 tk_R_spotOf rfl rfl
set_option maxRecDepth 4000 in
theorem s_R_spotOf (Γ : AG) (o0 : Nat) (a1 : Int32) (h : AH) (x : Int32) (hx : f_R_spotOf o0 a1 h = some x) : MetA Γ m_R_spotOf [vr 31 0 o0, vi a1] h (some (vi x)) h := by
  refine Ev.met rfl rfl (Nat.le_of_ble_eq_true rfl) ?_
  show Ev Γ m_R_spotOf 0 [some (vr 31 0 o0), some (vi a1), none] [] h _ _
  obtain ⟨r, hr⟩ : ∃ r : Option AV, r = some (vi x) := ⟨_, rfl⟩
  obtain ⟨h', hh⟩ : ∃ h' : AH, h' = h := ⟨_, rfl⟩
  have hP : r = some (vi x) ∧ h' = h := ⟨hr, hh⟩
  suffices hS : Ev Γ m_R_spotOf 0 [some (vr 31 0 o0), some (vi a1), none] [] h r h' by rw [hr, hh] at hS; exact hS
  clear hr hh
  unfold f_R_spotOf at hx
  refine Ev.blk (pc' := 2) (lv' := [some (vr 31 0 o0), some (vi a1), some (vi (ii 0))]) (st' := []) (h' := h) 0 2 (Nat.le_of_ble_eq_true rfl) tk_R_spotOf rfl rfl ⟨trivial, trivial, trivial⟩ ?_
  refine Ev.msk [true, true, true] ?_
  show Ev Γ m_R_spotOf 2 [some (vr 31 0 o0), some (vi a1), some (vi (ii 0))] [] h r h'
  exact l_R_spotOf_L2 Γ FU o0 a1 (ii 0) h _ hx r h' hP
theorem s_R_has (Γ : AG) (a0 : Int32) (a1 : Int32) (h : AH) : MetA Γ m_R_has [vi a0, vi a1] h (some (vi (p_R_has a0 a1))) h := by
  refine Ev.met rfl rfl (Nat.le_of_ble_eq_true rfl) ?_
  generalize hx : p_R_has a0 a1 = x
  show Ev Γ m_R_has 0 [some (vi a0), some (vi a1)] [] h _ _
  obtain ⟨r, hr⟩ : ∃ r : Option AV, r = some (vi x) := ⟨_, rfl⟩
  obtain ⟨h', hh⟩ : ∃ h' : AH, h' = h := ⟨_, rfl⟩
  have hP : r = some (vi x) ∧ h' = h := ⟨hr, hh⟩
  suffices hS : Ev Γ m_R_has 0 [some (vi a0), some (vi a1)] [] h r h' by rw [hr, hh] at hS; exact hS
  clear hr hh
  unfold p_R_has at hx
  refine Ev.blk (pc' := 6) (lv' := [some (vi a0), some (vi a1)]) (st' := [vi (ii 1), vi ((shrI a0 a1) &&& (ii 1))]) (h' := h) 0 6 (Nat.le_of_ble_eq_true rfl) tk_R_has rfl rfl ⟨trivial, trivial, trivial, trivial, trivial, trivial, trivial⟩ ?_
  refine Ev.icmp_ne 6 13 tk_R_has rfl (by decide) (fun hc1 => ?_) (fun hc1 => ?_)
  · replace hx := ia hc1 hx
    refine Ev.blk (pc' := 14) (lv' := [some (vi a0), some (vi a1)]) (st' := [vi (ii 0)]) (h' := h) 9 1 (Nat.le_of_ble_eq_true rfl) tk_R_has rfl rfl ⟨trivial, trivial⟩ ?_
    subst hx
    obtain ⟨rfl, rfl⟩ := hP
    exact Ev.zret 10 tk_R_has rfl rfl rfl
  · replace hx := ip hc1 hx
    refine Ev.blk (pc' := 14) (lv' := [some (vi a0), some (vi a1)]) (st' := [vi (ii 1)]) (h' := h) 7 2 (Nat.le_of_ble_eq_true rfl) tk_R_has rfl rfl ⟨trivial, trivial, trivial⟩ ?_
    subst hx
    obtain ⟨rfl, rfl⟩ := hP
    exact Ev.zret 10 tk_R_has rfl rfl rfl
theorem s_R_leastOf (Γ : AG) (a0 : Int32) (a1 : Int32) (h : AH) : MetA Γ m_R_leastOf [vi a0, vi a1] h (some (vi (p_R_leastOf a0 a1))) h := by
  refine Ev.met rfl rfl (Nat.le_of_ble_eq_true rfl) ?_
  generalize hx : p_R_leastOf a0 a1 = x
  show Ev Γ m_R_leastOf 0 [some (vi a0), some (vi a1)] [] h _ _
  obtain ⟨r, hr⟩ : ∃ r : Option AV, r = some (vi x) := ⟨_, rfl⟩
  obtain ⟨h', hh⟩ : ∃ h' : AH, h' = h := ⟨_, rfl⟩
  have hP : r = some (vi x) ∧ h' = h := ⟨hr, hh⟩
  suffices hS : Ev Γ m_R_leastOf 0 [some (vi a0), some (vi a1)] [] h r h' by rw [hr, hh] at hS; exact hS
  clear hr hh
  unfold p_R_leastOf at hx
  refine Ev.blk (pc' := 3) (lv' := [some (vi a0), some (vi a1)]) (st' := [vi (ii 115), vi a0]) (h' := h) 0 2 (Nat.le_of_ble_eq_true rfl) tk_R_leastOf rfl rfl ⟨trivial, trivial, trivial⟩ ?_
  refine Ev.icmp_ne 2 17 tk_R_leastOf rfl (by decide) (fun hc1 => ?_) (fun hc1 => ?_)
  · replace hx := ia hc1 hx
    refine Ev.blk (pc' := 20) (lv' := [some (vi a0), some (vi a1)]) (st' := [vi (ii 102), vi a0]) (h' := h) 10 2 (Nat.le_of_ble_eq_true rfl) tk_R_leastOf rfl rfl ⟨trivial, trivial, trivial⟩ ?_
    refine Ev.icmp_eq 12 32 tk_R_leastOf rfl (by decide) (fun hc2 => ?_) (fun hc2 => ?_)
    · replace hx := ip hc2 hx
      refine Ev.blk (pc' := 33) (lv' := [some (vi a0), some (vi a1)]) (st' := [vi (ii 0)]) (h' := h) 18 1 (Nat.le_of_ble_eq_true rfl) tk_R_leastOf rfl rfl ⟨trivial, trivial⟩ ?_
      subst hx
      obtain ⟨rfl, rfl⟩ := hP
      exact Ev.iret 19 tk_R_leastOf rfl rfl
    · replace hx := ia hc2 hx
      refine Ev.blk (pc' := 25) (lv' := [some (vi a0), some (vi a1)]) (st' := [vi (ii 1), vi a1]) (h' := h) 13 2 (Nat.le_of_ble_eq_true rfl) tk_R_leastOf rfl rfl ⟨trivial, trivial, trivial⟩ ?_
      refine Ev.icmp_ne 15 32 tk_R_leastOf rfl (by decide) (fun hc3 => ?_) (fun hc3 => ?_)
      · replace hx := ia hc3 hx
        refine Ev.blk (pc' := 33) (lv' := [some (vi a0), some (vi a1)]) (st' := [vi (ii 0)]) (h' := h) 18 1 (Nat.le_of_ble_eq_true rfl) tk_R_leastOf rfl rfl ⟨trivial, trivial⟩ ?_
        subst hx
        obtain ⟨rfl, rfl⟩ := hP
        exact Ev.iret 19 tk_R_leastOf rfl rfl
      · replace hx := ip hc3 hx
        refine Ev.blk (pc' := 33) (lv' := [some (vi a0), some (vi a1)]) (st' := [vi (ii 1)]) (h' := h) 16 2 (Nat.le_of_ble_eq_true rfl) tk_R_leastOf rfl rfl ⟨trivial, trivial, trivial⟩ ?_
        subst hx
        obtain ⟨rfl, rfl⟩ := hP
        exact Ev.iret 19 tk_R_leastOf rfl rfl
  · replace hx := ip hc1 hx
    refine Ev.blk (pc' := 8) (lv' := [some (vi a0), some (vi a1)]) (st' := [vi (ii 2), vi a1]) (h' := h) 3 2 (Nat.le_of_ble_eq_true rfl) tk_R_leastOf rfl rfl ⟨trivial, trivial, trivial⟩ ?_
    refine Ev.icmp_ne 5 15 tk_R_leastOf rfl (by decide) (fun hc4 => ?_) (fun hc4 => ?_)
    · replace hx := ia hc4 hx
      refine Ev.blk (pc' := 16) (lv' := [some (vi a0), some (vi a1)]) (st' := [vi (ii 1)]) (h' := h) 8 1 (Nat.le_of_ble_eq_true rfl) tk_R_leastOf rfl rfl ⟨trivial, trivial⟩ ?_
      subst hx
      obtain ⟨rfl, rfl⟩ := hP
      exact Ev.iret 9 tk_R_leastOf rfl rfl
    · replace hx := ip hc4 hx
      refine Ev.blk (pc' := 16) (lv' := [some (vi a0), some (vi a1)]) (st' := [vi (ii 0)]) (h' := h) 6 2 (Nat.le_of_ble_eq_true rfl) tk_R_leastOf rfl rfl ⟨trivial, trivial, trivial⟩ ?_
      subst hx
      obtain ⟨rfl, rfl⟩ := hP
      exact Ev.iret 9 tk_R_leastOf rfl rfl
theorem s_R_mostOf (Γ : AG) (a0 : Int32) (a1 : Int32) (h : AH) : MetA Γ m_R_mostOf [vi a0, vi a1] h (some (vi (p_R_mostOf a0 a1))) h := by
  refine Ev.met rfl rfl (Nat.le_of_ble_eq_true rfl) ?_
  generalize hx : p_R_mostOf a0 a1 = x
  show Ev Γ m_R_mostOf 0 [some (vi a0), some (vi a1)] [] h _ _
  obtain ⟨r, hr⟩ : ∃ r : Option AV, r = some (vi x) := ⟨_, rfl⟩
  obtain ⟨h', hh⟩ : ∃ h' : AH, h' = h := ⟨_, rfl⟩
  have hP : r = some (vi x) ∧ h' = h := ⟨hr, hh⟩
  suffices hS : Ev Γ m_R_mostOf 0 [some (vi a0), some (vi a1)] [] h r h' by rw [hr, hh] at hS; exact hS
  clear hr hh
  unfold p_R_mostOf at hx
  refine Ev.blk (pc' := 3) (lv' := [some (vi a0), some (vi a1)]) (st' := [vi (ii 115), vi a0]) (h' := h) 0 2 (Nat.le_of_ble_eq_true rfl) tk_R_mostOf rfl rfl ⟨trivial, trivial, trivial⟩ ?_
  refine Ev.icmp_ne 2 27 tk_R_mostOf rfl (by decide) (fun hc1 => ?_) (fun hc1 => ?_)
  · replace hx := ia hc1 hx
    refine Ev.blk (pc' := 28) (lv' := [some (vi a0), some (vi a1)]) (st' := [vi a1]) (h' := h) 14 1 (Nat.le_of_ble_eq_true rfl) tk_R_mostOf rfl rfl ⟨trivial, trivial⟩ ?_
    refine Ev.if_ne 15 34 tk_R_mostOf rfl (by decide) (fun hc2 => ?_) (fun hc2 => ?_)
    · replace hx := ia hc2 hx
      refine Ev.blk (pc' := 37) (lv' := [some (vi a0), some (vi a1)]) (st' := [vi (ii 118), vi a0]) (h' := h) 18 2 (Nat.le_of_ble_eq_true rfl) tk_R_mostOf rfl rfl ⟨trivial, trivial, trivial⟩ ?_
      refine Ev.icmp_ne 20 53 tk_R_mostOf rfl (by decide) (fun hc3 => ?_) (fun hc3 => ?_)
      · replace hx := ia hc3 hx
        refine Ev.blk (pc' := 56) (lv' := [some (vi a0), some (vi a1)]) (st' := [vi (ii 102), vi a0]) (h' := h) 28 2 (Nat.le_of_ble_eq_true rfl) tk_R_mostOf rfl rfl ⟨trivial, trivial, trivial⟩ ?_
        refine Ev.icmp_eq 30 62 tk_R_mostOf rfl (by decide) (fun hc4 => ?_) (fun hc4 => ?_)
        · replace hx := ip hc4 hx
          refine Ev.blk (pc' := 64) (lv' := [some (vi a0), some (vi a1)]) (st' := [vi (ii 1), vi a1]) (h' := h) 33 2 (Nat.le_of_ble_eq_true rfl) tk_R_mostOf rfl rfl ⟨trivial, trivial, trivial⟩ ?_
          refine Ev.icmp_ne 35 72 tk_R_mostOf rfl (by decide) (fun hc5 => ?_) (fun hc5 => ?_)
          · replace hx := ia hc5 hx
            refine Ev.blk (pc' := 74) (lv' := [some (vi a0), some (vi a1)]) (st' := [vi (ii 3), vi a1]) (h' := h) 38 2 (Nat.le_of_ble_eq_true rfl) tk_R_mostOf rfl rfl ⟨trivial, trivial, trivial⟩ ?_
            refine Ev.icmp_ne 40 82 tk_R_mostOf rfl (by decide) (fun hc6 => ?_) (fun hc6 => ?_)
            · replace hx := ia hc6 hx
              refine Ev.blk (pc' := 84) (lv' := [some (vi a0), some (vi a1)]) (st' := [vi (ii 5), vi a1]) (h' := h) 43 2 (Nat.le_of_ble_eq_true rfl) tk_R_mostOf rfl rfl ⟨trivial, trivial, trivial⟩ ?_
              refine Ev.icmp_ne 45 91 tk_R_mostOf rfl (by decide) (fun hc7 => ?_) (fun hc7 => ?_)
              · replace hx := ia hc7 hx
                refine Ev.blk (pc' := 93) (lv' := [some (vi a0), some (vi a1)]) (st' := [vi (ii 9)]) (h' := h) 48 1 (Nat.le_of_ble_eq_true rfl) tk_R_mostOf rfl rfl ⟨trivial, trivial⟩ ?_
                subst hx
                obtain ⟨rfl, rfl⟩ := hP
                exact Ev.iret 49 tk_R_mostOf rfl rfl
              · replace hx := ip hc7 hx
                refine Ev.blk (pc' := 93) (lv' := [some (vi a0), some (vi a1)]) (st' := [vi (ii 1)]) (h' := h) 46 2 (Nat.le_of_ble_eq_true rfl) tk_R_mostOf rfl rfl ⟨trivial, trivial, trivial⟩ ?_
                subst hx
                obtain ⟨rfl, rfl⟩ := hP
                exact Ev.iret 49 tk_R_mostOf rfl rfl
            · replace hx := ip hc6 hx
              refine Ev.blk (pc' := 93) (lv' := [some (vi a0), some (vi a1)]) (st' := [vi (ii 30)]) (h' := h) 41 2 (Nat.le_of_ble_eq_true rfl) tk_R_mostOf rfl rfl ⟨trivial, trivial, trivial⟩ ?_
              subst hx
              obtain ⟨rfl, rfl⟩ := hP
              exact Ev.iret 49 tk_R_mostOf rfl rfl
          · replace hx := ip hc5 hx
            refine Ev.blk (pc' := 93) (lv' := [some (vi a0), some (vi a1)]) (st' := [vi (ii 60)]) (h' := h) 36 2 (Nat.le_of_ble_eq_true rfl) tk_R_mostOf rfl rfl ⟨trivial, trivial, trivial⟩ ?_
            subst hx
            obtain ⟨rfl, rfl⟩ := hP
            exact Ev.iret 49 tk_R_mostOf rfl rfl
        · replace hx := ia hc4 hx
          refine Ev.blk (pc' := 61) (lv' := [some (vi a0), some (vi a1)]) (st' := [vi (ii 9)]) (h' := h) 31 1 (Nat.le_of_ble_eq_true rfl) tk_R_mostOf rfl rfl ⟨trivial, trivial⟩ ?_
          subst hx
          obtain ⟨rfl, rfl⟩ := hP
          exact Ev.iret 32 tk_R_mostOf rfl rfl
      · replace hx := ip hc3 hx
        refine Ev.blk (pc' := 42) (lv' := [some (vi a0), some (vi a1)]) (st' := [vi (ii 1), vi a1]) (h' := h) 21 2 (Nat.le_of_ble_eq_true rfl) tk_R_mostOf rfl rfl ⟨trivial, trivial, trivial⟩ ?_
        refine Ev.icmp_ne 23 50 tk_R_mostOf rfl (by decide) (fun hc8 => ?_) (fun hc8 => ?_)
        · replace hx := ia hc8 hx
          refine Ev.blk (pc' := 52) (lv' := [some (vi a0), some (vi a1)]) (st' := [vi (ii 9)]) (h' := h) 26 1 (Nat.le_of_ble_eq_true rfl) tk_R_mostOf rfl rfl ⟨trivial, trivial⟩ ?_
          subst hx
          obtain ⟨rfl, rfl⟩ := hP
          exact Ev.iret 27 tk_R_mostOf rfl rfl
        · replace hx := ip hc8 hx
          refine Ev.blk (pc' := 52) (lv' := [some (vi a0), some (vi a1)]) (st' := [vi (ii 60)]) (h' := h) 24 2 (Nat.le_of_ble_eq_true rfl) tk_R_mostOf rfl rfl ⟨trivial, trivial, trivial⟩ ?_
          subst hx
          obtain ⟨rfl, rfl⟩ := hP
          exact Ev.iret 27 tk_R_mostOf rfl rfl
    · replace hx := ip hc2 hx
      refine Ev.blk (pc' := 33) (lv' := [some (vi a0), some (vi a1)]) (st' := [vi (ii 29)]) (h' := h) 16 1 (Nat.le_of_ble_eq_true rfl) tk_R_mostOf rfl rfl ⟨trivial, trivial⟩ ?_
      subst hx
      obtain ⟨rfl, rfl⟩ := hP
      exact Ev.iret 17 tk_R_mostOf rfl rfl
  · replace hx := ip hc1 hx
    refine Ev.blk (pc' := 7) (lv' := [some (vi a0), some (vi a1)]) (st' := [vi a1]) (h' := h) 3 1 (Nat.le_of_ble_eq_true rfl) tk_R_mostOf rfl rfl ⟨trivial, trivial⟩ ?_
    refine Ev.if_ne 4 15 tk_R_mostOf rfl (by decide) (fun hc9 => ?_) (fun hc9 => ?_)
    · replace hx := ia hc9 hx
      refine Ev.blk (pc' := 17) (lv' := [some (vi a0), some (vi a1)]) (st' := [vi (ii 1), vi a1]) (h' := h) 7 2 (Nat.le_of_ble_eq_true rfl) tk_R_mostOf rfl rfl ⟨trivial, trivial, trivial⟩ ?_
      refine Ev.icmp_ne 9 24 tk_R_mostOf rfl (by decide) (fun hc10 => ?_) (fun hc10 => ?_)
      · replace hx := ia hc10 hx
        refine Ev.blk (pc' := 26) (lv' := [some (vi a0), some (vi a1)]) (st' := [vi (ii 9)]) (h' := h) 12 1 (Nat.le_of_ble_eq_true rfl) tk_R_mostOf rfl rfl ⟨trivial, trivial⟩ ?_
        subst hx
        obtain ⟨rfl, rfl⟩ := hP
        exact Ev.iret 13 tk_R_mostOf rfl rfl
      · replace hx := ip hc10 hx
        refine Ev.blk (pc' := 26) (lv' := [some (vi a0), some (vi a1)]) (st' := [vi (ii 5)]) (h' := h) 10 2 (Nat.le_of_ble_eq_true rfl) tk_R_mostOf rfl rfl ⟨trivial, trivial, trivial⟩ ?_
        subst hx
        obtain ⟨rfl, rfl⟩ := hP
        exact Ev.iret 13 tk_R_mostOf rfl rfl
    · replace hx := ip hc9 hx
      refine Ev.blk (pc' := 26) (lv' := [some (vi a0), some (vi a1)]) (st' := [vi (ii 6)]) (h' := h) 5 2 (Nat.le_of_ble_eq_true rfl) tk_R_mostOf rfl rfl ⟨trivial, trivial, trivial⟩ ?_
      subst hx
      obtain ⟨rfl, rfl⟩ := hP
      exact Ev.iret 13 tk_R_mostOf rfl rfl
set_option maxRecDepth 4000 in
theorem s_R_isDigit (Γ : AG) (h : AH) (x : Int32) (hx : f_R_isDigit  h = some x) : MetA Γ m_R_isDigit [vr 12 0 80] h (some (vi x)) h := by
  refine Ev.met rfl rfl (Nat.le_of_ble_eq_true rfl) ?_
  show Ev Γ m_R_isDigit 0 [some (vr 12 0 80)] [] h _ _
  obtain ⟨r, hr⟩ : ∃ r : Option AV, r = some (vi x) := ⟨_, rfl⟩
  obtain ⟨h', hh⟩ : ∃ h' : AH, h' = h := ⟨_, rfl⟩
  have hP : r = some (vi x) ∧ h' = h := ⟨hr, hh⟩
  suffices hS : Ev Γ m_R_isDigit 0 [some (vr 12 0 80)] [] h r h' by rw [hr, hh] at hS; exact hS
  clear hr hh
  unfold f_R_isDigit at hx
  refine Ev.blk (pc' := 8) (lv' := [some (vr 12 0 80)]) (st' := [vi (h.1 80 9), vi (h.1 80 10)]) (h' := h) 0 4 (Nat.le_of_ble_eq_true rfl) tk_R_isDigit rfl rfl ⟨trivial, trivial, trivial, trivial, trivial⟩ ?_
  refine Ev.icmp_ge 4 53 tk_R_isDigit rfl (by decide) (fun hc1 => ?_) (fun hc1 => ?_)
  · replace hx := ip hc1 hx
    refine Ev.blk (pc' := 54) (lv' := [some (vr 12 0 80)]) (st' := [vi (ii 0)]) (h' := h) 27 1 (Nat.le_of_ble_eq_true rfl) tk_R_isDigit rfl rfl ⟨trivial, trivial⟩ ?_
    obtain rfl := Option.some.inj hx
    obtain ⟨rfl, rfl⟩ := hP
    exact Ev.zret 28 tk_R_isDigit rfl rfl rfl
  · replace hx := ia hc1 hx
    obtain ⟨hg2, hx⟩ := gd hx
    refine Ev.blk (pc' := 27) (lv' := [some (vr 12 0 80)]) (st' := [vi (ii 48), vi (h.1 (h.2.2 80 5) ((h.1 80 8) + (h.1 80 10)).toNatClampNeg)]) (h' := h) 5 9 (Nat.le_of_ble_eq_true rfl) tk_R_isDigit rfl rfl ⟨trivial, trivial, trivial, trivial, trivial, trivial, trivial, hg2, trivial, trivial⟩ ?_
    refine Ev.icmp_lt 14 53 tk_R_isDigit rfl (by decide) (fun hc3 => ?_) (fun hc3 => ?_)
    · replace hx := ip hc3 hx
      refine Ev.blk (pc' := 54) (lv' := [some (vr 12 0 80)]) (st' := [vi (ii 0)]) (h' := h) 27 1 (Nat.le_of_ble_eq_true rfl) tk_R_isDigit rfl rfl ⟨trivial, trivial⟩ ?_
      obtain rfl := Option.some.inj hx
      obtain ⟨rfl, rfl⟩ := hP
      exact Ev.zret 28 tk_R_isDigit rfl rfl rfl
    · replace hx := ia hc3 hx
      obtain ⟨hg4, hx⟩ := gd hx
      refine Ev.blk (pc' := 46) (lv' := [some (vr 12 0 80)]) (st' := [vi (ii 57), vi (h.1 (h.2.2 80 5) ((h.1 80 8) + (h.1 80 10)).toNatClampNeg)]) (h' := h) 15 9 (Nat.le_of_ble_eq_true rfl) tk_R_isDigit rfl rfl ⟨trivial, trivial, trivial, trivial, trivial, trivial, trivial, hg4, trivial, trivial⟩ ?_
      refine Ev.icmp_gt 24 53 tk_R_isDigit rfl (by decide) (fun hc5 => ?_) (fun hc5 => ?_)
      · replace hx := ip hc5 hx
        refine Ev.blk (pc' := 54) (lv' := [some (vr 12 0 80)]) (st' := [vi (ii 0)]) (h' := h) 27 1 (Nat.le_of_ble_eq_true rfl) tk_R_isDigit rfl rfl ⟨trivial, trivial⟩ ?_
        obtain rfl := Option.some.inj hx
        obtain ⟨rfl, rfl⟩ := hP
        exact Ev.zret 28 tk_R_isDigit rfl rfl rfl
      · replace hx := ia hc5 hx
        refine Ev.blk (pc' := 54) (lv' := [some (vr 12 0 80)]) (st' := [vi (ii 1)]) (h' := h) 25 2 (Nat.le_of_ble_eq_true rfl) tk_R_isDigit rfl rfl ⟨trivial, trivial, trivial⟩ ?_
        obtain rfl := Option.some.inj hx
        obtain ⟨rfl, rfl⟩ := hP
        exact Ev.zret 28 tk_R_isDigit rfl rfl rfl
set_option maxRecDepth 4000 in
theorem s_R_here (Γ : AG) (h : AH) (x : Int32) (hx : f_R_here  h = some x) : MetA Γ m_R_here [vr 12 0 80] h (some (vi x)) h := by
  refine Ev.met rfl rfl (Nat.le_of_ble_eq_true rfl) ?_
  show Ev Γ m_R_here 0 [some (vr 12 0 80)] [] h _ _
  obtain ⟨r, hr⟩ : ∃ r : Option AV, r = some (vi x) := ⟨_, rfl⟩
  obtain ⟨h', hh⟩ : ∃ h' : AH, h' = h := ⟨_, rfl⟩
  have hP : r = some (vi x) ∧ h' = h := ⟨hr, hh⟩
  suffices hS : Ev Γ m_R_here 0 [some (vr 12 0 80)] [] h r h' by rw [hr, hh] at hS; exact hS
  clear hr hh
  unfold f_R_here at hx
  refine Ev.blk (pc' := 8) (lv' := [some (vr 12 0 80)]) (st' := [vi (h.1 80 9), vi (h.1 80 10)]) (h' := h) 0 4 (Nat.le_of_ble_eq_true rfl) tk_R_here rfl rfl ⟨trivial, trivial, trivial, trivial, trivial⟩ ?_
  refine Ev.icmp_ge 4 32 tk_R_here rfl (by decide) (fun hc1 => ?_) (fun hc1 => ?_)
  · replace hx := ip hc1 hx
    refine Ev.blk (pc' := 33) (lv' := [some (vr 12 0 80)]) (st' := [vi (ii (-1))]) (h' := h) 16 1 (Nat.le_of_ble_eq_true rfl) tk_R_here rfl rfl ⟨trivial, trivial⟩ ?_
    obtain rfl := Option.some.inj hx
    obtain ⟨rfl, rfl⟩ := hP
    exact Ev.iret 17 tk_R_here rfl rfl
  · replace hx := ia hc1 hx
    obtain ⟨hg2, hx⟩ := gd hx
    refine Ev.blk (pc' := 33) (lv' := [some (vr 12 0 80)]) (st' := [vi ((h.1 (h.2.2 80 5) ((h.1 80 8) + (h.1 80 10)).toNatClampNeg) &&& (ii 255))]) (h' := h) 5 11 (Nat.le_of_ble_eq_true rfl) tk_R_here rfl rfl ⟨trivial, trivial, trivial, trivial, trivial, trivial, trivial, hg2, trivial, trivial, trivial, trivial⟩ ?_
    obtain rfl := Option.some.inj hx
    obtain ⟨rfl, rfl⟩ := hP
    exact Ev.iret 17 tk_R_here rfl rfl
set_option maxRecDepth 4000 in
theorem s_R_number (Γ : AG) (a1 : Int32) (a2 : Int32) (h : AH) (x : Int32 × AH) (hx : f_R_number a1 a2 h = some x) : MetA Γ m_R_number [vr 12 0 80, vi a1, vi a2] h (some (vi x.1)) x.2 := by
  refine Ev.met rfl rfl (Nat.le_of_ble_eq_true rfl) ?_
  show Ev Γ m_R_number 0 [some (vr 12 0 80), some (vi a1), some (vi a2), none, none] [] h _ _
  obtain ⟨r, hr⟩ : ∃ r : Option AV, r = some (vi x.1) := ⟨_, rfl⟩
  obtain ⟨h', hh⟩ : ∃ h' : AH, h' = x.2 := ⟨_, rfl⟩
  have hP : r = some (vi x.1) ∧ h' = x.2 := ⟨hr, hh⟩
  suffices hS : Ev Γ m_R_number 0 [some (vr 12 0 80), some (vi a1), some (vi a2), none, none] [] h r h' by rw [hr, hh] at hS; exact hS
  clear hr hh
  unfold f_R_number at hx
  refine Ev.blk (pc' := 1) (lv' := [some (vr 12 0 80), some (vi a1), some (vi a2), none, none]) (st' := [vr 12 0 80]) (h' := h) 0 1 (Nat.le_of_ble_eq_true rfl) tk_R_number rfl rfl ⟨trivial, trivial⟩ ?_
  obtain ⟨q1, hq1, hx⟩ := bd hx
  refine Ev.callV (ν := m_R_look) (av := []) (rest := []) (r1 := some (vi q1.1)) (h1 := q1.2) (ci := 12) (nn := 0) (o := 80) 1 0 tk_R_number rfl bb_R_look vv_R_look lk_12_144 (by decide) rfl rfl (Or.inl rfl) (Nat.le_of_ble_eq_true rfl) (s_R_look Γ h _ hq1) ?_
  show Ev Γ m_R_number 4 [some (vr 12 0 80), some (vi a1), some (vi a2), none, none] [vi q1.1] q1.2 r h'
  refine Ev.blk (pc' := 6) (lv' := [some (vr 12 0 80), some (vi a1), some (vi a2), some (vi q1.1), none]) (st' := [vr 12 0 80]) (h' := q1.2) 2 2 (Nat.le_of_ble_eq_true rfl) tk_R_number rfl rfl ⟨trivial, trivial, trivial⟩ ?_
  obtain ⟨q2, hq2, hx⟩ := bd hx
  refine Ev.callV (ν := m_R_isDigit) (av := []) (rest := []) (r1 := some (vi q2)) (h1 := q1.2) (ci := 12) (nn := 0) (o := 80) 4 0 tk_R_number rfl bb_R_isDigit vv_R_isDigit lk_12_174 (by decide) rfl rfl (Or.inl rfl) (Nat.le_of_ble_eq_true rfl) (s_R_isDigit Γ q1.2 _ hq2) ?_
  show Ev Γ m_R_number 9 [some (vr 12 0 80), some (vi a1), some (vi a2), some (vi q1.1), none] [vi q2] q1.2 r h'
  refine Ev.if_ne 5 19 tk_R_number rfl (by decide) (fun hc3 => ?_) (fun hc3 => ?_)
  · replace hx := ia hc3 hx
    refine Ev.blk (pc' := 36) (lv' := [some (vr 12 0 80), some (vi a1), some (vi a2), some (vi q1.1), some (vi (q1.1 - (ii 48)))]) (st' := [vr 12 0 80]) (h' := (wI q1.2 80 10 ((q1.2.1 80 10) + (ii 1)))) 11 11 (Nat.le_of_ble_eq_true rfl) tk_R_number rfl rfl ⟨trivial, trivial, trivial, trivial, trivial, trivial, trivial, trivial, trivial, trivial, trivial, trivial⟩ ?_
    obtain ⟨q3, hq4, hx⟩ := bd hx
    refine Ev.callV (ν := m_R_isDigit) (av := []) (rest := []) (r1 := some (vi q3)) (h1 := (wI q1.2 80 10 ((q1.2.1 80 10) + (ii 1)))) (ci := 12) (nn := 0) (o := 80) 22 0 tk_R_number rfl bb_R_isDigit vv_R_isDigit lk_12_174 (by decide) rfl rfl (Or.inl rfl) (Nat.le_of_ble_eq_true rfl) (s_R_isDigit Γ (wI q1.2 80 10 ((q1.2.1 80 10) + (ii 1))) _ hq4) ?_
    show Ev Γ m_R_number 39 [some (vr 12 0 80), some (vi a1), some (vi a2), some (vi q1.1), some (vi (q1.1 - (ii 48)))] [vi q3] (wI q1.2 80 10 ((q1.2.1 80 10) + (ii 1))) r h'
    obtain ⟨q5, hq5, hx⟩ := bd hx
    have K6 : Ev Γ m_R_number 67 [some (vr 12 0 80), some (vi a1), some (vi a2), none, some (vi q5.1)] [] q5.2 r h' := by
      refine Ev.blk (pc' := 68) (lv' := [some (vr 12 0 80), some (vi a1), some (vi a2), none, some (vi q5.1)]) (st' := [vr 12 0 80]) (h' := q5.2) 39 1 (Nat.le_of_ble_eq_true rfl) tk_R_number rfl rfl ⟨trivial, trivial⟩ ?_
      obtain ⟨q6, hq7, hx⟩ := bd hx
      refine Ev.callV (ν := m_R_isDigit) (av := []) (rest := []) (r1 := some (vi q6)) (h1 := q5.2) (ci := 12) (nn := 0) (o := 80) 40 0 tk_R_number rfl bb_R_isDigit vv_R_isDigit lk_12_174 (by decide) rfl rfl (Or.inl rfl) (Nat.le_of_ble_eq_true rfl) (s_R_isDigit Γ q5.2 _ hq7) ?_
      show Ev Γ m_R_number 71 [some (vr 12 0 80), some (vi a1), some (vi a2), none, some (vi q5.1)] [vi q6] q5.2 r h'
      refine Ev.if_eq 41 81 tk_R_number rfl (by decide) (fun hc8 => ?_) (fun hc8 => ?_)
      · replace hx := ip hc8 hx
        refine Ev.blk (pc' := 88) (lv' := [some (vr 12 0 80), some (vi a1), some (vi a2), none, some (vi q5.1)]) (st' := [vl a2.toInt64, vl a1.toInt64, vl q5.1.toInt64]) (h' := q5.2) 47 6 (Nat.le_of_ble_eq_true rfl) tk_R_number rfl rfl ⟨trivial, trivial, trivial, trivial, trivial, trivial, trivial⟩ ?_
        refine Ev.callS (ν := m_R_isIn) (av := [vl q5.1.toInt64, vl a1.toInt64, vl a2.toInt64]) (rest := []) (r1 := some (vi (p_R_isIn q5.1.toInt64 a1.toInt64 a2.toInt64))) (h1 := q5.2) 53 3 tk_R_number rfl bb_R_isIn vv_R_isIn lk_12_223 (by decide) rfl rfl (Nat.le_of_ble_eq_true rfl) (s_R_isIn Γ q5.1.toInt64 a1.toInt64 a2.toInt64 q5.2) ?_
        show Ev Γ m_R_number 91 [some (vr 12 0 80), some (vi a1), some (vi a2), none, some (vi q5.1)] [vi (p_R_isIn q5.1.toInt64 a1.toInt64 a2.toInt64)] q5.2 r h'
        obtain ⟨q8, hq9, hx⟩ := bd hx
        have K10 : Ev Γ m_R_number 109 [none, none, none, none, some (vi q5.1)] [] q8 r h' := by
          refine Ev.blk (pc' := 111) (lv' := [none, none, none, none, some (vi q5.1)]) (st' := [vi q5.1]) (h' := q8) 64 1 (Nat.le_of_ble_eq_true rfl) tk_R_number rfl rfl ⟨trivial, trivial⟩ ?_
          obtain rfl := Option.some.inj hx
          obtain ⟨rfl, rfl⟩ := hP
          exact Ev.iret 65 tk_R_number rfl rfl
        clear hx
        refine Ev.if_ne 54 109 tk_R_number rfl (by decide) (fun hc11 => ?_) (fun hc11 => ?_)
        · replace hq9 := ia hc11 hq9
          obtain rfl := Option.some.inj hq9
          exact Ev.msk [false, false, false, false, true] K10
        · replace hq9 := ip hc11 hq9
          refine Ev.blk (pc' := 105) (lv' := [some (vr 12 0 80), some (vi a1), some (vi a2), none, some (vi q5.1)]) (st' := [vr 12 0 80]) (h' := (wI q5.2 80 10 ((q5.2.1 80 10) - (ii 1)))) 55 7 (Nat.le_of_ble_eq_true rfl) tk_R_number rfl rfl ⟨trivial, trivial, trivial, trivial, trivial, trivial, trivial, trivial⟩ ?_
          obtain ⟨q7, hq12, hq9⟩ := bd hq9
          refine Ev.callV (ν := m_R_fails) (av := []) (rest := []) (r1 := some (vi q7.1)) (h1 := q7.2) (ci := 12) (nn := 0) (o := 80) 62 0 tk_R_number rfl bb_R_fails vv_R_fails lk_12_140 (by decide) rfl rfl (Or.inl rfl) (Nat.le_of_ble_eq_true rfl) (s_R_fails Γ (wI q5.2 80 10 ((q5.2.1 80 10) - (ii 1))) _ hq12) ?_
          show Ev Γ m_R_number 108 [some (vr 12 0 80), some (vi a1), some (vi a2), none, some (vi q5.1)] [vi q7.1] q7.2 r h'
          refine Ev.blk (pc' := 109) (lv' := [some (vr 12 0 80), some (vi a1), some (vi a2), none, some (vi q5.1)]) (st' := []) (h' := q7.2) 63 1 (Nat.le_of_ble_eq_true rfl) tk_R_number rfl rfl ⟨trivial, trivial⟩ ?_
          obtain rfl := Option.some.inj hq9
          exact Ev.msk [false, false, false, false, true] K10
      · replace hx := ia hc8 hx
        refine Ev.blk (pc' := 75) (lv' := [some (vr 12 0 80), some (vi a1), some (vi a2), none, some (vi q5.1)]) (st' := [vr 12 0 80]) (h' := q5.2) 42 1 (Nat.le_of_ble_eq_true rfl) tk_R_number rfl rfl ⟨trivial, trivial⟩ ?_
        obtain ⟨q9, hq13, hx⟩ := bd hx
        refine Ev.callV (ν := m_R_fails) (av := []) (rest := []) (r1 := some (vi q9.1)) (h1 := q9.2) (ci := 12) (nn := 0) (o := 80) 43 0 tk_R_number rfl bb_R_fails vv_R_fails lk_12_140 (by decide) rfl rfl (Or.inl rfl) (Nat.le_of_ble_eq_true rfl) (s_R_fails Γ q5.2 _ hq13) ?_
        show Ev Γ m_R_number 78 [some (vr 12 0 80), some (vi a1), some (vi a2), none, some (vi q5.1)] [vi q9.1] q9.2 r h'
        refine Ev.blk (pc' := 80) (lv' := [some (vr 12 0 80), some (vi a1), some (vi a2), none, some (vi q5.1)]) (st' := [vi (ii 0)]) (h' := q9.2) 44 2 (Nat.le_of_ble_eq_true rfl) tk_R_number rfl rfl ⟨trivial, trivial, trivial⟩ ?_
        obtain rfl := Option.some.inj hx
        obtain ⟨rfl, rfl⟩ := hP
        exact Ev.iret 46 tk_R_number rfl rfl
    clear hx
    refine Ev.if_eq 23 67 tk_R_number rfl (by decide) (fun hc14 => ?_) (fun hc14 => ?_)
    · replace hq5 := ip hc14 hq5
      obtain rfl := Option.some.inj hq5
      exact Ev.msk [true, true, true, false, true] K6
    · replace hq5 := ia hc14 hq5
      refine Ev.blk (pc' := 48) (lv' := [some (vr 12 0 80), some (vi a1), some (vi a2), some (vi q1.1), some (vi (q1.1 - (ii 48)))]) (st' := [vr 12 0 80, vi ((ii 10) * (q1.1 - (ii 48)))]) (h' := (wI q1.2 80 10 ((q1.2.1 80 10) + (ii 1)))) 24 4 (Nat.le_of_ble_eq_true rfl) tk_R_number rfl rfl ⟨trivial, trivial, trivial, trivial, trivial⟩ ?_
      obtain ⟨q4, hq15, hq5⟩ := bd hq5
      refine Ev.callV (ν := m_R_here) (av := []) (rest := [vi ((ii 10) * (q1.1 - (ii 48)))]) (r1 := some (vi q4)) (h1 := (wI q1.2 80 10 ((q1.2.1 80 10) + (ii 1)))) (ci := 12) (nn := 0) (o := 80) 28 0 tk_R_number rfl bb_R_here vv_R_here lk_12_220 (by decide) rfl rfl (Or.inl rfl) (Nat.le_of_ble_eq_true rfl) (s_R_here Γ (wI q1.2 80 10 ((q1.2.1 80 10) + (ii 1))) _ hq15) ?_
      show Ev Γ m_R_number 51 [some (vr 12 0 80), some (vi a1), some (vi a2), some (vi q1.1), some (vi (q1.1 - (ii 48)))] [vi q4, vi ((ii 10) * (q1.1 - (ii 48)))] (wI q1.2 80 10 ((q1.2.1 80 10) + (ii 1))) r h'
      refine Ev.blk (pc' := 67) (lv' := [some (vr 12 0 80), some (vi a1), some (vi a2), some (vi q1.1), some (vi ((((ii 10) * (q1.1 - (ii 48))) + q4) - (ii 48)))]) (st' := []) (h' := (wI (wI q1.2 80 10 ((q1.2.1 80 10) + (ii 1))) 80 10 (((wI q1.2 80 10 ((q1.2.1 80 10) + (ii 1))).1 80 10) + (ii 1)))) 29 10 (Nat.le_of_ble_eq_true rfl) tk_R_number rfl rfl ⟨trivial, trivial, trivial, trivial, trivial, trivial, trivial, trivial, trivial, trivial, trivial⟩ ?_
      obtain rfl := Option.some.inj hq5
      exact Ev.msk [true, true, true, false, true] K6
  · replace hx := ip hc3 hx
    refine Ev.blk (pc' := 13) (lv' := [some (vr 12 0 80), some (vi a1), some (vi a2), some (vi q1.1), none]) (st' := [vr 12 0 80]) (h' := q1.2) 6 1 (Nat.le_of_ble_eq_true rfl) tk_R_number rfl rfl ⟨trivial, trivial⟩ ?_
    obtain ⟨q10, hq16, hx⟩ := bd hx
    refine Ev.callV (ν := m_R_fails) (av := []) (rest := []) (r1 := some (vi q10.1)) (h1 := q10.2) (ci := 12) (nn := 0) (o := 80) 7 0 tk_R_number rfl bb_R_fails vv_R_fails lk_12_140 (by decide) rfl rfl (Or.inl rfl) (Nat.le_of_ble_eq_true rfl) (s_R_fails Γ q1.2 _ hq16) ?_
    show Ev Γ m_R_number 16 [some (vr 12 0 80), some (vi a1), some (vi a2), some (vi q1.1), none] [vi q10.1] q10.2 r h'
    refine Ev.blk (pc' := 18) (lv' := [some (vr 12 0 80), some (vi a1), some (vi a2), some (vi q1.1), none]) (st' := [vi (ii 0)]) (h' := q10.2) 8 2 (Nat.le_of_ble_eq_true rfl) tk_R_number rfl rfl ⟨trivial, trivial, trivial⟩ ?_
    obtain rfl := Option.some.inj hx
    obtain ⟨rfl, rfl⟩ := hP
    exact Ev.iret 10 tk_R_number rfl rfl
