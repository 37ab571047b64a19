set_option maxRecDepth 4000 in
theorem l_Tape_bytesIn_L5 (Γ : AG) : ∀ (n : Nat) (v0 : Int32) (v1 : Int32) (v2 : Int32) (h : AH) (x : Int32), Tape_bytesIn_L5 n v0 v1 v2 h = some x → ∀ (r : Option AV) (h' : AH), r = some (vi x) ∧ h' = h → Ev Γ m_Tape_bytesIn 5 [some (vi v0), some (vi v1), some (vi v2)] [] h r h' := by
  intro n
  induction n with
  | zero => intro v0 v1 v2 h x hx; cases hx
  | succ n ih =>
    intro v0 v1 v2 h x hx r h' hP
    replace hx : Tape_bytesIn_L5_b (Tape_bytesIn_L5 n) v0 v1 v2 h = some x := hx
    unfold Tape_bytesIn_L5_b at hx
    refine Ev.blk (pc' := 6) (lv' := [some (vi v0), some (vi v1), some (vi v2)]) (st' := [vi v2]) (h' := h) 4 1 (Nat.le_of_ble_eq_true rfl) tk_Tape_bytesIn rfl rfl ⟨trivial, trivial⟩ ?_
    refine Ev.if_lt 5 33 tk_Tape_bytesIn rfl (by decide) (fun hc1 => ?_) (fun hc1 => ?_)
    · replace hx := ip hc1 hx
      refine Ev.blk (pc' := 34) (lv' := [some (vi v0), some (vi v1), some (vi v2)]) (st' := [vi v1]) (h' := h) 20 1 (Nat.le_of_ble_eq_true rfl) tk_Tape_bytesIn rfl rfl ⟨trivial, trivial⟩ ?_
      obtain rfl := Option.some.inj hx
      obtain ⟨rfl, rfl⟩ := hP
      exact Ev.iret 21 tk_Tape_bytesIn rfl rfl
    · replace hx := ia hc1 hx
      refine Ev.blk (pc' := 17) (lv' := [some (vi v0), some (vi v1), some (vi v2)]) (st' := [vi ((ushI v0 v2) &&& (ii 255)), vi v1]) (h' := h) 6 6 (Nat.le_of_ble_eq_true rfl) tk_Tape_bytesIn rfl rfl ⟨trivial, trivial, trivial, trivial, trivial, trivial, trivial⟩ ?_
      have K2 : ∀ v2_0 : Int32, v2_0 = (if ((ushI v0 v2) &&& (ii 255)) = 0 then (ii 0) else (ii 1)) → Ev Γ m_Tape_bytesIn 25 [some (vi v0), none, some (vi v2)] [vi v2_0, vi v1] h r h' := by
        intro v2_0 e3
        subst e3
        refine Ev.blk (pc' := 5) (lv' := [some (vi v0), some (vi (v1 + (if ((ushI v0 v2) &&& (ii 255)) = 0 then (ii 0) else (ii 1)))), some (vi (v2 + ii (-8)))]) (st' := []) (h' := h) 16 4 (Nat.le_of_ble_eq_true rfl) tk_Tape_bytesIn rfl rfl ⟨trivial, trivial, trivial, trivial, trivial⟩ ?_
        exact Ev.msk [true, true, true] (ih v0 (v1 + (if ((ushI v0 v2) &&& (ii 255)) = 0 then (ii 0) else (ii 1))) (v2 + ii (-8)) h _ hx r h' hP)
      refine Ev.if_ne 12 24 tk_Tape_bytesIn rfl (by decide) (fun hc4 => ?_) (fun hc4 => ?_)
      · refine Ev.blk (pc' := 25) (lv' := [some (vi v0), some (vi v1), some (vi v2)]) (st' := [vi (ii 1), vi v1]) (h' := h) 15 1 (Nat.le_of_ble_eq_true rfl) tk_Tape_bytesIn rfl rfl ⟨trivial, trivial⟩ ?_
        exact Ev.msk [true, false, true] (K2 _ (by first | rfl | simp only [if_neg hc4]))
      · refine Ev.blk (pc' := 25) (lv' := [some (vi v0), some (vi v1), some (vi v2)]) (st' := [vi (ii 0), vi v1]) (h' := h) 13 2 (Nat.le_of_ble_eq_true rfl) tk_Tape_bytesIn rfl rfl ⟨trivial, trivial, trivial⟩ ?_
        exact Ev.msk [true, false, true] (K2 _ (by first | rfl | simp only [if_pos hc4]))
set_option maxRecDepth 4000 in
theorem s_Tape_bytesIn (Γ : AG) (a0 : Int32) (h : AH) (x : Int32) (hx : f_Tape_bytesIn a0 h = some x) : MetA Γ m_Tape_bytesIn [vi a0] h (some (vi x)) h := by
  refine Ev.met rfl rfl (Nat.le_of_ble_eq_true rfl) ?_
  show Ev Γ m_Tape_bytesIn 0 [some (vi a0), none, none] [] h _ _
  obtain ⟨r, hr⟩ : ∃ r : Option AV, r = some (vi x) := ⟨_, rfl⟩
  obtain ⟨h', hh⟩ : ∃ h' : AH, h' = h := ⟨_, rfl⟩
  have hP : r = some (vi x) ∧ h' = h := ⟨hr, hh⟩
  suffices hS : Ev Γ m_Tape_bytesIn 0 [some (vi a0), none, none] [] h r h' by rw [hr, hh] at hS; exact hS
  clear hr hh
  unfold f_Tape_bytesIn at hx
  refine Ev.blk (pc' := 5) (lv' := [some (vi a0), some (vi (ii 0)), some (vi (ii 24))]) (st' := []) (h' := h) 0 4 (Nat.le_of_ble_eq_true rfl) tk_Tape_bytesIn rfl rfl ⟨trivial, trivial, trivial, trivial, trivial⟩ ?_
  refine Ev.msk [true, true, true] ?_
  show Ev Γ m_Tape_bytesIn 5 [some (vi a0), some (vi (ii 0)), some (vi (ii 24))] [] h r h'
  exact l_Tape_bytesIn_L5 Γ FU a0 (ii 0) (ii 24) h _ hx r h' hP
set_option maxRecDepth 4000 in
theorem l_Tape_append_L3 (Γ : AG) : ∀ (n : Nat) (v1 : Int32) (v2 : Int32) (h : AH) (x : AH), Tape_append_L3 n v1 v2 h = some x → ∀ (r : Option AV) (h' : AH), r = none ∧ h' = x → Ev Γ m_Tape_append 3 [some (vr 1 0 1), some (vi v1), some (vi v2), none] [] h r h' := by
  intro n
  induction n with
  | zero => intro v1 v2 h x hx; cases hx
  | succ n ih =>
    intro v1 v2 h x hx r h' hP
    replace hx : Tape_append_L3_b (Tape_append_L3 n) v1 v2 h = some x := hx
    unfold Tape_append_L3_b at hx
    refine Ev.blk (pc' := 4) (lv' := [some (vr 1 0 1), some (vi v1), some (vi v2), none]) (st' := [vi v2]) (h' := h) 2 1 (Nat.le_of_ble_eq_true rfl) tk_Tape_append rfl rfl ⟨trivial, trivial⟩ ?_
    refine Ev.if_lt 3 64 tk_Tape_append rfl (by decide) (fun hc1 => ?_) (fun hc1 => ?_)
    · replace hx := ip hc1 hx
      obtain rfl := Option.some.inj hx
      obtain ⟨rfl, rfl⟩ := hP
      exact Ev.vret 35 tk_Tape_append rfl rfl
    · replace hx := ia hc1 hx
      refine Ev.blk (pc' := 16) (lv' := [some (vr 1 0 1), some (vi v1), some (vi v2), some (vi ((ushI v1 v2) &&& (ii 255)))]) (st' := [vi ((ushI v1 v2) &&& (ii 255))]) (h' := h) 4 7 (Nat.le_of_ble_eq_true rfl) tk_Tape_append rfl rfl ⟨trivial, trivial, trivial, trivial, trivial, trivial, trivial, trivial⟩ ?_
      obtain ⟨q1, hq2, hx⟩ := bd hx
      have K3 : Ev Γ m_Tape_append 58 [some (vr 1 0 1), some (vi v1), some (vi v2), none] [] q1 r h' := by
        refine Ev.blk (pc' := 3) (lv' := [some (vr 1 0 1), some (vi v1), some (vi (v2 + ii (-8))), none]) (st' := []) (h' := q1) 33 2 (Nat.le_of_ble_eq_true rfl) tk_Tape_append rfl rfl ⟨trivial, trivial, trivial⟩ ?_
        exact Ev.msk [true, true, true, false] (ih v1 (v2 + ii (-8)) q1 _ hx r h' hP)
      clear hx
      refine Ev.if_eq 11 58 tk_Tape_append rfl (by decide) (fun hc4 => ?_) (fun hc4 => ?_)
      · replace hq2 := ip hc4 hq2
        obtain rfl := Option.some.inj hq2
        exact Ev.msk [true, true, true, false] K3
      · replace hq2 := ia hc4 hq2
        refine Ev.blk (pc' := 23) (lv' := [some (vr 1 0 1), some (vi v1), some (vi v2), some (vi ((ushI v1 v2) &&& (ii 255)))]) (st' := [vi (h.1 1 1)]) (h' := h) 12 2 (Nat.le_of_ble_eq_true rfl) tk_Tape_append rfl rfl ⟨trivial, trivial, trivial⟩ ?_
        refine Ev.if_lt 14 58 tk_Tape_append rfl (by decide) (fun hc5 => ?_) (fun hc5 => ?_)
        · replace hq2 := ip hc5 hq2
          obtain rfl := Option.some.inj hq2
          exact Ev.msk [true, true, true, false] K3
        · replace hq2 := ia hc5 hq2
          refine Ev.blk (pc' := 35) (lv' := [some (vr 1 0 1), some (vi v1), some (vi v2), some (vi ((ushI v1 v2) &&& (ii 255)))]) (st' := [vi (ii (240 : Int)), vi (h.1 1 1)]) (h' := h) 15 5 (Nat.le_of_ble_eq_true rfl) tk_Tape_append rfl rfl ⟨trivial, trivial, trivial, trivial, trivial, trivial⟩ ?_
          refine Ev.icmp_ge 20 58 tk_Tape_append rfl (by decide) (fun hc6 => ?_) (fun hc6 => ?_)
          · replace hq2 := ip hc6 hq2
            obtain rfl := Option.some.inj hq2
            exact Ev.msk [true, true, true, false] K3
          · replace hq2 := ia hc6 hq2
            obtain ⟨hg7, hq2⟩ := gd hq2
            refine Ev.blk (pc' := 58) (lv' := [some (vr 1 0 1), some (vi v1), some (vi v2), some (vi ((ushI v1 v2) &&& (ii 255)))]) (st' := []) (h' := (wI (wI h 2 (h.1 1 1).toNatClampNeg ((ushI v1 v2) &&& (ii 255))) 1 1 (((wI h 2 (h.1 1 1).toNatClampNeg ((ushI v1 v2) &&& (ii 255))).1 1 1) + (ii 1)))) 21 12 (Nat.le_of_ble_eq_true rfl) tk_Tape_append rfl rfl ⟨trivial, trivial, trivial, trivial, trivial, hg7, trivial, trivial, trivial, trivial, trivial, trivial, trivial⟩ ?_
            obtain rfl := Option.some.inj hq2
            exact Ev.msk [true, true, true, false] K3
set_option maxRecDepth 4000 in
theorem s_Tape_append (Γ : AG) (a1 : Int32) (h : AH) (x : AH) (hx : f_Tape_append a1 h = some x) : MetA Γ m_Tape_append [vr 1 0 1, vi a1] h (none) x := by
  refine Ev.met rfl rfl (Nat.le_of_ble_eq_true rfl) ?_
  show Ev Γ m_Tape_append 0 [some (vr 1 0 1), some (vi a1), none, none] [] h _ _
  obtain ⟨r, hr⟩ : ∃ r : Option AV, r = none := ⟨_, rfl⟩
  obtain ⟨h', hh⟩ : ∃ h' : AH, h' = x := ⟨_, rfl⟩
  have hP : r = none ∧ h' = x := ⟨hr, hh⟩
  suffices hS : Ev Γ m_Tape_append 0 [some (vr 1 0 1), some (vi a1), none, none] [] h r h' by rw [hr, hh] at hS; exact hS
  clear hr hh
  unfold f_Tape_append at hx
  refine Ev.blk (pc' := 3) (lv' := [some (vr 1 0 1), some (vi a1), some (vi (ii 24)), none]) (st' := []) (h' := h) 0 2 (Nat.le_of_ble_eq_true rfl) tk_Tape_append rfl rfl ⟨trivial, trivial, trivial⟩ ?_
  refine Ev.msk [true, true, true, false] ?_
  show Ev Γ m_Tape_append 3 [some (vr 1 0 1), some (vi a1), some (vi (ii 24)), none] [] h r h'
  exact l_Tape_append_L3 Γ FU a1 (ii 24) h _ hx r h' hP
set_option maxRecDepth 4000 in
theorem s_HF_feed (Γ : AG) (a1 : Int32) (a2 : Int32) (a3 : Int32) (a4 : Int32) (a5 : Int32) (h : AH) (x : Int32 × AH) (hx : f_HF_feed a1 a2 a3 a4 a5 h = some x) : MetA Γ m_HF_feed [vr 0 0 0, vi a1, vi a2, vi a3, vi a4, vi a5] h (some (vi x.1)) x.2 := by
  refine Ev.met rfl rfl (Nat.le_of_ble_eq_true rfl) ?_
  show Ev Γ m_HF_feed 0 [some (vr 0 0 0), some (vi a1), some (vi a2), some (vi a3), some (vi a4), some (vi a5), none] [] h _ _
  obtain ⟨r, hr⟩ : ∃ r : Option AV, r = some (vi x.1) := ⟨_, rfl⟩
  obtain ⟨h', hh⟩ : ∃ h' : AH, h' = x.2 := ⟨_, rfl⟩
  have hP : r = some (vi x.1) ∧ h' = x.2 := ⟨hr, hh⟩
  suffices hS : Ev Γ m_HF_feed 0 [some (vr 0 0 0), some (vi a1), some (vi a2), some (vi a3), some (vi a4), some (vi a5), none] [] h r h' by rw [hr, hh] at hS; exact hS
  clear hr hh
  unfold f_HF_feed at hx
  refine Ev.blk (pc' := 1) (lv' := [some (vr 0 0 0), some (vi a1), some (vi a2), some (vi a3), some (vi a4), some (vi a5), none]) (st' := [vi a1]) (h' := h) 0 1 (Nat.le_of_ble_eq_true rfl) tk_HF_feed rfl rfl ⟨trivial, trivial⟩ ?_
  obtain ⟨q1, hq1, hx⟩ := bd hx
  refine Ev.callS (ν := m_Tape_bytesIn) (av := [vi a1]) (rest := []) (r1 := some (vi q1)) (h1 := h) 1 1 tk_HF_feed rfl bb_Tape_bytesIn vv_Tape_bytesIn lk_0_110 (by decide) rfl rfl (Nat.le_of_ble_eq_true rfl) (s_Tape_bytesIn Γ a1 h _ hq1) ?_
  show Ev Γ m_HF_feed 4 [some (vr 0 0 0), some (vi a1), some (vi a2), some (vi a3), some (vi a4), some (vi a5), none] [vi q1] h r h'
  refine Ev.blk (pc' := 5) (lv' := [some (vr 0 0 0), some (vi a1), some (vi a2), some (vi a3), some (vi a4), some (vi a5), none]) (st' := [vi a2, vi q1]) (h' := h) 2 1 (Nat.le_of_ble_eq_true rfl) tk_HF_feed rfl rfl ⟨trivial, trivial⟩ ?_
  obtain ⟨q2, hq2, hx⟩ := bd hx
  refine Ev.callS (ν := m_Tape_bytesIn) (av := [vi a2]) (rest := [vi q1]) (r1 := some (vi q2)) (h1 := h) 3 1 tk_HF_feed rfl bb_Tape_bytesIn vv_Tape_bytesIn lk_0_110 (by decide) rfl rfl (Nat.le_of_ble_eq_true rfl) (s_Tape_bytesIn Γ a2 h _ hq2) ?_
  show Ev Γ m_HF_feed 8 [some (vr 0 0 0), some (vi a1), some (vi a2), some (vi a3), some (vi a4), some (vi a5), none] [vi q2, vi q1] h r h'
  refine Ev.blk (pc' := 10) (lv' := [some (vr 0 0 0), some (vi a1), some (vi a2), some (vi a3), some (vi a4), some (vi a5), none]) (st' := [vi a3, vi (q1 + q2)]) (h' := h) 4 2 (Nat.le_of_ble_eq_true rfl) tk_HF_feed rfl rfl ⟨trivial, trivial, trivial⟩ ?_
  obtain ⟨q3, hq3, hx⟩ := bd hx
  refine Ev.callS (ν := m_Tape_bytesIn) (av := [vi a3]) (rest := [vi (q1 + q2)]) (r1 := some (vi q3)) (h1 := h) 6 1 tk_HF_feed rfl bb_Tape_bytesIn vv_Tape_bytesIn lk_0_110 (by decide) rfl rfl (Nat.le_of_ble_eq_true rfl) (s_Tape_bytesIn Γ a3 h _ hq3) ?_
  show Ev Γ m_HF_feed 13 [some (vr 0 0 0), some (vi a1), some (vi a2), some (vi a3), some (vi a4), some (vi a5), none] [vi q3, vi (q1 + q2)] h r h'
  refine Ev.blk (pc' := 16) (lv' := [some (vr 0 0 0), some (vi a1), some (vi a2), some (vi a3), some (vi a4), some (vi a5), none]) (st' := [vi a4, vi ((q1 + q2) + q3)]) (h' := h) 7 2 (Nat.le_of_ble_eq_true rfl) tk_HF_feed rfl rfl ⟨trivial, trivial, trivial⟩ ?_
  obtain ⟨q4, hq4, hx⟩ := bd hx
  refine Ev.callS (ν := m_Tape_bytesIn) (av := [vi a4]) (rest := [vi ((q1 + q2) + q3)]) (r1 := some (vi q4)) (h1 := h) 9 1 tk_HF_feed rfl bb_Tape_bytesIn vv_Tape_bytesIn lk_0_110 (by decide) rfl rfl (Nat.le_of_ble_eq_true rfl) (s_Tape_bytesIn Γ a4 h _ hq4) ?_
  show Ev Γ m_HF_feed 19 [some (vr 0 0 0), some (vi a1), some (vi a2), some (vi a3), some (vi a4), some (vi a5), none] [vi q4, vi ((q1 + q2) + q3)] h r h'
  refine Ev.blk (pc' := 22) (lv' := [some (vr 0 0 0), some (vi a1), some (vi a2), some (vi a3), some (vi a4), some (vi a5), none]) (st' := [vi a5, vi (((q1 + q2) + q3) + q4)]) (h' := h) 10 2 (Nat.le_of_ble_eq_true rfl) tk_HF_feed rfl rfl ⟨trivial, trivial, trivial⟩ ?_
  obtain ⟨q5, hq5, hx⟩ := bd hx
  refine Ev.callS (ν := m_Tape_bytesIn) (av := [vi a5]) (rest := [vi (((q1 + q2) + q3) + q4)]) (r1 := some (vi q5)) (h1 := h) 12 1 tk_HF_feed rfl bb_Tape_bytesIn vv_Tape_bytesIn lk_0_110 (by decide) rfl rfl (Nat.le_of_ble_eq_true rfl) (s_Tape_bytesIn Γ a5 h _ hq5) ?_
  show Ev Γ m_HF_feed 25 [some (vr 0 0 0), some (vi a1), some (vi a2), some (vi a3), some (vi a4), some (vi a5), none] [vi q5, vi (((q1 + q2) + q3) + q4)] h r h'
  refine Ev.blk (pc' := 41) (lv' := [some (vr 0 0 0), some (vi a1), some (vi a2), some (vi a3), some (vi a4), some (vi a5), some (vi ((((q1 + q2) + q3) + q4) + q5))]) (st' := [vi (ii 240), vi ((h.1 1 1) + ((((q1 + q2) + q3) + q4) + q5))]) (h' := h) 13 8 (Nat.le_of_ble_eq_true rfl) tk_HF_feed rfl rfl ⟨trivial, trivial, trivial, trivial, trivial, trivial, trivial, trivial, trivial⟩ ?_
  refine Ev.icmp_le 21 46 tk_HF_feed rfl (by decide) (fun hc6 => ?_) (fun hc6 => ?_)
  · replace hx := ip hc6 hx
    refine Ev.blk (pc' := 51) (lv' := [some (vr 0 0 0), some (vi a1), some (vi a2), some (vi a3), some (vi a4), some (vi a5), some (vi ((((q1 + q2) + q3) + q4) + q5))]) (st' := [vi a1, vr 1 0 1]) (h' := h) 24 3 (Nat.le_of_ble_eq_true rfl) tk_HF_feed rfl rfl ⟨trivial, trivial, trivial, trivial⟩ ?_
    obtain ⟨q6, hq7, hx⟩ := bd hx
    refine Ev.callV (ν := m_Tape_append) (av := [vi a1]) (rest := []) (r1 := none) (h1 := q6) (ci := 1) (nn := 0) (o := 1) 27 1 tk_HF_feed rfl bb_Tape_append vv_Tape_append lk_0_117 (by decide) rfl rfl (Or.inl rfl) (Nat.le_of_ble_eq_true rfl) (s_Tape_append Γ a1 h _ hq7) ?_
    show Ev Γ m_HF_feed 54 [some (vr 0 0 0), some (vi a1), some (vi a2), some (vi a3), some (vi a4), some (vi a5), some (vi ((((q1 + q2) + q3) + q4) + q5))] [] q6 r h'
    refine Ev.blk (pc' := 59) (lv' := [some (vr 0 0 0), some (vi a1), some (vi a2), some (vi a3), some (vi a4), some (vi a5), some (vi ((((q1 + q2) + q3) + q4) + q5))]) (st' := [vi a2, vr 1 0 1]) (h' := q6) 28 3 (Nat.le_of_ble_eq_true rfl) tk_HF_feed rfl rfl ⟨trivial, trivial, trivial, trivial⟩ ?_
    obtain ⟨q7, hq8, hx⟩ := bd hx
    refine Ev.callV (ν := m_Tape_append) (av := [vi a2]) (rest := []) (r1 := none) (h1 := q7) (ci := 1) (nn := 0) (o := 1) 31 1 tk_HF_feed rfl bb_Tape_append vv_Tape_append lk_0_117 (by decide) rfl rfl (Or.inl rfl) (Nat.le_of_ble_eq_true rfl) (s_Tape_append Γ a2 q6 _ hq8) ?_
    show Ev Γ m_HF_feed 62 [some (vr 0 0 0), some (vi a1), some (vi a2), some (vi a3), some (vi a4), some (vi a5), some (vi ((((q1 + q2) + q3) + q4) + q5))] [] q7 r h'
    refine Ev.blk (pc' := 67) (lv' := [some (vr 0 0 0), some (vi a1), some (vi a2), some (vi a3), some (vi a4), some (vi a5), some (vi ((((q1 + q2) + q3) + q4) + q5))]) (st' := [vi a3, vr 1 0 1]) (h' := q7) 32 3 (Nat.le_of_ble_eq_true rfl) tk_HF_feed rfl rfl ⟨trivial, trivial, trivial, trivial⟩ ?_
    obtain ⟨q8, hq9, hx⟩ := bd hx
    refine Ev.callV (ν := m_Tape_append) (av := [vi a3]) (rest := []) (r1 := none) (h1 := q8) (ci := 1) (nn := 0) (o := 1) 35 1 tk_HF_feed rfl bb_Tape_append vv_Tape_append lk_0_117 (by decide) rfl rfl (Or.inl rfl) (Nat.le_of_ble_eq_true rfl) (s_Tape_append Γ a3 q7 _ hq9) ?_
    show Ev Γ m_HF_feed 70 [some (vr 0 0 0), some (vi a1), some (vi a2), some (vi a3), some (vi a4), some (vi a5), some (vi ((((q1 + q2) + q3) + q4) + q5))] [] q8 r h'
    refine Ev.blk (pc' := 76) (lv' := [some (vr 0 0 0), some (vi a1), some (vi a2), some (vi a3), some (vi a4), some (vi a5), some (vi ((((q1 + q2) + q3) + q4) + q5))]) (st' := [vi a4, vr 1 0 1]) (h' := q8) 36 3 (Nat.le_of_ble_eq_true rfl) tk_HF_feed rfl rfl ⟨trivial, trivial, trivial, trivial⟩ ?_
    obtain ⟨q9, hq10, hx⟩ := bd hx
    refine Ev.callV (ν := m_Tape_append) (av := [vi a4]) (rest := []) (r1 := none) (h1 := q9) (ci := 1) (nn := 0) (o := 1) 39 1 tk_HF_feed rfl bb_Tape_append vv_Tape_append lk_0_117 (by decide) rfl rfl (Or.inl rfl) (Nat.le_of_ble_eq_true rfl) (s_Tape_append Γ a4 q8 _ hq10) ?_
    show Ev Γ m_HF_feed 79 [some (vr 0 0 0), some (vi a1), some (vi a2), some (vi a3), some (vi a4), some (vi a5), some (vi ((((q1 + q2) + q3) + q4) + q5))] [] q9 r h'
    refine Ev.blk (pc' := 85) (lv' := [some (vr 0 0 0), some (vi a1), some (vi a2), some (vi a3), some (vi a4), some (vi a5), some (vi ((((q1 + q2) + q3) + q4) + q5))]) (st' := [vi a5, vr 1 0 1]) (h' := q9) 40 3 (Nat.le_of_ble_eq_true rfl) tk_HF_feed rfl rfl ⟨trivial, trivial, trivial, trivial⟩ ?_
    obtain ⟨q10, hq11, hx⟩ := bd hx
    refine Ev.callV (ν := m_Tape_append) (av := [vi a5]) (rest := []) (r1 := none) (h1 := q10) (ci := 1) (nn := 0) (o := 1) 43 1 tk_HF_feed rfl bb_Tape_append vv_Tape_append lk_0_117 (by decide) rfl rfl (Or.inl rfl) (Nat.le_of_ble_eq_true rfl) (s_Tape_append Γ a5 q9 _ hq11) ?_
    show Ev Γ m_HF_feed 88 [some (vr 0 0 0), some (vi a1), some (vi a2), some (vi a3), some (vi a4), some (vi a5), some (vi ((((q1 + q2) + q3) + q4) + q5))] [] q10 r h'
    refine Ev.blk (pc' := 95) (lv' := [some (vr 0 0 0), some (vi a1), some (vi a2), some (vi a3), some (vi a4), some (vi a5), some (vi ((((q1 + q2) + q3) + q4) + q5))]) (st' := [vi (q10.1 1 1)]) (h' := q10) 44 3 (Nat.le_of_ble_eq_true rfl) tk_HF_feed rfl rfl ⟨trivial, trivial, trivial, trivial⟩ ?_
    obtain rfl := Option.some.inj hx
    obtain ⟨rfl, rfl⟩ := hP
    exact Ev.iret 47 tk_HF_feed rfl rfl
  · replace hx := ia hc6 hx
    refine Ev.blk (pc' := 45) (lv' := [some (vr 0 0 0), some (vi a1), some (vi a2), some (vi a3), some (vi a4), some (vi a5), some (vi ((((q1 + q2) + q3) + q4) + q5))]) (st' := [vi (ii (-1))]) (h' := h) 22 1 (Nat.le_of_ble_eq_true rfl) tk_HF_feed rfl rfl ⟨trivial, trivial⟩ ?_
    obtain rfl := Option.some.inj hx
    obtain ⟨rfl, rfl⟩ := hP
    exact Ev.iret 23 tk_HF_feed rfl rfl
set_option maxRecDepth 4000 in
theorem s_HF_end (Γ : AG) (a1 : Int32) (h : AH) (x : Int32 × AH) (hx : f_HF_end a1 h = some x) : MetA Γ m_HF_end [vr 0 0 0, vi a1] h (some (vi x.1)) x.2 := by
  refine Ev.met rfl rfl (Nat.le_of_ble_eq_true rfl) ?_
  show Ev Γ m_HF_end 0 [some (vr 0 0 0), some (vi a1)] [] h _ _
  obtain ⟨r, hr⟩ : ∃ r : Option AV, r = some (vi x.1) := ⟨_, rfl⟩
  obtain ⟨h', hh⟩ : ∃ h' : AH, h' = x.2 := ⟨_, rfl⟩
  have hP : r = some (vi x.1) ∧ h' = x.2 := ⟨hr, hh⟩
  suffices hS : Ev Γ m_HF_end 0 [some (vr 0 0 0), some (vi a1)] [] h r h' by rw [hr, hh] at hS; exact hS
  clear hr hh
  unfold f_HF_end at hx
  refine Ev.blk (pc' := 1) (lv' := [some (vr 0 0 0), some (vi a1)]) (st' := [vi a1]) (h' := h) 0 1 (Nat.le_of_ble_eq_true rfl) tk_HF_end rfl rfl ⟨trivial, trivial⟩ ?_
  refine Ev.if_lt 1 15 tk_HF_end rfl (by decide) (fun hc1 => ?_) (fun hc1 => ?_)
  · replace hx := ip hc1 hx
    refine Ev.blk (pc' := 16) (lv' := [some (vr 0 0 0), some (vi a1)]) (st' := [vi (ii 0)]) (h' := h) 7 1 (Nat.le_of_ble_eq_true rfl) tk_HF_end rfl rfl ⟨trivial, trivial⟩ ?_
    obtain rfl := Option.some.inj hx
    obtain ⟨rfl, rfl⟩ := hP
    exact Ev.zret 8 tk_HF_end rfl rfl rfl
  · replace hx := ia hc1 hx
    refine Ev.blk (pc' := 12) (lv' := [some (vr 0 0 0), some (vi a1)]) (st' := [vi (h.1 1 1), vi a1]) (h' := h) 2 4 (Nat.le_of_ble_eq_true rfl) tk_HF_end rfl rfl ⟨trivial, trivial, trivial, trivial, trivial⟩ ?_
    refine Ev.icmp_le 6 17 tk_HF_end rfl (by decide) (fun hc2 => ?_) (fun hc2 => ?_)
    · replace hx := ip hc2 hx
      refine Ev.blk (pc' := 26) (lv' := [some (vr 0 0 0), some (vi a1)]) (st' := [vi (ii 1)]) (h' := (wI h 1 1 a1)) 9 5 (Nat.le_of_ble_eq_true rfl) tk_HF_end rfl rfl ⟨trivial, trivial, trivial, trivial, trivial, trivial⟩ ?_
      obtain rfl := Option.some.inj hx
      obtain ⟨rfl, rfl⟩ := hP
      exact Ev.zret 14 tk_HF_end rfl rfl rfl
    · replace hx := ia hc2 hx
      refine Ev.blk (pc' := 16) (lv' := [some (vr 0 0 0), some (vi a1)]) (st' := [vi (ii 0)]) (h' := h) 7 1 (Nat.le_of_ble_eq_true rfl) tk_HF_end rfl rfl ⟨trivial, trivial⟩ ?_
      obtain rfl := Option.some.inj hx
      obtain ⟨rfl, rfl⟩ := hP
      exact Ev.zret 8 tk_HF_end rfl rfl rfl
set_option maxRecDepth 4000 in
theorem s_HR_setItem (Γ : AG) (a1 : Int32) (a2 : Int32) (a3 : Int32) (a4 : Int32) (h : AH) (x : AH) (hx : f_HR_setItem a1 a2 a3 a4 h = some x) : MetA Γ m_HR_setItem [vr 2 0 3, vi a1, vi a2, vi a3, vi a4] h (none) x := by
  refine Ev.met rfl rfl (Nat.le_of_ble_eq_true rfl) ?_
  show Ev Γ m_HR_setItem 0 [some (vr 2 0 3), some (vi a1), some (vi a2), some (vi a3), some (vi a4), none] [] h _ _
  obtain ⟨r, hr⟩ : ∃ r : Option AV, r = none := ⟨_, rfl⟩
  obtain ⟨h', hh⟩ : ∃ h' : AH, h' = x := ⟨_, rfl⟩
  have hP : r = none ∧ h' = x := ⟨hr, hh⟩
  suffices hS : Ev Γ m_HR_setItem 0 [some (vr 2 0 3), some (vi a1), some (vi a2), some (vi a3), some (vi a4), none] [] h r h' by rw [hr, hh] at hS; exact hS
  clear hr hh
  unfold f_HR_setItem at hx
  refine Ev.blk (pc' := 15) (lv' := [some (vr 2 0 3), some (vi a1), some (vi a2), some (vi a3), some (vi a4), some (vi ((((a1 * (ii 6)) + a2) * (ii 6)) + a3))]) (st' := [vi ((((a1 * (ii 6)) + a2) * (ii 6)) + a3)]) (h' := h) 0 11 (Nat.le_of_ble_eq_true rfl) tk_HR_setItem rfl rfl ⟨trivial, trivial, trivial, trivial, trivial, trivial, trivial, trivial, trivial, trivial, trivial, trivial⟩ ?_
  refine Ev.if_lt 11 37 tk_HR_setItem rfl (by decide) (fun hc1 => ?_) (fun hc1 => ?_)
  · replace hx := ip hc1 hx
    obtain rfl := Option.some.inj hx
    obtain ⟨rfl, rfl⟩ := hP
    exact Ev.vret 22 tk_HR_setItem rfl rfl
  · replace hx := ia hc1 hx
    refine Ev.blk (pc' := 25) (lv' := [some (vr 2 0 3), some (vi a1), some (vi a2), some (vi a3), some (vi a4), some (vi ((((a1 * (ii 6)) + a2) * (ii 6)) + a3))]) (st' := [vi (ii (180 : Int)), vi ((((a1 * (ii 6)) + a2) * (ii 6)) + a3)]) (h' := h) 12 4 (Nat.le_of_ble_eq_true rfl) tk_HR_setItem rfl rfl ⟨trivial, trivial, trivial, trivial, trivial⟩ ?_
    refine Ev.icmp_ge 16 37 tk_HR_setItem rfl (by decide) (fun hc2 => ?_) (fun hc2 => ?_)
    · replace hx := ip hc2 hx
      obtain rfl := Option.some.inj hx
      obtain ⟨rfl, rfl⟩ := hP
      exact Ev.vret 22 tk_HR_setItem rfl rfl
    · replace hx := ia hc2 hx
      obtain ⟨hg3, hx⟩ := gd hx
      refine Ev.blk (pc' := 37) (lv' := [some (vr 2 0 3), some (vi a1), some (vi a2), some (vi a3), some (vi a4), some (vi ((((a1 * (ii 6)) + a2) * (ii 6)) + a3))]) (st' := []) (h' := (wI h 5 ((((a1 * (ii 6)) + a2) * (ii 6)) + a3).toNatClampNeg a4)) 17 5 (Nat.le_of_ble_eq_true rfl) tk_HR_setItem rfl rfl ⟨trivial, trivial, trivial, trivial, hg3, trivial⟩ ?_
      obtain rfl := Option.some.inj hx
      obtain ⟨rfl, rfl⟩ := hP
      exact Ev.vret 22 tk_HR_setItem rfl rfl
set_option maxRecDepth 4000 in
theorem l_HR_fillWithout_L2 (Γ : AG) : ∀ (n : Nat) (v1 : Int32) (v2 : Int32) (v3 : Int32) (h : AH) (x : AH), HR_fillWithout_L2 n v1 v2 v3 h = some x → ∀ (r : Option AV) (h' : AH), r = none ∧ h' = x → Ev Γ m_HR_fillWithout 2 [some (vr 2 0 3), some (vi v1), some (vi v2), some (vi v3), none] [] h r h' := by
  intro n
  induction n with
  | zero => intro v1 v2 v3 h x hx; cases hx
  | succ n ih =>
    intro v1 v2 v3 h x hx r h' hP
    replace hx : HR_fillWithout_L2_b (HR_fillWithout_L2 n) v1 v2 v3 h = some x := hx
    unfold HR_fillWithout_L2_b at hx
    refine Ev.blk (pc' := 5) (lv' := [some (vr 2 0 3), some (vi v1), some (vi v2), some (vi v3), none]) (st' := [vi (ii 6), vi v3]) (h' := h) 2 2 (Nat.le_of_ble_eq_true rfl) tk_HR_fillWithout rfl rfl ⟨trivial, trivial, trivial⟩ ?_
    refine Ev.icmp_ge 4 49 tk_HR_fillWithout rfl (by decide) (fun hc1 => ?_) (fun hc1 => ?_)
    · replace hx := ip hc1 hx
      obtain rfl := Option.some.inj hx
      obtain ⟨rfl, rfl⟩ := hP
      exact Ev.vret 27 tk_HR_fillWithout rfl rfl
    · replace hx := ia hc1 hx
      refine Ev.blk (pc' := 18) (lv' := [some (vr 2 0 3), some (vi v1), some (vi v2), some (vi v3), some (vi ((v1 * (ii 6)) + v3))]) (st' := [vi ((v1 * (ii 6)) + v3)]) (h' := h) 5 7 (Nat.le_of_ble_eq_true rfl) tk_HR_fillWithout rfl rfl ⟨trivial, trivial, trivial, trivial, trivial, trivial, trivial, trivial⟩ ?_
      obtain ⟨q2, hq2, hx⟩ := bd hx
      have K3 : Ev Γ m_HR_fillWithout 43 [some (vr 2 0 3), some (vi v1), some (vi v2), some (vi v3), none] [] q2 r h' := by
        refine Ev.blk (pc' := 2) (lv' := [some (vr 2 0 3), some (vi v1), some (vi v2), some (vi (v3 + ii 1)), none]) (st' := []) (h' := q2) 25 2 (Nat.le_of_ble_eq_true rfl) tk_HR_fillWithout rfl rfl ⟨trivial, trivial, trivial⟩ ?_
        exact Ev.msk [true, true, true, true, false] (ih v1 v2 (v3 + ii 1) q2 _ hx r h' hP)
      clear hx
      refine Ev.if_lt 12 43 tk_HR_fillWithout rfl (by decide) (fun hc4 => ?_) (fun hc4 => ?_)
      · replace hq2 := ip hc4 hq2
        obtain rfl := Option.some.inj hq2
        exact Ev.msk [true, true, true, true, false] K3
      · replace hq2 := ia hc4 hq2
        refine Ev.blk (pc' := 27) (lv' := [some (vr 2 0 3), some (vi v1), some (vi v2), some (vi v3), some (vi ((v1 * (ii 6)) + v3))]) (st' := [vi (ii ((taL 3) : Int)), vi ((v1 * (ii 6)) + v3)]) (h' := h) 13 3 (Nat.le_of_ble_eq_true rfl) tk_HR_fillWithout rfl rfl ⟨trivial, trivial, trivial, trivial⟩ ?_
        refine Ev.icmp_ge 16 43 tk_HR_fillWithout rfl (by decide) (fun hc5 => ?_) (fun hc5 => ?_)
        · replace hq2 := ip hc5 hq2
          obtain rfl := Option.some.inj hq2
          exact Ev.msk [true, true, true, true, false] K3
        · replace hq2 := ia hc5 hq2
          obtain ⟨hg6, hq2⟩ := gd hq2
          refine Ev.blk (pc' := 40) (lv' := [some (vr 2 0 3), some (vi v1), some (vi v2), some (vi v3), some (vi ((v1 * (ii 6)) + v3))]) (st' := [vi (ii ((am_sta.getD 3 []).getD ((v1 * (ii 6)) + v3).toNatClampNeg 0)), vi v3, vi v2, vi v1, vr 2 0 3]) (h' := h) 17 7 (Nat.le_of_ble_eq_true rfl) tk_HR_fillWithout rfl rfl ⟨trivial, trivial, trivial, trivial, trivial, trivial, hg6, trivial⟩ ?_
          obtain ⟨q1, hq7, hq2⟩ := bd hq2
          refine Ev.callV (ν := m_HR_setItem) (av := [vi v1, vi v2, vi v3, vi (ii ((am_sta.getD 3 []).getD ((v1 * (ii 6)) + v3).toNatClampNeg 0))]) (rest := []) (r1 := none) (h1 := q1) (ci := 2) (nn := 0) (o := 3) 24 4 tk_HR_fillWithout rfl bb_HR_setItem vv_HR_setItem lk_2_112 (by decide) rfl rfl (Or.inl rfl) (Nat.le_of_ble_eq_true rfl) (s_HR_setItem Γ v1 v2 v3 (ii ((am_sta.getD 3 []).getD ((v1 * (ii 6)) + v3).toNatClampNeg 0)) h _ hq7) ?_
          show Ev Γ m_HR_fillWithout 43 [some (vr 2 0 3), some (vi v1), some (vi v2), some (vi v3), some (vi ((v1 * (ii 6)) + v3))] [] q1 r h'
          obtain rfl := Option.some.inj hq2
          exact Ev.msk [true, true, true, true, false] K3
set_option maxRecDepth 4000 in
theorem s_HR_fillWithout (Γ : AG) (a1 : Int32) (a2 : Int32) (h : AH) (x : AH) (hx : f_HR_fillWithout a1 a2 h = some x) : MetA Γ m_HR_fillWithout [vr 2 0 3, vi a1, vi a2] h (none) x := by
  refine Ev.met rfl rfl (Nat.le_of_ble_eq_true rfl) ?_
  show Ev Γ m_HR_fillWithout 0 [some (vr 2 0 3), some (vi a1), some (vi a2), none, none] [] h _ _
  obtain ⟨r, hr⟩ : ∃ r : Option AV, r = none := ⟨_, rfl⟩
  obtain ⟨h', hh⟩ : ∃ h' : AH, h' = x := ⟨_, rfl⟩
  have hP : r = none ∧ h' = x := ⟨hr, hh⟩
  suffices hS : Ev Γ m_HR_fillWithout 0 [some (vr 2 0 3), some (vi a1), some (vi a2), none, none] [] h r h' by rw [hr, hh] at hS; exact hS
  clear hr hh
  unfold f_HR_fillWithout at hx
  refine Ev.blk (pc' := 2) (lv' := [some (vr 2 0 3), some (vi a1), some (vi a2), some (vi (ii 0)), none]) (st' := []) (h' := h) 0 2 (Nat.le_of_ble_eq_true rfl) tk_HR_fillWithout rfl rfl ⟨trivial, trivial, trivial⟩ ?_
  refine Ev.msk [true, true, true, true, false] ?_
  show Ev Γ m_HR_fillWithout 2 [some (vr 2 0 3), some (vi a1), some (vi a2), some (vi (ii 0)), none] [] h r h'
  exact l_HR_fillWithout_L2 Γ FU a1 a2 (ii 0) h _ hx r h' hP
set_option maxRecDepth 4000 in
theorem l_Tape_peek_L0 (Γ : AG) : ∀ (n : Nat) (h : AH) (x : Int32 × AH), Tape_peek_L0 n  h = some x → ∀ (r : Option AV) (h' : AH), r = some (vi x.1) ∧ h' = x.2 → Ev Γ m_Tape_peek 0 [some (vr 1 0 1)] [] h r h' := by
  intro n
  induction n with
  | zero => intro  h x hx; cases hx
  | succ n ih =>
    intro  h x hx r h' hP
    replace hx : Tape_peek_L0_b (Tape_peek_L0 n)  h = some x := hx
    unfold Tape_peek_L0_b at hx
    refine Ev.blk (pc' := 4) (lv' := [some (vr 1 0 1)]) (st' := [vi (h.1 1 2)]) (h' := h) 0 2 (Nat.le_of_ble_eq_true rfl) tk_Tape_peek rfl rfl ⟨trivial, trivial, trivial⟩ ?_
    refine Ev.if_lt 2 67 tk_Tape_peek rfl (by decide) (fun hc1 => ?_) (fun hc1 => ?_)
    · replace hx := ip hc1 hx
      refine Ev.blk (pc' := 68) (lv' := [some (vr 1 0 1)]) (st' := [vi (ii (-1))]) (h' := h) 34 1 (Nat.le_of_ble_eq_true rfl) tk_Tape_peek rfl rfl ⟨trivial, trivial⟩ ?_
      obtain rfl := Option.some.inj hx
      obtain ⟨rfl, rfl⟩ := hP
      exact Ev.iret 35 tk_Tape_peek rfl rfl
    · replace hx := ia hc1 hx
      refine Ev.blk (pc' := 15) (lv' := [some (vr 1 0 1)]) (st' := [vi (h.1 1 1), vi (h.1 1 2)]) (h' := h) 3 4 (Nat.le_of_ble_eq_true rfl) tk_Tape_peek rfl rfl ⟨trivial, trivial, trivial, trivial, trivial⟩ ?_
      refine Ev.icmp_ge 7 67 tk_Tape_peek rfl (by decide) (fun hc2 => ?_) (fun hc2 => ?_)
      · replace hx := ip hc2 hx
        refine Ev.blk (pc' := 68) (lv' := [some (vr 1 0 1)]) (st' := [vi (ii (-1))]) (h' := h) 34 1 (Nat.le_of_ble_eq_true rfl) tk_Tape_peek rfl rfl ⟨trivial, trivial⟩ ?_
        obtain rfl := Option.some.inj hx
        obtain ⟨rfl, rfl⟩ := hP
        exact Ev.iret 35 tk_Tape_peek rfl rfl
      · replace hx := ia hc2 hx
        refine Ev.blk (pc' := 27) (lv' := [some (vr 1 0 1)]) (st' := [vi (ii (240 : Int)), vi (h.1 1 2)]) (h' := h) 8 5 (Nat.le_of_ble_eq_true rfl) tk_Tape_peek rfl rfl ⟨trivial, trivial, trivial, trivial, trivial, trivial⟩ ?_
        refine Ev.icmp_ge 13 67 tk_Tape_peek rfl (by decide) (fun hc3 => ?_) (fun hc3 => ?_)
        · replace hx := ip hc3 hx
          refine Ev.blk (pc' := 68) (lv' := [some (vr 1 0 1)]) (st' := [vi (ii (-1))]) (h' := h) 34 1 (Nat.le_of_ble_eq_true rfl) tk_Tape_peek rfl rfl ⟨trivial, trivial⟩ ?_
          obtain rfl := Option.some.inj hx
          obtain ⟨rfl, rfl⟩ := hP
          exact Ev.iret 35 tk_Tape_peek rfl rfl
        · replace hx := ia hc3 hx
          obtain ⟨hg4, hx⟩ := gd hx
          refine Ev.blk (pc' := 41) (lv' := [some (vr 1 0 1)]) (st' := [vi (ii 32), vi (h.1 2 (h.1 1 2).toNatClampNeg)]) (h' := h) 14 6 (Nat.le_of_ble_eq_true rfl) tk_Tape_peek rfl rfl ⟨trivial, trivial, trivial, trivial, hg4, trivial, trivial⟩ ?_
          refine Ev.icmp_eq 20 54 tk_Tape_peek rfl (by decide) (fun hc5 => ?_) (fun hc5 => ?_)
          · replace hx := ip hc5 hx
            refine Ev.blk (pc' := 0) (lv' := [some (vr 1 0 1)]) (st' := []) (h' := (wI h 1 2 ((h.1 1 2) + (ii 1)))) 27 7 (Nat.le_of_ble_eq_true rfl) tk_Tape_peek rfl rfl ⟨trivial, trivial, trivial, trivial, trivial, trivial, trivial, trivial⟩ ?_
            exact Ev.msk [true] (ih  (wI h 1 2 ((h.1 1 2) + (ii 1))) _ hx r h' hP)
          · replace hx := ia hc5 hx
            obtain ⟨hg6, hx⟩ := gd hx
            refine Ev.blk (pc' := 53) (lv' := [some (vr 1 0 1)]) (st' := [vi (h.1 2 (h.1 1 2).toNatClampNeg)]) (h' := h) 21 5 (Nat.le_of_ble_eq_true rfl) tk_Tape_peek rfl rfl ⟨trivial, trivial, trivial, trivial, hg6, trivial⟩ ?_
            obtain rfl := Option.some.inj hx
            obtain ⟨rfl, rfl⟩ := hP
            exact Ev.iret 26 tk_Tape_peek rfl rfl
set_option maxRecDepth 4000 in
theorem s_Tape_peek (Γ : AG) (h : AH) (x : Int32 × AH) (hx : f_Tape_peek  h = some x) : MetA Γ m_Tape_peek [vr 1 0 1] h (some (vi x.1)) x.2 := by
  refine Ev.met rfl rfl (Nat.le_of_ble_eq_true rfl) ?_
  show Ev Γ m_Tape_peek 0 [some (vr 1 0 1)] [] h _ _
  obtain ⟨r, hr⟩ : ∃ r : Option AV, r = some (vi x.1) := ⟨_, rfl⟩
  obtain ⟨h', hh⟩ : ∃ h' : AH, h' = x.2 := ⟨_, rfl⟩
  have hP : r = some (vi x.1) ∧ h' = x.2 := ⟨hr, hh⟩
  suffices hS : Ev Γ m_Tape_peek 0 [some (vr 1 0 1)] [] h r h' by rw [hr, hh] at hS; exact hS
  clear hr hh
  unfold f_Tape_peek at hx
  refine Ev.msk [true] ?_
  show Ev Γ m_Tape_peek 0 [some (vr 1 0 1)] [] h r h'
  exact l_Tape_peek_L0 Γ FU  h _ hx r h' hP
theorem s_Str_isLatin1 (Γ : AG) (o0 : Nat) (h : AH) : MetA Γ m_Str_isLatin1 [vr 31 0 o0] h (some (vi (p_Str_isLatin1 o0))) h := by
  refine Ev.met rfl rfl (Nat.le_of_ble_eq_true rfl) ?_
  generalize hx : p_Str_isLatin1 o0 = x
  show Ev Γ m_Str_isLatin1 0 [some (vr 31 0 o0)] [] h _ _
  obtain ⟨r, hr⟩ : ∃ r : Option AV, r = some (vi x) := ⟨_, rfl⟩
  obtain ⟨h', hh⟩ : ∃ h' : AH, h' = h := ⟨_, rfl⟩
  have hP : r = some (vi x) ∧ h' = h := ⟨hr, hh⟩
  suffices hS : Ev Γ m_Str_isLatin1 0 [some (vr 31 0 o0)] [] h r h' by rw [hr, hh] at hS; exact hS
  clear hr hh
  unfold p_Str_isLatin1 at hx
  refine Ev.blk (pc' := 3) (lv' := [some (vr 31 0 o0)]) (st' := [vi 1]) (h' := h) 0 1 (Nat.le_of_ble_eq_true rfl) tk_Str_isLatin1 rfl rfl ⟨trivial, trivial⟩ ?_
  refine Ev.if_eq 1 17 tk_Str_isLatin1 rfl (by decide) (fun hc => absurd hc (by decide)) (fun _ => ?_)
  refine Ev.blk (pc' := 10) (lv' := [some (vr 31 0 o0)]) (st' := [vi 0]) (h' := h) 2 2 (Nat.le_of_ble_eq_true rfl) tk_Str_isLatin1 rfl rfl ⟨trivial, trivial, trivial⟩ ?_
  refine Ev.if_ne 4 17 tk_Str_isLatin1 rfl (by decide) (fun hc => absurd hc (by decide)) (fun _ => ?_)
  refine Ev.blk (pc' := 18) (lv' := [some (vr 31 0 o0)]) (st' := [vi (ii 1)]) (h' := h) 5 2 (Nat.le_of_ble_eq_true rfl) tk_Str_isLatin1 rfl rfl ⟨trivial, trivial, trivial⟩ ?_
  subst hx
  obtain ⟨rfl, rfl⟩ := hP
  exact Ev.zret 8 tk_Str_isLatin1 rfl rfl rfl
theorem s_Str_coder (Γ : AG) (o0 : Nat) (h : AH) : MetA Γ m_Str_coder [vr 31 0 o0] h (some (vi (p_Str_coder o0))) h := by
  refine Ev.met rfl rfl (Nat.le_of_ble_eq_true rfl) ?_
  generalize hx : p_Str_coder o0 = x
  show Ev Γ m_Str_coder 0 [some (vr 31 0 o0)] [] h _ _
  obtain ⟨r, hr⟩ : ∃ r : Option AV, r = some (vi x) := ⟨_, rfl⟩
  obtain ⟨h', hh⟩ : ∃ h' : AH, h' = h := ⟨_, rfl⟩
  have hP : r = some (vi x) ∧ h' = h := ⟨hr, hh⟩
  suffices hS : Ev Γ m_Str_coder 0 [some (vr 31 0 o0)] [] h r h' by rw [hr, hh] at hS; exact hS
  clear hr hh
  unfold p_Str_coder at hx
  refine Ev.blk (pc' := 3) (lv' := [some (vr 31 0 o0)]) (st' := [vi 1]) (h' := h) 0 1 (Nat.le_of_ble_eq_true rfl) tk_Str_coder rfl rfl ⟨trivial, trivial⟩ ?_
  refine Ev.if_eq 1 13 tk_Str_coder rfl (by decide) (fun hc => absurd hc (by decide)) (fun _ => ?_)
  refine Ev.blk (pc' := 14) (lv' := [some (vr 31 0 o0)]) (st' := [vi 0]) (h' := h) 2 3 (Nat.le_of_ble_eq_true rfl) tk_Str_coder rfl rfl ⟨trivial, trivial, trivial, trivial⟩ ?_
  subst hx
  obtain ⟨rfl, rfl⟩ := hP
  exact Ev.zret 6 tk_Str_coder rfl rfl rfl
theorem s_Str_length (Γ : AG) (o0 : Nat) (h : AH) : MetA Γ m_Str_length [vr 31 0 o0] h (some (vi (p_Str_length o0))) h := by
  refine Ev.met rfl rfl (Nat.le_of_ble_eq_true rfl) ?_
  generalize hx : p_Str_length o0 = x
  show Ev Γ m_Str_length 0 [some (vr 31 0 o0)] [] h _ _
  obtain ⟨r, hr⟩ : ∃ r : Option AV, r = some (vi x) := ⟨_, rfl⟩
  obtain ⟨h', hh⟩ : ∃ h' : AH, h' = h := ⟨_, rfl⟩
  have hP : r = some (vi x) ∧ h' = h := ⟨hr, hh⟩
  suffices hS : Ev Γ m_Str_length 0 [some (vr 31 0 o0)] [] h r h' by rw [hr, hh] at hS; exact hS
  clear hr hh
  unfold p_Str_length at hx
  refine Ev.blk (pc' := 6) (lv' := [some (vr 31 0 o0)]) (st' := [vr 31 0 o0, vi (ii ((stL o0) : Int))]) (h' := h) 0 4 (Nat.le_of_ble_eq_true rfl) tk_Str_length rfl rfl ⟨trivial, trivial, trivial, trivial, trivial⟩ ?_
  refine Ev.callV (ν := m_Str_coder) (av := []) (rest := [vi (ii ((stL o0) : Int))]) (r1 := some (vi (p_Str_coder o0))) (h1 := h) (ci := 31) (nn := 0) (o := o0) 4 0 tk_Str_length rfl bb_Str_coder vv_Str_coder lk_13_335 (by decide) rfl rfl (Or.inr ⟨rfl, rfl⟩) (Nat.le_of_ble_eq_true rfl) (s_Str_coder Γ o0 h) ?_
  show Ev Γ m_Str_length 9 [some (vr 31 0 o0)] [vi (p_Str_coder o0), vi (ii ((stL o0) : Int))] h r h'
  refine Ev.blk (pc' := 10) (lv' := [some (vr 31 0 o0)]) (st' := [vi (shrI (ii ((stL o0) : Int)) (p_Str_coder o0))]) (h' := h) 5 1 (Nat.le_of_ble_eq_true rfl) tk_Str_length rfl rfl ⟨trivial, trivial⟩ ?_
  subst hx
  obtain ⟨rfl, rfl⟩ := hP
  exact Ev.iret 6 tk_Str_length rfl rfl
theorem s_Lat_canEncode (Γ : AG) (a0 : Int32) (h : AH) : MetA Γ m_Lat_canEncode [vi a0] h (some (vi (p_Lat_canEncode a0))) h := by
  refine Ev.met rfl rfl (Nat.le_of_ble_eq_true rfl) ?_
  generalize hx : p_Lat_canEncode a0 = x
  show Ev Γ m_Lat_canEncode 0 [some (vi a0)] [] h _ _
  obtain ⟨r, hr⟩ : ∃ r : Option AV, r = some (vi x) := ⟨_, rfl⟩
  obtain ⟨h', hh⟩ : ∃ h' : AH, h' = h := ⟨_, rfl⟩
  have hP : r = some (vi x) ∧ h' = h := ⟨hr, hh⟩
  suffices hS : Ev Γ m_Lat_canEncode 0 [some (vi a0)] [] h r h' by rw [hr, hh] at hS; exact hS
  clear hr hh
  unfold p_Lat_canEncode at hx
  refine Ev.blk (pc' := 1) (lv' := [some (vi a0)]) (st' := [vi a0]) (h' := h) 0 1 (Nat.le_of_ble_eq_true rfl) tk_Lat_canEncode rfl rfl ⟨trivial, trivial⟩ ?_
  refine Ev.if_lt 1 15 tk_Lat_canEncode rfl (by decide) (fun hc1 => ?_) (fun hc1 => ?_)
  · replace hx := ip hc1 hx
    refine Ev.blk (pc' := 16) (lv' := [some (vi a0)]) (st' := [vi (ii 0)]) (h' := h) 7 1 (Nat.le_of_ble_eq_true rfl) tk_Lat_canEncode rfl rfl ⟨trivial, trivial⟩ ?_
    subst hx
    obtain ⟨rfl, rfl⟩ := hP
    exact Ev.zret 8 tk_Lat_canEncode rfl rfl rfl
  · replace hx := ia hc1 hx
    refine Ev.blk (pc' := 8) (lv' := [some (vi a0)]) (st' := [vi (ii 255), vi a0]) (h' := h) 2 2 (Nat.le_of_ble_eq_true rfl) tk_Lat_canEncode rfl rfl ⟨trivial, trivial, trivial⟩ ?_
    refine Ev.icmp_gt 4 15 tk_Lat_canEncode rfl (by decide) (fun hc2 => ?_) (fun hc2 => ?_)
    · replace hx := ip hc2 hx
      refine Ev.blk (pc' := 16) (lv' := [some (vi a0)]) (st' := [vi (ii 0)]) (h' := h) 7 1 (Nat.le_of_ble_eq_true rfl) tk_Lat_canEncode rfl rfl ⟨trivial, trivial⟩ ?_
      subst hx
      obtain ⟨rfl, rfl⟩ := hP
      exact Ev.zret 8 tk_Lat_canEncode rfl rfl rfl
    · replace hx := ia hc2 hx
      refine Ev.blk (pc' := 16) (lv' := [some (vi a0)]) (st' := [vi (ii 1)]) (h' := h) 5 2 (Nat.le_of_ble_eq_true rfl) tk_Lat_canEncode rfl rfl ⟨trivial, trivial, trivial⟩ ?_
      subst hx
      obtain ⟨rfl, rfl⟩ := hP
      exact Ev.zret 8 tk_Lat_canEncode rfl rfl rfl
set_option maxRecDepth 4000 in
theorem l_Lat_indexOfChar_L7 (Γ : AG) : ∀ (n : Nat) (n0 : Nat) (o0 : Nat) (v3 : Int32) (v4 : Int32) (v5 : Int32) (h : AH) (x : Int32), Lat_indexOfChar_L7 n n0 o0 v3 v4 v5 h = some x → ∀ (r : Option AV) (h' : AH), r = some (vi x) ∧ h' = h → Ev Γ m_Lat_indexOfChar 7 [some (vr 32 n0 o0), none, none, some (vi v3), some (vi v4), some (vi v5)] [] h r h' := by
  intro n
  induction n with
  | zero => intro n0 o0 v3 v4 v5 h x hx; cases hx
  | succ n ih =>
    intro n0 o0 v3 v4 v5 h x hx r h' hP
    replace hx : Lat_indexOfChar_L7_b (Lat_indexOfChar_L7 n) n0 o0 v3 v4 v5 h = some x := hx
    unfold Lat_indexOfChar_L7_b at hx
    refine Ev.blk (pc' := 10) (lv' := [some (vr 32 n0 o0), none, none, some (vi v3), some (vi v4), some (vi v5)]) (st' := [vi v3, vi v5]) (h' := h) 5 2 (Nat.le_of_ble_eq_true rfl) tk_Lat_indexOfChar rfl rfl ⟨trivial, trivial, trivial⟩ ?_
    refine Ev.icmp_ge 7 31 tk_Lat_indexOfChar rfl (by decide) (fun hc1 => ?_) (fun hc1 => ?_)
    · replace hx := ip hc1 hx
      refine Ev.blk (pc' := 32) (lv' := [some (vr 32 n0 o0), none, none, some (vi v3), some (vi v4), some (vi v5)]) (st' := [vi (ii (-1))]) (h' := h) 17 1 (Nat.le_of_ble_eq_true rfl) tk_Lat_indexOfChar rfl rfl ⟨trivial, trivial⟩ ?_
      obtain rfl := Option.some.inj hx
      obtain ⟨rfl, rfl⟩ := hP
      exact Ev.iret 18 tk_Lat_indexOfChar rfl rfl
    · replace hx := ia hc1 hx
      obtain ⟨hg2, hx⟩ := gd hx
      refine Ev.blk (pc' := 19) (lv' := [some (vr 32 n0 o0), none, none, some (vi v3), some (vi v4), some (vi v5)]) (st' := [vi v4, vi ((am_str.getD o0 []).getD (v5).toNatClampNeg 0)]) (h' := h) 8 4 (Nat.le_of_ble_eq_true rfl) tk_Lat_indexOfChar rfl rfl ⟨trivial, trivial, hg2, trivial, trivial⟩ ?_
      refine Ev.icmp_ne 12 25 tk_Lat_indexOfChar rfl (by decide) (fun hc3 => ?_) (fun hc3 => ?_)
      · replace hx := ia hc3 hx
        refine Ev.blk (pc' := 7) (lv' := [some (vr 32 n0 o0), none, none, some (vi v3), some (vi v4), some (vi (v5 + ii 1))]) (st' := []) (h' := h) 15 2 (Nat.le_of_ble_eq_true rfl) tk_Lat_indexOfChar rfl rfl ⟨trivial, trivial, trivial⟩ ?_
        exact Ev.msk [true, false, false, true, true, true] (ih n0 o0 v3 v4 (v5 + ii 1) h _ hx r h' hP)
      · replace hx := ip hc3 hx
        refine Ev.blk (pc' := 24) (lv' := [some (vr 32 n0 o0), none, none, some (vi v3), some (vi v4), some (vi v5)]) (st' := [vi v5]) (h' := h) 13 1 (Nat.le_of_ble_eq_true rfl) tk_Lat_indexOfChar rfl rfl ⟨trivial, trivial⟩ ?_
        obtain rfl := Option.some.inj hx
        obtain ⟨rfl, rfl⟩ := hP
        exact Ev.iret 14 tk_Lat_indexOfChar rfl rfl
set_option maxRecDepth 4000 in
theorem s_Lat_indexOfChar (Γ : AG) (n0 : Nat) (o0 : Nat) (a1 : Int32) (a2 : Int32) (a3 : Int32) (h : AH) (x : Int32) (hx : f_Lat_indexOfChar n0 o0 a1 a2 a3 h = some x) : MetA Γ m_Lat_indexOfChar [vr 32 n0 o0, vi a1, vi a2, vi a3] h (some (vi x)) h := by
  refine Ev.met rfl rfl (Nat.le_of_ble_eq_true rfl) ?_
  show Ev Γ m_Lat_indexOfChar 0 [some (vr 32 n0 o0), some (vi a1), some (vi a2), some (vi a3), none, none] [] h _ _
  obtain ⟨r, hr⟩ : ∃ r : Option AV, r = some (vi x) := ⟨_, rfl⟩
  obtain ⟨h', hh⟩ : ∃ h' : AH, h' = h := ⟨_, rfl⟩
  have hP : r = some (vi x) ∧ h' = h := ⟨hr, hh⟩
  suffices hS : Ev Γ m_Lat_indexOfChar 0 [some (vr 32 n0 o0), some (vi a1), some (vi a2), some (vi a3), none, none] [] h r h' by rw [hr, hh] at hS; exact hS
  clear hr hh
  unfold f_Lat_indexOfChar at hx
  refine Ev.blk (pc' := 7) (lv' := [some (vr 32 n0 o0), some (vi a1), some (vi a2), some (vi a3), some (vi a1.toInt8.toInt32), some (vi a2)]) (st' := []) (h' := h) 0 5 (Nat.le_of_ble_eq_true rfl) tk_Lat_indexOfChar rfl rfl ⟨trivial, trivial, trivial, trivial, trivial, trivial⟩ ?_
  refine Ev.msk [true, false, false, true, true, true] ?_
  show Ev Γ m_Lat_indexOfChar 7 [some (vr 32 n0 o0), none, none, some (vi a3), some (vi a1.toInt8.toInt32), some (vi a2)] [] h r h'
  exact l_Lat_indexOfChar_L7 Γ FU n0 o0 a3 a1.toInt8.toInt32 a2 h _ hx r h' hP
set_option maxRecDepth 4000 in
theorem s_Lat_indexOf (Γ : AG) (n0 : Nat) (o0 : Nat) (a1 : Int32) (a2 : Int32) (a3 : Int32) (h : AH) (x : Int32) (hx : f_Lat_indexOf n0 o0 a1 a2 a3 h = some x) : MetA Γ m_Lat_indexOf [vr 32 n0 o0, vi a1, vi a2, vi a3] h (some (vi x)) h := by
  refine Ev.met rfl rfl (Nat.le_of_ble_eq_true rfl) ?_
  show Ev Γ m_Lat_indexOf 0 [some (vr 32 n0 o0), some (vi a1), some (vi a2), some (vi a3)] [] h _ _
  obtain ⟨r, hr⟩ : ∃ r : Option AV, r = some (vi x) := ⟨_, rfl⟩
  obtain ⟨h', hh⟩ : ∃ h' : AH, h' = h := ⟨_, rfl⟩
  have hP : r = some (vi x) ∧ h' = h := ⟨hr, hh⟩
  suffices hS : Ev Γ m_Lat_indexOf 0 [some (vr 32 n0 o0), some (vi a1), some (vi a2), some (vi a3)] [] h r h' by rw [hr, hh] at hS; exact hS
  clear hr hh
  unfold f_Lat_indexOf at hx
  refine Ev.blk (pc' := 1) (lv' := [some (vr 32 n0 o0), some (vi a1), some (vi a2), some (vi a3)]) (st' := [vi a1]) (h' := h) 0 1 (Nat.le_of_ble_eq_true rfl) tk_Lat_indexOf rfl rfl ⟨trivial, trivial⟩ ?_
  refine Ev.callS (ν := m_Lat_canEncode) (av := [vi a1]) (rest := []) (r1 := some (vi (p_Lat_canEncode a1))) (h1 := h) 1 1 tk_Lat_indexOf rfl bb_Lat_canEncode vv_Lat_canEncode lk_14_88 (by decide) rfl rfl (Nat.le_of_ble_eq_true rfl) (s_Lat_canEncode Γ a1 h) ?_
  show Ev Γ m_Lat_indexOf 4 [some (vr 32 n0 o0), some (vi a1), some (vi a2), some (vi a3)] [vi (p_Lat_canEncode a1)] h r h'
  refine Ev.if_ne 2 9 tk_Lat_indexOf rfl (by decide) (fun hc1 => ?_) (fun hc1 => ?_)
  · replace hx := ia hc1 hx
    refine Ev.blk (pc' := 11) (lv' := [some (vr 32 n0 o0), some (vi a1), some (vi a2), some (vi a3)]) (st' := [vi (ii 0), vi a2]) (h' := h) 5 2 (Nat.le_of_ble_eq_true rfl) tk_Lat_indexOf rfl rfl ⟨trivial, trivial, trivial⟩ ?_
    refine Ev.mmax (rest := []) 7 tk_Lat_indexOf rfl lk_14_92 (by decide) (Nat.le_of_ble_eq_true rfl) ?_
    show Ev Γ m_Lat_indexOf 14 [some (vr 32 n0 o0), some (vi a1), some (vi a2), some (vi a3)] [vi (p_Math_max a2 (ii 0))] h r h'
    refine Ev.blk (pc' := 18) (lv' := [some (vr 32 n0 o0), some (vi a1), some (vi (p_Math_max a2 (ii 0))), some (vi a3)]) (st' := [vi (ii (n0 : Int)), vi a3]) (h' := h) 8 4 (Nat.le_of_ble_eq_true rfl) tk_Lat_indexOf rfl rfl ⟨trivial, trivial, trivial, trivial, trivial⟩ ?_
    refine Ev.mmin (rest := []) 12 tk_Lat_indexOf rfl lk_14_38 (by decide) (Nat.le_of_ble_eq_true rfl) ?_
    show Ev Γ m_Lat_indexOf 21 [some (vr 32 n0 o0), some (vi a1), some (vi (p_Math_max a2 (ii 0))), some (vi a3)] [vi (p_Math_min a3 (ii (n0 : Int)))] h r h'
    refine Ev.blk (pc' := 24) (lv' := [some (vr 32 n0 o0), some (vi a1), some (vi (p_Math_max a2 (ii 0))), some (vi (p_Math_min a3 (ii (n0 : Int))))]) (st' := [vi (p_Math_min a3 (ii (n0 : Int))), vi (p_Math_max a2 (ii 0))]) (h' := h) 13 3 (Nat.le_of_ble_eq_true rfl) tk_Lat_indexOf rfl rfl ⟨trivial, trivial, trivial, trivial⟩ ?_
    refine Ev.icmp_lt 16 29 tk_Lat_indexOf rfl (by decide) (fun hc2 => ?_) (fun hc2 => ?_)
    · replace hx := ip hc2 hx
      refine Ev.blk (pc' := 33) (lv' := [some (vr 32 n0 o0), some (vi a1), some (vi (p_Math_max a2 (ii 0))), some (vi (p_Math_min a3 (ii (n0 : Int))))]) (st' := [vi (p_Math_min a3 (ii (n0 : Int))), vi (p_Math_max a2 (ii 0)), vi a1, vr 32 n0 o0]) (h' := h) 19 4 (Nat.le_of_ble_eq_true rfl) tk_Lat_indexOf rfl rfl ⟨trivial, trivial, trivial, trivial, trivial⟩ ?_
      obtain ⟨q1, hq3, hx⟩ := bd hx
      refine Ev.callS (ν := m_Lat_indexOfChar) (av := [vr 32 n0 o0, vi a1, vi (p_Math_max a2 (ii 0)), vi (p_Math_min a3 (ii (n0 : Int)))]) (rest := []) (r1 := some (vi q1)) (h1 := h) 23 4 tk_Lat_indexOf rfl bb_Lat_indexOfChar vv_Lat_indexOfChar lk_14_95 (by decide) rfl rfl (Nat.le_of_ble_eq_true rfl) (s_Lat_indexOfChar Γ n0 o0 a1 (p_Math_max a2 (ii 0)) (p_Math_min a3 (ii (n0 : Int))) h _ hq3) ?_
      show Ev Γ m_Lat_indexOf 36 [some (vr 32 n0 o0), some (vi a1), some (vi (p_Math_max a2 (ii 0))), some (vi (p_Math_min a3 (ii (n0 : Int))))] [vi q1] h r h'
      obtain rfl := Option.some.inj hx
      obtain ⟨rfl, rfl⟩ := hP
      exact Ev.iret 24 tk_Lat_indexOf rfl rfl
    · replace hx := ia hc2 hx
      refine Ev.blk (pc' := 28) (lv' := [some (vr 32 n0 o0), some (vi a1), some (vi (p_Math_max a2 (ii 0))), some (vi (p_Math_min a3 (ii (n0 : Int))))]) (st' := [vi (ii (-1))]) (h' := h) 17 1 (Nat.le_of_ble_eq_true rfl) tk_Lat_indexOf rfl rfl ⟨trivial, trivial⟩ ?_
      obtain rfl := Option.some.inj hx
      obtain ⟨rfl, rfl⟩ := hP
      exact Ev.iret 18 tk_Lat_indexOf rfl rfl
  · replace hx := ip hc1 hx
    refine Ev.blk (pc' := 8) (lv' := [some (vr 32 n0 o0), some (vi a1), some (vi a2), some (vi a3)]) (st' := [vi (ii (-1))]) (h' := h) 3 1 (Nat.le_of_ble_eq_true rfl) tk_Lat_indexOf rfl rfl ⟨trivial, trivial⟩ ?_
    obtain rfl := Option.some.inj hx
    obtain ⟨rfl, rfl⟩ := hP
    exact Ev.iret 4 tk_Lat_indexOf rfl rfl
set_option maxRecDepth 4000 in
theorem s_Str_indexOf2 (Γ : AG) (o0 : Nat) (a1 : Int32) (a2 : Int32) (h : AH) (x : Int32) (hx : f_Str_indexOf2 o0 a1 a2 h = some x) : MetA Γ m_Str_indexOf2 [vr 31 0 o0, vi a1, vi a2] h (some (vi x)) h := by
  refine Ev.met rfl rfl (Nat.le_of_ble_eq_true rfl) ?_
  show Ev Γ m_Str_indexOf2 0 [some (vr 31 0 o0), some (vi a1), some (vi a2)] [] h _ _
  obtain ⟨r, hr⟩ : ∃ r : Option AV, r = some (vi x) := ⟨_, rfl⟩
  obtain ⟨h', hh⟩ : ∃ h' : AH, h' = h := ⟨_, rfl⟩
  have hP : r = some (vi x) ∧ h' = h := ⟨hr, hh⟩
  suffices hS : Ev Γ m_Str_indexOf2 0 [some (vr 31 0 o0), some (vi a1), some (vi a2)] [] h r h' by rw [hr, hh] at hS; exact hS
  clear hr hh
  unfold f_Str_indexOf2 at hx
  refine Ev.blk (pc' := 1) (lv' := [some (vr 31 0 o0), some (vi a1), some (vi a2)]) (st' := [vr 31 0 o0]) (h' := h) 0 1 (Nat.le_of_ble_eq_true rfl) tk_Str_indexOf2 rfl rfl ⟨trivial, trivial⟩ ?_
  refine Ev.callV (ν := m_Str_isLatin1) (av := []) (rest := []) (r1 := some (vi (p_Str_isLatin1 o0))) (h1 := h) (ci := 31) (nn := 0) (o := o0) 1 0 tk_Str_indexOf2 rfl bb_Str_isLatin1 vv_Str_isLatin1 lk_13_492 (by decide) rfl rfl (Or.inr ⟨rfl, rfl⟩) (Nat.le_of_ble_eq_true rfl) (s_Str_isLatin1 Γ o0 h) ?_
  show Ev Γ m_Str_indexOf2 4 [some (vr 31 0 o0), some (vi a1), some (vi a2)] [vi (p_Str_isLatin1 o0)] h r h'
  refine Ev.if_eq 2 23 tk_Str_indexOf2 rfl (by decide) (fun hc1 => ?_) (fun hc1 => ?_)
  · replace hx := ip hc1 hx
    refine Ev.blk (pc' := 30) (lv' := [some (vr 31 0 o0), some (vi a1), some (vi a2)]) (st' := [vr 31 0 o0, vi a2, vi a1, vr 32 (stL o0) o0]) (h' := h) 11 5 (Nat.le_of_ble_eq_true rfl) tk_Str_indexOf2 rfl rfl ⟨trivial, trivial, trivial, trivial, trivial, trivial⟩ ?_
    refine Ev.callV (ν := m_Str_length) (av := []) (rest := [vi a2, vi a1, vr 32 (stL o0) o0]) (r1 := some (vi (p_Str_length o0))) (h1 := h) (ci := 31) (nn := 0) (o := o0) 16 0 tk_Str_indexOf2 rfl bb_Str_length vv_Str_length lk_13_505 (by decide) rfl rfl (Or.inr ⟨rfl, rfl⟩) (Nat.le_of_ble_eq_true rfl) (s_Str_length Γ o0 h) ?_
    show Ev Γ m_Str_indexOf2 33 [some (vr 31 0 o0), some (vi a1), some (vi a2)] [vi (p_Str_length o0), vi a2, vi a1, vr 32 (stL o0) o0] h r h'
    cases hx
  · replace hx := ia hc1 hx
    refine Ev.blk (pc' := 14) (lv' := [some (vr 31 0 o0), some (vi a1), some (vi a2)]) (st' := [vr 31 0 o0, vi a2, vi a1, vr 32 (stL o0) o0]) (h' := h) 3 5 (Nat.le_of_ble_eq_true rfl) tk_Str_indexOf2 rfl rfl ⟨trivial, trivial, trivial, trivial, trivial, trivial⟩ ?_
    refine Ev.callV (ν := m_Str_length) (av := []) (rest := [vi a2, vi a1, vr 32 (stL o0) o0]) (r1 := some (vi (p_Str_length o0))) (h1 := h) (ci := 31) (nn := 0) (o := o0) 8 0 tk_Str_indexOf2 rfl bb_Str_length vv_Str_length lk_13_505 (by decide) rfl rfl (Or.inr ⟨rfl, rfl⟩) (Nat.le_of_ble_eq_true rfl) (s_Str_length Γ o0 h) ?_
    show Ev Γ m_Str_indexOf2 17 [some (vr 31 0 o0), some (vi a1), some (vi a2)] [vi (p_Str_length o0), vi a2, vi a1, vr 32 (stL o0) o0] h r h'
    obtain ⟨q1, hq2, hx⟩ := bd hx
    refine Ev.callS (ν := m_Lat_indexOf) (av := [vr 32 (stL o0) o0, vi a1, vi a2, vi (p_Str_length o0)]) (rest := []) (r1 := some (vi q1)) (h1 := h) 9 4 tk_Str_indexOf2 rfl bb_Lat_indexOf vv_Lat_indexOf lk_13_637 (by decide) rfl rfl (Nat.le_of_ble_eq_true rfl) (s_Lat_indexOf Γ (stL o0) o0 a1 a2 (p_Str_length o0) h _ hq2) ?_
    show Ev Γ m_Str_indexOf2 20 [some (vr 31 0 o0), some (vi a1), some (vi a2)] [vi q1] h r h'
    refine Ev.blk (pc' := 36) (lv' := [some (vr 31 0 o0), some (vi a1), some (vi a2)]) (st' := [vi q1]) (h' := h) 10 1 (Nat.le_of_ble_eq_true rfl) tk_Str_indexOf2 rfl rfl ⟨trivial, trivial⟩ ?_
    obtain rfl := Option.some.inj hx
    obtain ⟨rfl, rfl⟩ := hP
    exact Ev.iret 18 tk_Str_indexOf2 rfl rfl
set_option maxRecDepth 4000 in
theorem s_Str_indexOf (Γ : AG) (o0 : Nat) (a1 : Int32) (h : AH) (x : Int32) (hx : f_Str_indexOf o0 a1 h = some x) : MetA Γ m_Str_indexOf [vr 31 0 o0, vi a1] h (some (vi x)) h := by
  refine Ev.met rfl rfl (Nat.le_of_ble_eq_true rfl) ?_
  show Ev Γ m_Str_indexOf 0 [some (vr 31 0 o0), some (vi a1)] [] h _ _
  obtain ⟨r, hr⟩ : ∃ r : Option AV, r = some (vi x) := ⟨_, rfl⟩
  obtain ⟨h', hh⟩ : ∃ h' : AH, h' = h := ⟨_, rfl⟩
  have hP : r = some (vi x) ∧ h' = h := ⟨hr, hh⟩
  suffices hS : Ev Γ m_Str_indexOf 0 [some (vr 31 0 o0), some (vi a1)] [] h r h' by rw [hr, hh] at hS; exact hS
  clear hr hh
  unfold f_Str_indexOf at hx
  refine Ev.blk (pc' := 3) (lv' := [some (vr 31 0 o0), some (vi a1)]) (st' := [vi (ii 0), vi a1, vr 31 0 o0]) (h' := h) 0 3 (Nat.le_of_ble_eq_true rfl) tk_Str_indexOf rfl rfl ⟨trivial, trivial, trivial, trivial⟩ ?_
  obtain ⟨q1, hq1, hx⟩ := bd hx
  refine Ev.callV (ν := m_Str_indexOf2) (av := [vi a1, vi (ii 0)]) (rest := []) (r1 := some (vi q1)) (h1 := h) (ci := 31) (nn := 0) (o := o0) 3 2 tk_Str_indexOf rfl bb_Str_indexOf2 vv_Str_indexOf2 lk_13_633 (by decide) rfl rfl (Or.inr ⟨rfl, rfl⟩) (Nat.le_of_ble_eq_true rfl) (s_Str_indexOf2 Γ o0 a1 (ii 0) h _ hq1) ?_
  show Ev Γ m_Str_indexOf 6 [some (vr 31 0 o0), some (vi a1)] [vi q1] h r h'
  obtain rfl := Option.some.inj hx
  obtain ⟨rfl, rfl⟩ := hP
  exact Ev.iret 4 tk_Str_indexOf rfl rfl
set_option maxRecDepth 4000 in
theorem s_HF_placeIn (Γ : AG) (o0 : Nat) (a1 : Int32) (h : AH) (x : Int32) (hx : f_HF_placeIn o0 a1 h = some x) : MetA Γ m_HF_placeIn [vr 31 0 o0, vi a1] h (some (vi x)) h := by
  refine Ev.met rfl rfl (Nat.le_of_ble_eq_true rfl) ?_
  show Ev Γ m_HF_placeIn 0 [some (vr 31 0 o0), some (vi a1)] [] h _ _
  obtain ⟨r, hr⟩ : ∃ r : Option AV, r = some (vi x) := ⟨_, rfl⟩
  obtain ⟨h', hh⟩ : ∃ h' : AH, h' = h := ⟨_, rfl⟩
  have hP : r = some (vi x) ∧ h' = h := ⟨hr, hh⟩
  suffices hS : Ev Γ m_HF_placeIn 0 [some (vr 31 0 o0), some (vi a1)] [] h r h' by rw [hr, hh] at hS; exact hS
  clear hr hh
  unfold f_HF_placeIn at hx
  refine Ev.blk (pc' := 1) (lv' := [some (vr 31 0 o0), some (vi a1)]) (st' := [vi a1]) (h' := h) 0 1 (Nat.le_of_ble_eq_true rfl) tk_HF_placeIn rfl rfl ⟨trivial, trivial⟩ ?_
  refine Ev.if_ge 1 8 tk_HF_placeIn rfl (by decide) (fun hc1 => ?_) (fun hc1 => ?_)
  · replace hx := ip hc1 hx
    refine Ev.blk (pc' := 11) (lv' := [some (vr 31 0 o0), some (vi a1)]) (st' := [vi (chI a1), vr 31 0 o0]) (h' := h) 4 3 (Nat.le_of_ble_eq_true rfl) tk_HF_placeIn rfl rfl ⟨trivial, trivial, trivial, trivial⟩ ?_
    obtain ⟨q1, hq2, hx⟩ := bd hx
    refine Ev.callV (ν := m_Str_indexOf) (av := [vi (chI a1)]) (rest := []) (r1 := some (vi q1)) (h1 := h) (ci := 31) (nn := 0) (o := o0) 7 1 tk_HF_placeIn rfl bb_Str_indexOf vv_Str_indexOf lk_0_414 (by decide) rfl rfl (Or.inr ⟨rfl, rfl⟩) (Nat.le_of_ble_eq_true rfl) (s_Str_indexOf Γ o0 (chI a1) h _ hq2) ?_
    show Ev Γ m_HF_placeIn 14 [some (vr 31 0 o0), some (vi a1)] [vi q1] h r h'
    obtain rfl := Option.some.inj hx
    obtain ⟨rfl, rfl⟩ := hP
    exact Ev.iret 8 tk_HF_placeIn rfl rfl
  · replace hx := ia hc1 hx
    refine Ev.blk (pc' := 14) (lv' := [some (vr 31 0 o0), some (vi a1)]) (st' := [vi (ii (-1))]) (h' := h) 2 2 (Nat.le_of_ble_eq_true rfl) tk_HF_placeIn rfl rfl ⟨trivial, trivial, trivial⟩ ?_
    obtain rfl := Option.some.inj hx
    obtain ⟨rfl, rfl⟩ := hP
    exact Ev.iret 8 tk_HF_placeIn rfl rfl
theorem s_HR_lettersOf (Γ : AG) (a0 : Int32) (h : AH) : MetA Γ m_HR_lettersOf [vi a0] h (some (vr 31 0 (p_HR_lettersOf a0))) h := by
  refine Ev.met rfl rfl (Nat.le_of_ble_eq_true rfl) ?_
  generalize hx : p_HR_lettersOf a0 = x
  show Ev Γ m_HR_lettersOf 0 [some (vi a0)] [] h _ _
  obtain ⟨r, hr⟩ : ∃ r : Option AV, r = some (vr 31 0 x) := ⟨_, rfl⟩
  obtain ⟨h', hh⟩ : ∃ h' : AH, h' = h := ⟨_, rfl⟩
  have hP : r = some (vr 31 0 x) ∧ h' = h := ⟨hr, hh⟩
  suffices hS : Ev Γ m_HR_lettersOf 0 [some (vi a0)] [] h r h' by rw [hr, hh] at hS; exact hS
  clear hr hh
  unfold p_HR_lettersOf at hx
  refine Ev.blk (pc' := 1) (lv' := [some (vi a0)]) (st' := [vi a0]) (h' := h) 0 1 (Nat.le_of_ble_eq_true rfl) tk_HR_lettersOf rfl rfl ⟨trivial, trivial⟩ ?_
  by_cases hc1 : a0 = ii 0
  · replace hx := ip hc1 hx
    refine Ev.tabIn (off := 31) 1 32 0 tk_HR_lettersOf rfl hc1 (by decide) (by decide) ?_
    refine Ev.blk (pc' := 34) (lv' := [some (vi a0)]) (st' := [vr 31 0 1]) (h' := h) 2 1 (Nat.le_of_ble_eq_true rfl) tk_HR_lettersOf rfl rfl ⟨trivial, trivial⟩ ?_
    subst hx
    obtain ⟨rfl, rfl⟩ := hP
    exact Ev.aret 3 tk_HR_lettersOf rfl rfl (Or.inl ⟨_, rfl⟩)
  replace hx := ia hc1 hx
  by_cases hc2 : a0 = ii 1
  · replace hx := ip hc2 hx
    refine Ev.tabIn (off := 34) 1 35 1 tk_HR_lettersOf rfl hc2 (by decide) (by decide) ?_
    refine Ev.blk (pc' := 37) (lv' := [some (vi a0)]) (st' := [vr 31 0 2]) (h' := h) 4 1 (Nat.le_of_ble_eq_true rfl) tk_HR_lettersOf rfl rfl ⟨trivial, trivial⟩ ?_
    subst hx
    obtain ⟨rfl, rfl⟩ := hP
    exact Ev.aret 5 tk_HR_lettersOf rfl rfl (Or.inl ⟨_, rfl⟩)
  replace hx := ia hc2 hx
  by_cases hc3 : a0 = ii 2
  · replace hx := ip hc3 hx
    refine Ev.tabIn (off := 37) 1 38 2 tk_HR_lettersOf rfl hc3 (by decide) (by decide) ?_
    refine Ev.blk (pc' := 40) (lv' := [some (vi a0)]) (st' := [vr 31 0 3]) (h' := h) 6 1 (Nat.le_of_ble_eq_true rfl) tk_HR_lettersOf rfl rfl ⟨trivial, trivial⟩ ?_
    subst hx
    obtain ⟨rfl, rfl⟩ := hP
    exact Ev.aret 7 tk_HR_lettersOf rfl rfl (Or.inl ⟨_, rfl⟩)
  replace hx := ia hc3 hx
  by_cases hc4 : a0 = ii 3
  · replace hx := ip hc4 hx
    refine Ev.tabIn (off := 40) 1 41 3 tk_HR_lettersOf rfl hc4 (by decide) (by decide) ?_
    refine Ev.blk (pc' := 43) (lv' := [some (vi a0)]) (st' := [vr 31 0 4]) (h' := h) 8 1 (Nat.le_of_ble_eq_true rfl) tk_HR_lettersOf rfl rfl ⟨trivial, trivial⟩ ?_
    subst hx
    obtain ⟨rfl, rfl⟩ := hP
    exact Ev.aret 9 tk_HR_lettersOf rfl rfl (Or.inl ⟨_, rfl⟩)
  replace hx := ia hc4 hx
  refine Ev.tabOut 1 44 4 tk_HR_lettersOf rfl (by decide) (fun k hk => ?_) (by decide) ?_
  · rcases (show k = 0 ∨ k = 1 ∨ k = 2 ∨ k = 3 by omega) with rfl | rfl | rfl | rfl
    · exact hc1
    · exact hc2
    · exact hc3
    · exact hc4
  · refine Ev.blk (pc' := 46) (lv' := [some (vi a0)]) (st' := [vr 31 0 5]) (h' := h) 10 1 (Nat.le_of_ble_eq_true rfl) tk_HR_lettersOf rfl rfl ⟨trivial, trivial⟩ ?_
    subst hx
    obtain ⟨rfl, rfl⟩ := hP
    exact Ev.aret 11 tk_HR_lettersOf rfl rfl (Or.inl ⟨_, rfl⟩)
theorem s_HF_holds (Γ : AG) (a0 : Int32) (a1 : Int32) (h : AH) : MetA Γ m_HF_holds [vi a0, vi a1] h (some (vi (p_HF_holds a0 a1))) h := by
  refine Ev.met rfl rfl (Nat.le_of_ble_eq_true rfl) ?_
  generalize hx : p_HF_holds a0 a1 = x
  show Ev Γ m_HF_holds 0 [some (vi a0), some (vi a1)] [] h _ _
  obtain ⟨r, hr⟩ : ∃ r : Option AV, r = some (vi x) := ⟨_, rfl⟩
  obtain ⟨h', hh⟩ : ∃ h' : AH, h' = h := ⟨_, rfl⟩
  have hP : r = some (vi x) ∧ h' = h := ⟨hr, hh⟩
  suffices hS : Ev Γ m_HF_holds 0 [some (vi a0), some (vi a1)] [] h r h' by rw [hr, hh] at hS; exact hS
  clear hr hh
  unfold p_HF_holds at hx
  refine Ev.blk (pc' := 1) (lv' := [some (vi a0), some (vi a1)]) (st' := [vi a1]) (h' := h) 0 1 (Nat.le_of_ble_eq_true rfl) tk_HF_holds rfl rfl ⟨trivial, trivial⟩ ?_
  refine Ev.if_lt 1 17 tk_HF_holds rfl (by decide) (fun hc1 => ?_) (fun hc1 => ?_)
  · replace hx := ip hc1 hx
    refine Ev.blk (pc' := 18) (lv' := [some (vi a0), some (vi a1)]) (st' := [vi (ii 0)]) (h' := h) 11 1 (Nat.le_of_ble_eq_true rfl) tk_HF_holds rfl rfl ⟨trivial, trivial⟩ ?_
    subst hx
    obtain ⟨rfl, rfl⟩ := hP
    exact Ev.zret 12 tk_HF_holds rfl rfl rfl
  · replace hx := ia hc1 hx
    refine Ev.blk (pc' := 10) (lv' := [some (vi a0), some (vi a1)]) (st' := [vi (ii 1), vi ((shrI a0 a1) &&& (ii 1))]) (h' := h) 2 6 (Nat.le_of_ble_eq_true rfl) tk_HF_holds rfl rfl ⟨trivial, trivial, trivial, trivial, trivial, trivial, trivial⟩ ?_
    refine Ev.icmp_ne 8 17 tk_HF_holds rfl (by decide) (fun hc2 => ?_) (fun hc2 => ?_)
    · replace hx := ia hc2 hx
      refine Ev.blk (pc' := 18) (lv' := [some (vi a0), some (vi a1)]) (st' := [vi (ii 0)]) (h' := h) 11 1 (Nat.le_of_ble_eq_true rfl) tk_HF_holds rfl rfl ⟨trivial, trivial⟩ ?_
      subst hx
      obtain ⟨rfl, rfl⟩ := hP
      exact Ev.zret 12 tk_HF_holds rfl rfl rfl
    · replace hx := ip hc2 hx
      refine Ev.blk (pc' := 18) (lv' := [some (vi a0), some (vi a1)]) (st' := [vi (ii 1)]) (h' := h) 9 2 (Nat.le_of_ble_eq_true rfl) tk_HF_holds rfl rfl ⟨trivial, trivial, trivial⟩ ?_
      subst hx
      obtain ⟨rfl, rfl⟩ := hP
      exact Ev.zret 12 tk_HF_holds rfl rfl rfl
theorem s_HF_bit (Γ : AG) (a0 : Int32) (h : AH) : MetA Γ m_HF_bit [vi a0] h (some (vi (p_HF_bit a0))) h := by
  refine Ev.met rfl rfl (Nat.le_of_ble_eq_true rfl) ?_
  generalize hx : p_HF_bit a0 = x
  show Ev Γ m_HF_bit 0 [some (vi a0)] [] h _ _
  obtain ⟨r, hr⟩ : ∃ r : Option AV, r = some (vi x) := ⟨_, rfl⟩
  obtain ⟨h', hh⟩ : ∃ h' : AH, h' = h := ⟨_, rfl⟩
  have hP : r = some (vi x) ∧ h' = h := ⟨hr, hh⟩
  suffices hS : Ev Γ m_HF_bit 0 [some (vi a0)] [] h r h' by rw [hr, hh] at hS; exact hS
  clear hr hh
  unfold p_HF_bit at hx
  refine Ev.blk (pc' := 3) (lv' := [some (vi a0)]) (st' := [vi (shlI (ii 1) a0)]) (h' := h) 0 3 (Nat.le_of_ble_eq_true rfl) tk_HF_bit rfl rfl ⟨trivial, trivial, trivial, trivial⟩ ?_
  subst hx
  obtain ⟨rfl, rfl⟩ := hP
  exact Ev.iret 3 tk_HF_bit rfl rfl
set_option maxRecDepth 4000 in
theorem l_Tape_number_L4 (Γ : AG) : ∀ (n : Nat) (v1 : Int32) (v2 : Int32) (v3 : Int32) (h : AH) (x : Int32 × AH), Tape_number_L4 n v1 v2 v3 h = some x → ∀ (r : Option AV) (h' : AH), r = some (vi x.1) ∧ h' = x.2 → Ev Γ m_Tape_number 4 [some (vr 1 0 1), some (vi v1), some (vi v2), some (vi v3), none] [] h r h' := by
  intro n
  induction n with
  | zero => intro v1 v2 v3 h x hx; cases hx
  | succ n ih =>
    intro v1 v2 v3 h x hx r h' hP
    replace hx : Tape_number_L4_b (Tape_number_L4 n) v1 v2 v3 h = some x := hx
    unfold Tape_number_L4_b at hx
    refine Ev.blk (pc' := 8) (lv' := [some (vr 1 0 1), some (vi v1), some (vi v2), some (vi v3), none]) (st' := [vi (h.1 1 2)]) (h' := h) 4 2 (Nat.le_of_ble_eq_true rfl) tk_Tape_number rfl rfl ⟨trivial, trivial, trivial⟩ ?_
    refine Ev.if_lt 6 94 tk_Tape_number rfl (by decide) (fun hc1 => ?_) (fun hc1 => ?_)
    · replace hx := ip hc1 hx
      refine Ev.blk (pc' := 95) (lv' := [some (vr 1 0 1), some (vi v1), some (vi v2), some (vi v3), none]) (st' := [vi v3]) (h' := h) 51 1 (Nat.le_of_ble_eq_true rfl) tk_Tape_number rfl rfl ⟨trivial, trivial⟩ ?_
      refine Ev.if_ne 52 102 tk_Tape_number rfl (by decide) (fun hc2 => ?_) (fun hc2 => ?_)
      · replace hx := ia hc2 hx
        refine Ev.blk (pc' := 103) (lv' := [some (vr 1 0 1), some (vi v1), some (vi v2), some (vi v3), none]) (st' := [vi v2]) (h' := h) 55 1 (Nat.le_of_ble_eq_true rfl) tk_Tape_number rfl rfl ⟨trivial, trivial⟩ ?_
        obtain rfl := Option.some.inj hx
        obtain ⟨rfl, rfl⟩ := hP
        exact Ev.iret 56 tk_Tape_number rfl rfl
      · replace hx := ip hc2 hx
        refine Ev.blk (pc' := 103) (lv' := [some (vr 1 0 1), some (vi v1), some (vi v2), some (vi v3), none]) (st' := [vi (ii (-1))]) (h' := h) 53 2 (Nat.le_of_ble_eq_true rfl) tk_Tape_number rfl rfl ⟨trivial, trivial, trivial⟩ ?_
        obtain rfl := Option.some.inj hx
        obtain ⟨rfl, rfl⟩ := hP
        exact Ev.iret 56 tk_Tape_number rfl rfl
    · replace hx := ia hc1 hx
      refine Ev.blk (pc' := 19) (lv' := [some (vr 1 0 1), some (vi v1), some (vi v2), some (vi v3), none]) (st' := [vi (h.1 1 1), vi (h.1 1 2)]) (h' := h) 7 4 (Nat.le_of_ble_eq_true rfl) tk_Tape_number rfl rfl ⟨trivial, trivial, trivial, trivial, trivial⟩ ?_
      refine Ev.icmp_ge 11 94 tk_Tape_number rfl (by decide) (fun hc3 => ?_) (fun hc3 => ?_)
      · replace hx := ip hc3 hx
        refine Ev.blk (pc' := 95) (lv' := [some (vr 1 0 1), some (vi v1), some (vi v2), some (vi v3), none]) (st' := [vi v3]) (h' := h) 51 1 (Nat.le_of_ble_eq_true rfl) tk_Tape_number rfl rfl ⟨trivial, trivial⟩ ?_
        refine Ev.if_ne 52 102 tk_Tape_number rfl (by decide) (fun hc4 => ?_) (fun hc4 => ?_)
        · replace hx := ia hc4 hx
          refine Ev.blk (pc' := 103) (lv' := [some (vr 1 0 1), some (vi v1), some (vi v2), some (vi v3), none]) (st' := [vi v2]) (h' := h) 55 1 (Nat.le_of_ble_eq_true rfl) tk_Tape_number rfl rfl ⟨trivial, trivial⟩ ?_
          obtain rfl := Option.some.inj hx
          obtain ⟨rfl, rfl⟩ := hP
          exact Ev.iret 56 tk_Tape_number rfl rfl
        · replace hx := ip hc4 hx
          refine Ev.blk (pc' := 103) (lv' := [some (vr 1 0 1), some (vi v1), some (vi v2), some (vi v3), none]) (st' := [vi (ii (-1))]) (h' := h) 53 2 (Nat.le_of_ble_eq_true rfl) tk_Tape_number rfl rfl ⟨trivial, trivial, trivial⟩ ?_
          obtain rfl := Option.some.inj hx
          obtain ⟨rfl, rfl⟩ := hP
          exact Ev.iret 56 tk_Tape_number rfl rfl
      · replace hx := ia hc3 hx
        refine Ev.blk (pc' := 31) (lv' := [some (vr 1 0 1), some (vi v1), some (vi v2), some (vi v3), none]) (st' := [vi (ii (240 : Int)), vi (h.1 1 2)]) (h' := h) 12 5 (Nat.le_of_ble_eq_true rfl) tk_Tape_number rfl rfl ⟨trivial, trivial, trivial, trivial, trivial, trivial⟩ ?_
        refine Ev.icmp_ge 17 94 tk_Tape_number rfl (by decide) (fun hc5 => ?_) (fun hc5 => ?_)
        · replace hx := ip hc5 hx
          refine Ev.blk (pc' := 95) (lv' := [some (vr 1 0 1), some (vi v1), some (vi v2), some (vi v3), none]) (st' := [vi v3]) (h' := h) 51 1 (Nat.le_of_ble_eq_true rfl) tk_Tape_number rfl rfl ⟨trivial, trivial⟩ ?_
          refine Ev.if_ne 52 102 tk_Tape_number rfl (by decide) (fun hc6 => ?_) (fun hc6 => ?_)
          · replace hx := ia hc6 hx
            refine Ev.blk (pc' := 103) (lv' := [some (vr 1 0 1), some (vi v1), some (vi v2), some (vi v3), none]) (st' := [vi v2]) (h' := h) 55 1 (Nat.le_of_ble_eq_true rfl) tk_Tape_number rfl rfl ⟨trivial, trivial⟩ ?_
            obtain rfl := Option.some.inj hx
            obtain ⟨rfl, rfl⟩ := hP
            exact Ev.iret 56 tk_Tape_number rfl rfl
          · replace hx := ip hc6 hx
            refine Ev.blk (pc' := 103) (lv' := [some (vr 1 0 1), some (vi v1), some (vi v2), some (vi v3), none]) (st' := [vi (ii (-1))]) (h' := h) 53 2 (Nat.le_of_ble_eq_true rfl) tk_Tape_number rfl rfl ⟨trivial, trivial, trivial⟩ ?_
            obtain rfl := Option.some.inj hx
            obtain ⟨rfl, rfl⟩ := hP
            exact Ev.iret 56 tk_Tape_number rfl rfl
        · replace hx := ia hc5 hx
          obtain ⟨hg7, hx⟩ := gd hx
          refine Ev.blk (pc' := 50) (lv' := [some (vr 1 0 1), some (vi v1), some (vi v2), some (vi v3), some (vi ((h.1 2 (h.1 1 2).toNatClampNeg) - (ii 48)))]) (st' := [vi ((h.1 2 (h.1 1 2).toNatClampNeg) - (ii 48))]) (h' := h) 18 9 (Nat.le_of_ble_eq_true rfl) tk_Tape_number rfl rfl ⟨trivial, trivial, trivial, trivial, hg7, trivial, trivial, trivial, trivial, trivial⟩ ?_
          refine Ev.if_lt 27 94 tk_Tape_number rfl (by decide) (fun hc8 => ?_) (fun hc8 => ?_)
          · replace hx := ip hc8 hx
            refine Ev.blk (pc' := 95) (lv' := [some (vr 1 0 1), some (vi v1), some (vi v2), some (vi v3), some (vi ((h.1 2 (h.1 1 2).toNatClampNeg) - (ii 48)))]) (st' := [vi v3]) (h' := h) 51 1 (Nat.le_of_ble_eq_true rfl) tk_Tape_number rfl rfl ⟨trivial, trivial⟩ ?_
            refine Ev.if_ne 52 102 tk_Tape_number rfl (by decide) (fun hc9 => ?_) (fun hc9 => ?_)
            · replace hx := ia hc9 hx
              refine Ev.blk (pc' := 103) (lv' := [some (vr 1 0 1), some (vi v1), some (vi v2), some (vi v3), some (vi ((h.1 2 (h.1 1 2).toNatClampNeg) - (ii 48)))]) (st' := [vi v2]) (h' := h) 55 1 (Nat.le_of_ble_eq_true rfl) tk_Tape_number rfl rfl ⟨trivial, trivial⟩ ?_
              obtain rfl := Option.some.inj hx
              obtain ⟨rfl, rfl⟩ := hP
              exact Ev.iret 56 tk_Tape_number rfl rfl
            · replace hx := ip hc9 hx
              refine Ev.blk (pc' := 103) (lv' := [some (vr 1 0 1), some (vi v1), some (vi v2), some (vi v3), some (vi ((h.1 2 (h.1 1 2).toNatClampNeg) - (ii 48)))]) (st' := [vi (ii (-1))]) (h' := h) 53 2 (Nat.le_of_ble_eq_true rfl) tk_Tape_number rfl rfl ⟨trivial, trivial, trivial⟩ ?_
              obtain rfl := Option.some.inj hx
              obtain ⟨rfl, rfl⟩ := hP
              exact Ev.iret 56 tk_Tape_number rfl rfl
          · replace hx := ia hc8 hx
            refine Ev.blk (pc' := 57) (lv' := [some (vr 1 0 1), some (vi v1), some (vi v2), some (vi v3), some (vi ((h.1 2 (h.1 1 2).toNatClampNeg) - (ii 48)))]) (st' := [vi (ii 9), vi ((h.1 2 (h.1 1 2).toNatClampNeg) - (ii 48))]) (h' := h) 28 2 (Nat.le_of_ble_eq_true rfl) tk_Tape_number rfl rfl ⟨trivial, trivial, trivial⟩ ?_
            refine Ev.icmp_le 30 63 tk_Tape_number rfl (by decide) (fun hc10 => ?_) (fun hc10 => ?_)
            · replace hx := ip hc10 hx
              refine Ev.blk (pc' := 65) (lv' := [some (vr 1 0 1), some (vi v1), some (vi v2), some (vi v3), some (vi ((h.1 2 (h.1 1 2).toNatClampNeg) - (ii 48)))]) (st' := [vi v1, vi v3]) (h' := h) 32 2 (Nat.le_of_ble_eq_true rfl) tk_Tape_number rfl rfl ⟨trivial, trivial, trivial⟩ ?_
              refine Ev.icmp_ne 34 70 tk_Tape_number rfl (by decide) (fun hc11 => ?_) (fun hc11 => ?_)
              · replace hx := ia hc11 hx
                refine Ev.blk (pc' := 4) (lv' := [some (vr 1 0 1), some (vi v1), some (vi ((v2 * (ii 10)) + ((h.1 2 (h.1 1 2).toNatClampNeg) - (ii 48)))), some (vi (v3 + ii 1)), some (vi ((h.1 2 (h.1 1 2).toNatClampNeg) - (ii 48)))]) (st' := []) (h' := (wI h 1 2 ((h.1 1 2) + (ii 1)))) 37 14 (Nat.le_of_ble_eq_true rfl) tk_Tape_number rfl rfl ⟨trivial, trivial, trivial, trivial, trivial, trivial, trivial, trivial, trivial, trivial, trivial, trivial, trivial, trivial, trivial⟩ ?_
                exact Ev.msk [true, true, true, true, false] (ih v1 ((v2 * (ii 10)) + ((h.1 2 (h.1 1 2).toNatClampNeg) - (ii 48))) (v3 + ii 1) (wI h 1 2 ((h.1 1 2) + (ii 1))) _ hx r h' hP)
              · replace hx := ip hc11 hx
                refine Ev.blk (pc' := 69) (lv' := [some (vr 1 0 1), some (vi v1), some (vi v2), some (vi v3), some (vi ((h.1 2 (h.1 1 2).toNatClampNeg) - (ii 48)))]) (st' := [vi (ii (-1))]) (h' := h) 35 1 (Nat.le_of_ble_eq_true rfl) tk_Tape_number rfl rfl ⟨trivial, trivial⟩ ?_
                obtain rfl := Option.some.inj hx
                obtain ⟨rfl, rfl⟩ := hP
                exact Ev.iret 36 tk_Tape_number rfl rfl
            · replace hx := ia hc10 hx
              refine Ev.blk (pc' := 94) (lv' := [some (vr 1 0 1), some (vi v1), some (vi v2), some (vi v3), some (vi ((h.1 2 (h.1 1 2).toNatClampNeg) - (ii 48)))]) (st' := []) (h' := h) 31 1 (Nat.le_of_ble_eq_true rfl) tk_Tape_number rfl rfl ⟨trivial, trivial⟩ ?_
              refine Ev.blk (pc' := 95) (lv' := [some (vr 1 0 1), some (vi v1), some (vi v2), some (vi v3), some (vi ((h.1 2 (h.1 1 2).toNatClampNeg) - (ii 48)))]) (st' := [vi v3]) (h' := h) 51 1 (Nat.le_of_ble_eq_true rfl) tk_Tape_number rfl rfl ⟨trivial, trivial⟩ ?_
              refine Ev.if_ne 52 102 tk_Tape_number rfl (by decide) (fun hc12 => ?_) (fun hc12 => ?_)
              · replace hx := ia hc12 hx
                refine Ev.blk (pc' := 103) (lv' := [some (vr 1 0 1), some (vi v1), some (vi v2), some (vi v3), some (vi ((h.1 2 (h.1 1 2).toNatClampNeg) - (ii 48)))]) (st' := [vi v2]) (h' := h) 55 1 (Nat.le_of_ble_eq_true rfl) tk_Tape_number rfl rfl ⟨trivial, trivial⟩ ?_
                obtain rfl := Option.some.inj hx
                obtain ⟨rfl, rfl⟩ := hP
                exact Ev.iret 56 tk_Tape_number rfl rfl
              · replace hx := ip hc12 hx
                refine Ev.blk (pc' := 103) (lv' := [some (vr 1 0 1), some (vi v1), some (vi v2), some (vi v3), some (vi ((h.1 2 (h.1 1 2).toNatClampNeg) - (ii 48)))]) (st' := [vi (ii (-1))]) (h' := h) 53 2 (Nat.le_of_ble_eq_true rfl) tk_Tape_number rfl rfl ⟨trivial, trivial, trivial⟩ ?_
                obtain rfl := Option.some.inj hx
                obtain ⟨rfl, rfl⟩ := hP
                exact Ev.iret 56 tk_Tape_number rfl rfl
set_option maxRecDepth 4000 in
theorem s_Tape_number (Γ : AG) (a1 : Int32) (h : AH) (x : Int32 × AH) (hx : f_Tape_number a1 h = some x) : MetA Γ m_Tape_number [vr 1 0 1, vi a1] h (some (vi x.1)) x.2 := by
  refine Ev.met rfl rfl (Nat.le_of_ble_eq_true rfl) ?_
  show Ev Γ m_Tape_number 0 [some (vr 1 0 1), some (vi a1), none, none, none] [] h _ _
  obtain ⟨r, hr⟩ : ∃ r : Option AV, r = some (vi x.1) := ⟨_, rfl⟩
  obtain ⟨h', hh⟩ : ∃ h' : AH, h' = x.2 := ⟨_, rfl⟩
  have hP : r = some (vi x.1) ∧ h' = x.2 := ⟨hr, hh⟩
  suffices hS : Ev Γ m_Tape_number 0 [some (vr 1 0 1), some (vi a1), none, none, none] [] h r h' by rw [hr, hh] at hS; exact hS
  clear hr hh
  unfold f_Tape_number at hx
  refine Ev.blk (pc' := 4) (lv' := [some (vr 1 0 1), some (vi a1), some (vi (ii 0)), some (vi (ii 0)), none]) (st' := []) (h' := h) 0 4 (Nat.le_of_ble_eq_true rfl) tk_Tape_number rfl rfl ⟨trivial, trivial, trivial, trivial, trivial⟩ ?_
  refine Ev.msk [true, true, true, true, false] ?_
  show Ev Γ m_Tape_number 4 [some (vr 1 0 1), some (vi a1), some (vi (ii 0)), some (vi (ii 0)), none] [] h r h'
  exact l_Tape_number_L4 Γ FU a1 (ii 0) (ii 0) h _ hx r h' hP
set_option maxRecDepth 4000 in
theorem s_HR_readNumber (Γ : AG) (a2 : Int32) (a3 : Int32) (a4 : Int32) (h : AH) (x : Int32 × AH) (hx : f_HR_readNumber a2 a3 a4 h = some x) : MetA Γ m_HR_readNumber [vr 2 0 3, vr 1 0 1, vi a2, vi a3, vi a4] h (some (vi x.1)) x.2 := by
  refine Ev.met rfl rfl (Nat.le_of_ble_eq_true rfl) ?_
  show Ev Γ m_HR_readNumber 0 [some (vr 2 0 3), some (vr 1 0 1), some (vi a2), some (vi a3), some (vi a4), none, none] [] h _ _
  obtain ⟨r, hr⟩ : ∃ r : Option AV, r = some (vi x.1) := ⟨_, rfl⟩
  obtain ⟨h', hh⟩ : ∃ h' : AH, h' = x.2 := ⟨_, rfl⟩
  have hP : r = some (vi x.1) ∧ h' = x.2 := ⟨hr, hh⟩
  suffices hS : Ev Γ m_HR_readNumber 0 [some (vr 2 0 3), some (vr 1 0 1), some (vi a2), some (vi a3), some (vi a4), none, none] [] h r h' by rw [hr, hh] at hS; exact hS
  clear hr hh
  unfold f_HR_readNumber at hx
  refine Ev.blk (pc' := 1) (lv' := [some (vr 2 0 3), some (vr 1 0 1), some (vi a2), some (vi a3), some (vi a4), none, none]) (st' := [vr 1 0 1]) (h' := h) 0 1 (Nat.le_of_ble_eq_true rfl) tk_HR_readNumber rfl rfl ⟨trivial, trivial⟩ ?_
  obtain ⟨q1, hq1, hx⟩ := bd hx
  refine Ev.callV (ν := m_Tape_peek) (av := []) (rest := []) (r1 := some (vi q1.1)) (h1 := q1.2) (ci := 1) (nn := 0) (o := 1) 1 0 tk_HR_readNumber rfl bb_Tape_peek vv_Tape_peek lk_2_45 (by decide) rfl rfl (Or.inl rfl) (Nat.le_of_ble_eq_true rfl) (s_Tape_peek Γ h _ hq1) ?_
  show Ev Γ m_HR_readNumber 4 [some (vr 2 0 3), some (vr 1 0 1), some (vi a2), some (vi a3), some (vi a4), none, none] [vi q1.1] q1.2 r h'
  refine Ev.blk (pc' := 7) (lv' := [some (vr 2 0 3), some (vr 1 0 1), some (vi a2), some (vi a3), some (vi a4), none, none]) (st' := [vi (ii 2), vr 1 0 1]) (h' := q1.2) 2 3 (Nat.le_of_ble_eq_true rfl) tk_HR_readNumber rfl rfl ⟨trivial, trivial, trivial, trivial⟩ ?_
  obtain ⟨q2, hq2, hx⟩ := bd hx
  refine Ev.callV (ν := m_Tape_number) (av := [vi (ii 2)]) (rest := []) (r1 := some (vi q2.1)) (h1 := q2.2) (ci := 1) (nn := 0) (o := 1) 5 1 tk_HR_readNumber rfl bb_Tape_number vv_Tape_number lk_2_103 (by decide) rfl rfl (Or.inl rfl) (Nat.le_of_ble_eq_true rfl) (s_Tape_number Γ (ii 2) q1.2 _ hq2) ?_
  show Ev Γ m_HR_readNumber 10 [some (vr 2 0 3), some (vr 1 0 1), some (vi a2), some (vi a3), some (vi a4), none, none] [vi q2.1] q2.2 r h'
  refine Ev.blk (pc' := 15) (lv' := [some (vr 2 0 3), some (vr 1 0 1), some (vi a2), some (vi a3), some (vi a4), some (vi q2.1), none]) (st' := [vi (ii (-1)), vi q2.1]) (h' := q2.2) 6 3 (Nat.le_of_ble_eq_true rfl) tk_HR_readNumber rfl rfl ⟨trivial, trivial, trivial, trivial⟩ ?_
  refine Ev.icmp_ne 9 20 tk_HR_readNumber rfl (by decide) (fun hc3 => ?_) (fun hc3 => ?_)
  · replace hx := ia hc3 hx
    refine Ev.blk (pc' := 31) (lv' := [some (vr 2 0 3), some (vr 1 0 1), some (vi a2), some (vi a3), some (vi a4), some (vi q2.1), some (vi ((a2 * (ii 6)) + a4))]) (st' := [vi ((a2 * (ii 6)) + a4)]) (h' := q2.2) 12 7 (Nat.le_of_ble_eq_true rfl) tk_HR_readNumber rfl rfl ⟨trivial, trivial, trivial, trivial, trivial, trivial, trivial, trivial⟩ ?_
    refine Ev.if_lt 19 74 tk_HR_readNumber rfl (by decide) (fun hc4 => ?_) (fun hc4 => ?_)
    · replace hx := ip hc4 hx
      refine Ev.blk (pc' := 85) (lv' := [some (vr 2 0 3), some (vr 1 0 1), some (vi a2), some (vi a3), some (vi a4), some (vi q2.1), some (vi ((a2 * (ii 6)) + a4))]) (st' := [vi (ii 0)]) (h' := (wI q2.2 1 2 ((q2.2.1 1 2) - (ii 1)))) 38 7 (Nat.le_of_ble_eq_true rfl) tk_HR_readNumber rfl rfl ⟨trivial, trivial, trivial, trivial, trivial, trivial, trivial, trivial⟩ ?_
      obtain rfl := Option.some.inj hx
      obtain ⟨rfl, rfl⟩ := hP
      exact Ev.zret 45 tk_HR_readNumber rfl rfl rfl
    · replace hx := ia hc4 hx
      refine Ev.blk (pc' := 40) (lv' := [some (vr 2 0 3), some (vr 1 0 1), some (vi a2), some (vi a3), some (vi a4), some (vi q2.1), some (vi ((a2 * (ii 6)) + a4))]) (st' := [vi (ii ((taL 2) : Int)), vi ((a2 * (ii 6)) + a4)]) (h' := q2.2) 20 3 (Nat.le_of_ble_eq_true rfl) tk_HR_readNumber rfl rfl ⟨trivial, trivial, trivial, trivial⟩ ?_
      refine Ev.icmp_ge 23 74 tk_HR_readNumber rfl (by decide) (fun hc5 => ?_) (fun hc5 => ?_)
      · replace hx := ip hc5 hx
        refine Ev.blk (pc' := 85) (lv' := [some (vr 2 0 3), some (vr 1 0 1), some (vi a2), some (vi a3), some (vi a4), some (vi q2.1), some (vi ((a2 * (ii 6)) + a4))]) (st' := [vi (ii 0)]) (h' := (wI q2.2 1 2 ((q2.2.1 1 2) - (ii 1)))) 38 7 (Nat.le_of_ble_eq_true rfl) tk_HR_readNumber rfl rfl ⟨trivial, trivial, trivial, trivial, trivial, trivial, trivial, trivial⟩ ?_
        obtain rfl := Option.some.inj hx
        obtain ⟨rfl, rfl⟩ := hP
        exact Ev.zret 45 tk_HR_readNumber rfl rfl rfl
      · replace hx := ia hc5 hx
        refine Ev.blk (pc' := 49) (lv' := [some (vr 2 0 3), some (vr 1 0 1), some (vi a2), some (vi a3), some (vi a4), some (vi q2.1), some (vi ((a2 * (ii 6)) + a4))]) (st' := [vi (ii ((taL 1) : Int)), vi ((a2 * (ii 6)) + a4)]) (h' := q2.2) 24 3 (Nat.le_of_ble_eq_true rfl) tk_HR_readNumber rfl rfl ⟨trivial, trivial, trivial, trivial⟩ ?_
        refine Ev.icmp_ge 27 74 tk_HR_readNumber rfl (by decide) (fun hc6 => ?_) (fun hc6 => ?_)
        · replace hx := ip hc6 hx
          refine Ev.blk (pc' := 85) (lv' := [some (vr 2 0 3), some (vr 1 0 1), some (vi a2), some (vi a3), some (vi a4), some (vi q2.1), some (vi ((a2 * (ii 6)) + a4))]) (st' := [vi (ii 0)]) (h' := (wI q2.2 1 2 ((q2.2.1 1 2) - (ii 1)))) 38 7 (Nat.le_of_ble_eq_true rfl) tk_HR_readNumber rfl rfl ⟨trivial, trivial, trivial, trivial, trivial, trivial, trivial, trivial⟩ ?_
          obtain rfl := Option.some.inj hx
          obtain ⟨rfl, rfl⟩ := hP
          exact Ev.zret 45 tk_HR_readNumber rfl rfl rfl
        · replace hx := ia hc6 hx
          obtain ⟨hg7, hx⟩ := gd hx
          refine Ev.blk (pc' := 60) (lv' := [some (vr 2 0 3), some (vr 1 0 1), some (vi a2), some (vi a3), some (vi a4), some (vi q2.1), some (vi ((a2 * (ii 6)) + a4))]) (st' := [vi (ii ((am_sta.getD 1 []).getD ((a2 * (ii 6)) + a4).toNatClampNeg 0)), vi q2.1]) (h' := q2.2) 28 4 (Nat.le_of_ble_eq_true rfl) tk_HR_readNumber rfl rfl ⟨trivial, trivial, trivial, hg7, trivial⟩ ?_
          refine Ev.icmp_lt 32 74 tk_HR_readNumber rfl (by decide) (fun hc8 => ?_) (fun hc8 => ?_)
          · replace hx := ip hc8 hx
            refine Ev.blk (pc' := 85) (lv' := [some (vr 2 0 3), some (vr 1 0 1), some (vi a2), some (vi a3), some (vi a4), some (vi q2.1), some (vi ((a2 * (ii 6)) + a4))]) (st' := [vi (ii 0)]) (h' := (wI q2.2 1 2 ((q2.2.1 1 2) - (ii 1)))) 38 7 (Nat.le_of_ble_eq_true rfl) tk_HR_readNumber rfl rfl ⟨trivial, trivial, trivial, trivial, trivial, trivial, trivial, trivial⟩ ?_
            obtain rfl := Option.some.inj hx
            obtain ⟨rfl, rfl⟩ := hP
            exact Ev.zret 45 tk_HR_readNumber rfl rfl rfl
          · replace hx := ia hc8 hx
            obtain ⟨hg9, hx⟩ := gd hx
            refine Ev.blk (pc' := 71) (lv' := [some (vr 2 0 3), some (vr 1 0 1), some (vi a2), some (vi a3), some (vi a4), some (vi q2.1), some (vi ((a2 * (ii 6)) + a4))]) (st' := [vi (ii ((am_sta.getD 2 []).getD ((a2 * (ii 6)) + a4).toNatClampNeg 0)), vi q2.1]) (h' := q2.2) 33 4 (Nat.le_of_ble_eq_true rfl) tk_HR_readNumber rfl rfl ⟨trivial, trivial, trivial, hg9, trivial⟩ ?_
            refine Ev.icmp_le 37 86 tk_HR_readNumber rfl (by decide) (fun hc10 => ?_) (fun hc10 => ?_)
            · replace hx := ip hc10 hx
              refine Ev.blk (pc' := 93) (lv' := [some (vr 2 0 3), some (vr 1 0 1), some (vi a2), some (vi a3), some (vi a4), some (vi q2.1), some (vi ((a2 * (ii 6)) + a4))]) (st' := [vi q2.1, vi a4, vi a3, vi a2, vr 2 0 3]) (h' := q2.2) 46 5 (Nat.le_of_ble_eq_true rfl) tk_HR_readNumber rfl rfl ⟨trivial, trivial, trivial, trivial, trivial, trivial⟩ ?_
              obtain ⟨q3, hq11, hx⟩ := bd hx
              refine Ev.callV (ν := m_HR_setItem) (av := [vi a2, vi a3, vi a4, vi q2.1]) (rest := []) (r1 := none) (h1 := q3) (ci := 2) (nn := 0) (o := 3) 51 4 tk_HR_readNumber rfl bb_HR_setItem vv_HR_setItem lk_2_112 (by decide) rfl rfl (Or.inl rfl) (Nat.le_of_ble_eq_true rfl) (s_HR_setItem Γ a2 a3 a4 q2.1 q2.2 _ hq11) ?_
              show Ev Γ m_HR_readNumber 96 [some (vr 2 0 3), some (vr 1 0 1), some (vi a2), some (vi a3), some (vi a4), some (vi q2.1), some (vi ((a2 * (ii 6)) + a4))] [] q3 r h'
              refine Ev.blk (pc' := 97) (lv' := [some (vr 2 0 3), some (vr 1 0 1), some (vi a2), some (vi a3), some (vi a4), some (vi q2.1), some (vi ((a2 * (ii 6)) + a4))]) (st' := [vi (ii 1)]) (h' := q3) 52 1 (Nat.le_of_ble_eq_true rfl) tk_HR_readNumber rfl rfl ⟨trivial, trivial⟩ ?_
              obtain rfl := Option.some.inj hx
              obtain ⟨rfl, rfl⟩ := hP
              exact Ev.zret 53 tk_HR_readNumber rfl rfl rfl
            · replace hx := ia hc10 hx
              refine Ev.blk (pc' := 85) (lv' := [some (vr 2 0 3), some (vr 1 0 1), some (vi a2), some (vi a3), some (vi a4), some (vi q2.1), some (vi ((a2 * (ii 6)) + a4))]) (st' := [vi (ii 0)]) (h' := (wI q2.2 1 2 ((q2.2.1 1 2) - (ii 1)))) 38 7 (Nat.le_of_ble_eq_true rfl) tk_HR_readNumber rfl rfl ⟨trivial, trivial, trivial, trivial, trivial, trivial, trivial, trivial⟩ ?_
              obtain rfl := Option.some.inj hx
              obtain ⟨rfl, rfl⟩ := hP
              exact Ev.zret 45 tk_HR_readNumber rfl rfl rfl
  · replace hx := ip hc3 hx
    refine Ev.blk (pc' := 19) (lv' := [some (vr 2 0 3), some (vr 1 0 1), some (vi a2), some (vi a3), some (vi a4), some (vi q2.1), none]) (st' := [vi (ii 0)]) (h' := q2.2) 10 1 (Nat.le_of_ble_eq_true rfl) tk_HR_readNumber rfl rfl ⟨trivial, trivial⟩ ?_
    obtain rfl := Option.some.inj hx
    obtain ⟨rfl, rfl⟩ := hP
    exact Ev.zret 11 tk_HR_readNumber rfl rfl rfl
set_option maxRecDepth 4000 in
theorem l_HR_readItems_L12 (Γ : AG) : ∀ (n : Nat) (v2 : Int32) (v3 : Int32) (o4 : Nat) (v5 : Int32) (v6 : Int32) (h : AH) (x : Int32 × AH), HR_readItems_L12 n v2 v3 o4 v5 v6 h = some x → ∀ (r : Option AV) (h' : AH), r = some (vi x.1) ∧ h' = x.2 → Ev Γ m_HR_readItems 12 [some (vr 2 0 3), some (vr 1 0 1), some (vi v2), some (vi v3), some (vr 31 0 o4), some (vi v5), some (vi v6), none] [] h r h' := by
  intro n
  induction n with
  | zero => intro v2 v3 o4 v5 v6 h x hx; cases hx
  | succ n ih =>
    intro v2 v3 o4 v5 v6 h x hx r h' hP
    replace hx : HR_readItems_L12_b (HR_readItems_L12 n) v2 v3 o4 v5 v6 h = some x := hx
    unfold HR_readItems_L12_b at hx
    refine Ev.blk (pc' := 16) (lv' := [some (vr 2 0 3), some (vr 1 0 1), some (vi v2), some (vi v3), some (vr 31 0 o4), some (vi v5), some (vi v6), none]) (st' := [vi (ii 6), vi v6]) (h' := h) 7 2 (Nat.le_of_ble_eq_true rfl) tk_HR_readItems rfl rfl ⟨trivial, trivial, trivial⟩ ?_
    refine Ev.icmp_gt 9 89 tk_HR_readItems rfl (by decide) (fun hc1 => ?_) (fun hc1 => ?_)
    · replace hx := ip hc1 hx
      refine Ev.blk (pc' := 90) (lv' := [some (vr 2 0 3), some (vr 1 0 1), some (vi v2), some (vi v3), some (vr 31 0 o4), some (vi v5), some (vi v6), none]) (st' := [vi (ii 1)]) (h' := h) 47 1 (Nat.le_of_ble_eq_true rfl) tk_HR_readItems rfl rfl ⟨trivial, trivial⟩ ?_
      obtain rfl := Option.some.inj hx
      obtain ⟨rfl, rfl⟩ := hP
      exact Ev.zret 48 tk_HR_readItems rfl rfl rfl
    · replace hx := ia hc1 hx
      refine Ev.blk (pc' := 22) (lv' := [some (vr 2 0 3), some (vr 1 0 1), some (vi v2), some (vi v3), some (vr 31 0 o4), some (vi v5), some (vi v6), none]) (st' := [vr 1 0 1, vr 31 0 o4]) (h' := h) 10 2 (Nat.le_of_ble_eq_true rfl) tk_HR_readItems rfl rfl ⟨trivial, trivial, trivial⟩ ?_
      obtain ⟨q1, hq2, hx⟩ := bd hx
      refine Ev.callV (ν := m_Tape_peek) (av := []) (rest := [vr 31 0 o4]) (r1 := some (vi q1.1)) (h1 := q1.2) (ci := 1) (nn := 0) (o := 1) 12 0 tk_HR_readItems rfl bb_Tape_peek vv_Tape_peek lk_2_45 (by decide) rfl rfl (Or.inl rfl) (Nat.le_of_ble_eq_true rfl) (s_Tape_peek Γ h _ hq2) ?_
      show Ev Γ m_HR_readItems 25 [some (vr 2 0 3), some (vr 1 0 1), some (vi v2), some (vi v3), some (vr 31 0 o4), some (vi v5), some (vi v6), none] [vi q1.1, vr 31 0 o4] q1.2 r h'
      obtain ⟨q2, hq3, hx⟩ := bd hx
      refine Ev.callSN (ν := m_HF_placeIn) (av := [vr 31 0 o4, vi q1.1]) (rest := []) (r1 := some (vi q2)) (h1 := q1.2) 13 2 tk_HR_readItems rfl bb_HF_placeIn vv_HF_placeIn lk_2_62 (by decide) rfl rfl (Nat.le_of_ble_eq_true rfl) (s_HF_placeIn Γ o4 q1.1 q1.2 _ hq3) ?_
      show Ev Γ m_HR_readItems 28 [some (vr 2 0 3), some (vr 1 0 1), some (vi v2), some (vi v3), some (vr 31 0 o4), some (vi v5), some (vi v6), none] [vi q2] q1.2 r h'
      refine Ev.blk (pc' := 32) (lv' := [some (vr 2 0 3), some (vr 1 0 1), some (vi v2), some (vi v3), some (vr 31 0 o4), some (vi v5), some (vi v6), some (vi q2)]) (st' := [vi q2]) (h' := q1.2) 14 2 (Nat.le_of_ble_eq_true rfl) tk_HR_readItems rfl rfl ⟨trivial, trivial, trivial⟩ ?_
      refine Ev.if_ge 16 37 tk_HR_readItems rfl (by decide) (fun hc4 => ?_) (fun hc4 => ?_)
      · replace hx := ip hc4 hx
        refine Ev.blk (pc' := 41) (lv' := [some (vr 2 0 3), some (vr 1 0 1), some (vi v2), some (vi v3), some (vr 31 0 o4), some (vi v5), some (vi v6), some (vi q2)]) (st' := [vi q2, vi v5]) (h' := q1.2) 19 2 (Nat.le_of_ble_eq_true rfl) tk_HR_readItems rfl rfl ⟨trivial, trivial, trivial⟩ ?_
        refine Ev.callSN (ν := m_HF_holds) (av := [vi v5, vi q2]) (rest := []) (r1 := some (vi (p_HF_holds v5 q2))) (h1 := q1.2) 21 2 tk_HR_readItems rfl bb_HF_holds vv_HF_holds lk_2_91 (by decide) rfl rfl (Nat.le_of_ble_eq_true rfl) (s_HF_holds Γ v5 q2 q1.2) ?_
        show Ev Γ m_HR_readItems 44 [some (vr 2 0 3), some (vr 1 0 1), some (vi v2), some (vi v3), some (vr 31 0 o4), some (vi v5), some (vi v6), some (vi q2)] [vi (p_HF_holds v5 q2)] q1.2 r h'
        refine Ev.if_eq 22 49 tk_HR_readItems rfl (by decide) (fun hc5 => ?_) (fun hc5 => ?_)
        · replace hx := ip hc5 hx
          refine Ev.blk (pc' := 53) (lv' := [some (vr 2 0 3), some (vr 1 0 1), some (vi v2), some (vi v3), some (vr 31 0 o4), some (vi v5), some (vi v6), some (vi q2)]) (st' := [vi q2, vi v5]) (h' := q1.2) 25 2 (Nat.le_of_ble_eq_true rfl) tk_HR_readItems rfl rfl ⟨trivial, trivial, trivial⟩ ?_
          refine Ev.callSN (ν := m_HF_bit) (av := [vi q2]) (rest := [vi v5]) (r1 := some (vi (p_HF_bit q2))) (h1 := q1.2) 27 1 tk_HR_readItems rfl bb_HF_bit vv_HF_bit lk_2_95 (by decide) rfl rfl (Nat.le_of_ble_eq_true rfl) (s_HF_bit Γ q2 q1.2) ?_
          show Ev Γ m_HR_readItems 56 [some (vr 2 0 3), some (vr 1 0 1), some (vi v2), some (vi v3), some (vr 31 0 o4), some (vi v5), some (vi v6), some (vi q2)] [vi (p_HF_bit q2), vi v5] q1.2 r h'
          refine Ev.blk (pc' := 75) (lv' := [some (vr 2 0 3), some (vr 1 0 1), some (vi v2), some (vi v3), some (vr 31 0 o4), some (vi (v5 ||| (p_HF_bit q2))), some (vi v6), some (vi q2)]) (st' := [vi q2, vi v3, vi v2, vr 1 0 1, vr 2 0 3]) (h' := (wI q1.2 1 2 ((q1.2.1 1 2) + (ii 1)))) 28 13 (Nat.le_of_ble_eq_true rfl) tk_HR_readItems rfl rfl ⟨trivial, trivial, trivial, trivial, trivial, trivial, trivial, trivial, trivial, trivial, trivial, trivial, trivial, trivial⟩ ?_
          obtain ⟨q3, hq6, hx⟩ := bd hx
          refine Ev.callV (ν := m_HR_readNumber) (av := [vr 1 0 1, vi v2, vi v3, vi q2]) (rest := []) (r1 := some (vi q3.1)) (h1 := q3.2) (ci := 2) (nn := 0) (o := 3) 41 4 tk_HR_readItems rfl bb_HR_readNumber vv_HR_readNumber lk_2_99 (by decide) rfl rfl (Or.inl rfl) (Nat.le_of_ble_eq_true rfl) (s_HR_readNumber Γ v2 v3 q2 (wI q1.2 1 2 ((q1.2.1 1 2) + (ii 1))) _ hq6) ?_
          show Ev Γ m_HR_readItems 78 [some (vr 2 0 3), some (vr 1 0 1), some (vi v2), some (vi v3), some (vr 31 0 o4), some (vi (v5 ||| (p_HF_bit q2))), some (vi v6), some (vi q2)] [vi q3.1] q3.2 r h'
          refine Ev.if_ne 42 83 tk_HR_readItems rfl (by decide) (fun hc7 => ?_) (fun hc7 => ?_)
          · replace hx := ia hc7 hx
            refine Ev.blk (pc' := 12) (lv' := [some (vr 2 0 3), some (vr 1 0 1), some (vi v2), some (vi v3), some (vr 31 0 o4), some (vi (v5 ||| (p_HF_bit q2))), some (vi (v6 + ii 1)), some (vi q2)]) (st' := []) (h' := q3.2) 45 2 (Nat.le_of_ble_eq_true rfl) tk_HR_readItems rfl rfl ⟨trivial, trivial, trivial⟩ ?_
            exact Ev.msk [true, true, true, true, true, true, true, false] (ih v2 v3 o4 (v5 ||| (p_HF_bit q2)) (v6 + ii 1) q3.2 _ hx r h' hP)
          · replace hx := ip hc7 hx
            refine Ev.blk (pc' := 82) (lv' := [some (vr 2 0 3), some (vr 1 0 1), some (vi v2), some (vi v3), some (vr 31 0 o4), some (vi (v5 ||| (p_HF_bit q2))), some (vi v6), some (vi q2)]) (st' := [vi (ii 0)]) (h' := q3.2) 43 1 (Nat.le_of_ble_eq_true rfl) tk_HR_readItems rfl rfl ⟨trivial, trivial⟩ ?_
            obtain rfl := Option.some.inj hx
            obtain ⟨rfl, rfl⟩ := hP
            exact Ev.zret 44 tk_HR_readItems rfl rfl rfl
        · replace hx := ia hc5 hx
          refine Ev.blk (pc' := 48) (lv' := [some (vr 2 0 3), some (vr 1 0 1), some (vi v2), some (vi v3), some (vr 31 0 o4), some (vi v5), some (vi v6), some (vi q2)]) (st' := [vi (ii 0)]) (h' := q1.2) 23 1 (Nat.le_of_ble_eq_true rfl) tk_HR_readItems rfl rfl ⟨trivial, trivial⟩ ?_
          obtain rfl := Option.some.inj hx
          obtain ⟨rfl, rfl⟩ := hP
          exact Ev.zret 24 tk_HR_readItems rfl rfl rfl
      · replace hx := ia hc4 hx
        refine Ev.blk (pc' := 36) (lv' := [some (vr 2 0 3), some (vr 1 0 1), some (vi v2), some (vi v3), some (vr 31 0 o4), some (vi v5), some (vi v6), some (vi q2)]) (st' := [vi (ii 1)]) (h' := q1.2) 17 1 (Nat.le_of_ble_eq_true rfl) tk_HR_readItems rfl rfl ⟨trivial, trivial⟩ ?_
        obtain rfl := Option.some.inj hx
        obtain ⟨rfl, rfl⟩ := hP
        exact Ev.zret 18 tk_HR_readItems rfl rfl rfl
set_option maxRecDepth 4000 in
theorem s_HR_readItems (Γ : AG) (a2 : Int32) (a3 : Int32) (h : AH) (x : Int32 × AH) (hx : f_HR_readItems a2 a3 h = some x) : MetA Γ m_HR_readItems [vr 2 0 3, vr 1 0 1, vi a2, vi a3] h (some (vi x.1)) x.2 := by
  refine Ev.met rfl rfl (Nat.le_of_ble_eq_true rfl) ?_
  show Ev Γ m_HR_readItems 0 [some (vr 2 0 3), some (vr 1 0 1), some (vi a2), some (vi a3), none, none, none, none] [] h _ _
  obtain ⟨r, hr⟩ : ∃ r : Option AV, r = some (vi x.1) := ⟨_, rfl⟩
  obtain ⟨h', hh⟩ : ∃ h' : AH, h' = x.2 := ⟨_, rfl⟩
  have hP : r = some (vi x.1) ∧ h' = x.2 := ⟨hr, hh⟩
  suffices hS : Ev Γ m_HR_readItems 0 [some (vr 2 0 3), some (vr 1 0 1), some (vi a2), some (vi a3), none, none, none, none] [] h r h' by rw [hr, hh] at hS; exact hS
  clear hr hh
  unfold f_HR_readItems at hx
  refine Ev.blk (pc' := 1) (lv' := [some (vr 2 0 3), some (vr 1 0 1), some (vi a2), some (vi a3), none, none, none, none]) (st' := [vi a2]) (h' := h) 0 1 (Nat.le_of_ble_eq_true rfl) tk_HR_readItems rfl rfl ⟨trivial, trivial⟩ ?_
  refine Ev.callS (ν := m_HR_lettersOf) (av := [vi a2]) (rest := []) (r1 := some (vr 31 0 (p_HR_lettersOf a2))) (h1 := h) 1 1 tk_HR_readItems rfl bb_HR_lettersOf vv_HR_lettersOf lk_2_87 (by decide) rfl rfl (Nat.le_of_ble_eq_true rfl) (s_HR_lettersOf Γ a2 h) ?_
  show Ev Γ m_HR_readItems 4 [some (vr 2 0 3), some (vr 1 0 1), some (vi a2), some (vi a3), none, none, none, none] [vr 31 0 (p_HR_lettersOf a2)] h r h'
  refine Ev.blk (pc' := 12) (lv' := [some (vr 2 0 3), some (vr 1 0 1), some (vi a2), some (vi a3), some (vr 31 0 (p_HR_lettersOf a2)), some (vi (ii 0)), some (vi (ii 0)), none]) (st' := []) (h' := h) 2 5 (Nat.le_of_ble_eq_true rfl) tk_HR_readItems rfl rfl ⟨trivial, trivial, trivial, trivial, trivial, trivial⟩ ?_
  refine Ev.msk [true, true, true, true, true, true, true, false] ?_
  show Ev Γ m_HR_readItems 12 [some (vr 2 0 3), some (vr 1 0 1), some (vi a2), some (vi a3), some (vr 31 0 (p_HR_lettersOf a2)), some (vi (ii 0)), some (vi (ii 0)), none] [] h r h'
  exact l_HR_readItems_L12 Γ FU a2 a3 (p_HR_lettersOf a2) (ii 0) (ii 0) h _ hx r h' hP
