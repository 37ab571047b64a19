theorem s_HF_turned (Γ : AG) (a0 : Int64) (h : AH) : MetA Γ m_HF_turned [vl a0] h (some (vl (p_HF_turned a0))) h := by
  refine Ev.met rfl rfl (Nat.le_of_ble_eq_true rfl) ?_
  generalize hx : p_HF_turned a0 = x
  show Ev Γ m_HF_turned 0 [some (vl a0), none] [] h _ _
  obtain ⟨r, hr⟩ : ∃ r : Option AV, r = some (vl x) := ⟨_, rfl⟩
  obtain ⟨h', hh⟩ : ∃ h' : AH, h' = h := ⟨_, rfl⟩
  have hP : r = some (vl x) ∧ h' = h := ⟨hr, hh⟩
  suffices hS : Ev Γ m_HF_turned 0 [some (vl a0), none] [] h r h' by rw [hr, hh] at hS; exact hS
  clear hr hh
  unfold p_HF_turned at hx
  refine Ev.blk (pc' := 9) (lv' := [some (vl a0), none]) (st' := [vl ((a0 * (Int64.ofInt 6364136223846793005)) + (Int64.ofInt 1442695040888963407))]) (h' := h) 0 5 (Nat.le_of_ble_eq_true rfl) tk_HF_turned rfl rfl ⟨trivial, trivial, trivial, trivial, trivial, trivial⟩ ?_
  subst hx
  obtain ⟨rfl, rfl⟩ := hP
  exact Ev.lret 5 tk_HF_turned rfl rfl
set_option maxRecDepth 4000 in
theorem s_HF_drawn (Γ : AG) (a0 : Int64) (a2 : Int32) (h : AH) (x : Int32) (hx : f_HF_drawn a0 a2 h = some x) : MetA Γ m_HF_drawn [vl a0, vi a2] h (some (vi x)) h := by
  refine Ev.met rfl rfl (Nat.le_of_ble_eq_true rfl) ?_
  show Ev Γ m_HF_drawn 0 [some (vl a0), none, some (vi a2)] [] h _ _
  obtain ⟨r, hr⟩ : ∃ r : Option AV, r = some (vi x) := ⟨_, rfl⟩
  obtain ⟨h', hh⟩ : ∃ h' : AH, h' = h := ⟨_, rfl⟩
  have hP : r = some (vi x) ∧ h' = h := ⟨hr, hh⟩
  suffices hS : Ev Γ m_HF_drawn 0 [some (vl a0), none, some (vi a2)] [] h r h' by rw [hr, hh] at hS; exact hS
  clear hr hh
  unfold f_HF_drawn at hx
  refine Ev.blk (pc' := 2) (lv' := [some (vl a0), none, some (vi a2)]) (st' := [vi (ii 1), vi a2]) (h' := h) 0 2 (Nat.le_of_ble_eq_true rfl) tk_HF_drawn rfl rfl ⟨trivial, trivial, trivial⟩ ?_
  refine Ev.icmp_ge 2 9 tk_HF_drawn rfl (by decide) (fun hc1 => ?_) (fun hc1 => ?_)
  · replace hx := ip hc1 hx
    obtain ⟨hg2, hx⟩ := gd hx
    refine Ev.blk (pc' := 17) (lv' := [some (vl a0), none, some (vi a2)]) (st' := [vi ((remL (ushL a0 (ii 33)) a2.toInt64).toInt32)]) (h' := h) 5 7 (Nat.le_of_ble_eq_true rfl) tk_HF_drawn rfl rfl ⟨trivial, trivial, trivial, trivial, trivial, hg2, trivial, trivial⟩ ?_
    obtain rfl := Option.some.inj hx
    obtain ⟨rfl, rfl⟩ := hP
    exact Ev.iret 12 tk_HF_drawn rfl rfl
  · replace hx := ia hc1 hx
    refine Ev.blk (pc' := 17) (lv' := [some (vl a0), none, some (vi a2)]) (st' := [vi (ii 0)]) (h' := h) 3 2 (Nat.le_of_ble_eq_true rfl) tk_HF_drawn rfl rfl ⟨trivial, trivial, trivial⟩ ?_
    obtain rfl := Option.some.inj hx
    obtain ⟨rfl, rfl⟩ := hP
    exact Ev.iret 12 tk_HF_drawn rfl rfl
set_option maxRecDepth 4000 in
theorem l_HF_stroll_L29 (Γ : AG) : ∀ (n : Nat) (v1 : Int32) (v4 : Int64) (v6 : Int32) (v7 : Int32) (h : AH) (x : Int32 × AH), HF_stroll_L29 n v1 v4 v6 v7 h = some x → ∀ (r : Option AV) (h' : AH), r = some (vi x.1) ∧ h' = x.2 → Ev Γ m_HF_stroll 29 [some (vr 0 0 0), some (vi v1), none, none, some (vl v4), none, some (vi v6), some (vi v7), none, none] [] h r h' := by
  intro n
  induction n with
  | zero => intro v1 v4 v6 v7 h x hx; cases hx
  | succ n ih =>
    intro v1 v4 v6 v7 h x hx r h' hP
    replace hx : HF_stroll_L29_b (HF_stroll_L29 n) v1 v4 v6 v7 h = some x := hx
    unfold HF_stroll_L29_b at hx
    refine Ev.blk (pc' := 32) (lv' := [some (vr 0 0 0), some (vi v1), none, none, some (vl v4), none, some (vi v6), some (vi v7), none, none]) (st' := [vi v1, vi v7]) (h' := h) 17 2 (Nat.le_of_ble_eq_true rfl) tk_HF_stroll rfl rfl ⟨trivial, trivial, trivial⟩ ?_
    refine Ev.icmp_ge 19 137 tk_HF_stroll rfl (by decide) (fun hc1 => ?_) (fun hc1 => ?_)
    · replace hx := ip hc1 hx
      refine Ev.blk (pc' := 139) (lv' := [some (vr 0 0 0), some (vi v1), none, none, some (vl v4), none, some (vi v6), some (vi v7), none, none]) (st' := [vi v6]) (h' := h) 67 1 (Nat.le_of_ble_eq_true rfl) tk_HF_stroll rfl rfl ⟨trivial, trivial⟩ ?_
      obtain rfl := Option.some.inj hx
      obtain ⟨rfl, rfl⟩ := hP
      exact Ev.iret 68 tk_HF_stroll rfl rfl
    · replace hx := ia hc1 hx
      refine Ev.blk (pc' := 37) (lv' := [some (vr 0 0 0), some (vi v1), none, none, some (vl v4), none, some (vi v6), some (vi v7), none, none]) (st' := [vl v4]) (h' := h) 20 1 (Nat.le_of_ble_eq_true rfl) tk_HF_stroll rfl rfl ⟨trivial, trivial⟩ ?_
      refine Ev.callS (ν := m_HF_turned) (av := [vl v4]) (rest := []) (r1 := some (vl (p_HF_turned v4))) (h1 := h) 21 1 tk_HF_stroll rfl bb_HF_turned vv_HF_turned lk_0_242 (by decide) rfl rfl (Nat.le_of_ble_eq_true rfl) (s_HF_turned Γ v4 h) ?_
      show Ev Γ m_HF_stroll 40 [some (vr 0 0 0), some (vi v1), none, none, some (vl v4), none, some (vi v6), some (vi v7), none, none] [vl (p_HF_turned v4)] h r h'
      refine Ev.blk (pc' := 51) (lv' := [some (vr 0 0 0), some (vi v1), none, none, some (vl (p_HF_turned v4)), none, some (vi v6), some (vi v7), none, none]) (st' := [vi (h.1 (h.2.2 0 13) 10), vl (p_HF_turned v4)]) (h' := h) 22 5 (Nat.le_of_ble_eq_true rfl) tk_HF_stroll rfl rfl ⟨trivial, trivial, trivial, trivial, trivial, trivial⟩ ?_
      obtain ⟨q1, hq2, hx⟩ := bd hx
      refine Ev.callS (ν := m_HF_drawn) (av := [vl (p_HF_turned v4), vi (h.1 (h.2.2 0 13) 10)]) (rest := []) (r1 := some (vi q1)) (h1 := h) 27 2 tk_HF_stroll rfl bb_HF_drawn vv_HF_drawn lk_0_249 (by decide) rfl rfl (Nat.le_of_ble_eq_true rfl) (s_HF_drawn Γ (p_HF_turned v4) (h.1 (h.2.2 0 13) 10) h _ hq2) ?_
      show Ev Γ m_HF_stroll 54 [some (vr 0 0 0), some (vi v1), none, none, some (vl (p_HF_turned v4)), none, some (vi v6), some (vi v7), none, none] [vi q1] h r h'
      refine Ev.blk (pc' := 58) (lv' := [some (vr 0 0 0), some (vi v1), none, none, some (vl (p_HF_turned v4)), none, some (vi v6), some (vi v7), some (vi q1), none]) (st' := [vl (p_HF_turned v4)]) (h' := h) 28 2 (Nat.le_of_ble_eq_true rfl) tk_HF_stroll rfl rfl ⟨trivial, trivial, trivial⟩ ?_
      refine Ev.callS (ν := m_HF_turned) (av := [vl (p_HF_turned v4)]) (rest := []) (r1 := some (vl (p_HF_turned (p_HF_turned v4)))) (h1 := h) 30 1 tk_HF_stroll rfl bb_HF_turned vv_HF_turned lk_0_242 (by decide) rfl rfl (Nat.le_of_ble_eq_true rfl) (s_HF_turned Γ (p_HF_turned v4) h) ?_
      show Ev Γ m_HF_stroll 61 [some (vr 0 0 0), some (vi v1), none, none, some (vl (p_HF_turned v4)), none, some (vi v6), some (vi v7), some (vi q1), none] [vl (p_HF_turned (p_HF_turned v4))] h r h'
      refine Ev.blk (pc' := 73) (lv' := [some (vr 0 0 0), some (vi v1), none, none, some (vl (p_HF_turned (p_HF_turned v4))), none, some (vi v6), some (vi v7), some (vi q1), none]) (st' := [vi (ii 4), vl (p_HF_turned (p_HF_turned v4)), vi q1, vr 8 0 13, vr 0 0 0]) (h' := h) 31 7 (Nat.le_of_ble_eq_true rfl) tk_HF_stroll rfl rfl ⟨trivial, trivial, trivial, trivial, trivial, trivial, trivial, trivial⟩ ?_
      obtain ⟨q2, hq3, hx⟩ := bd hx
      refine Ev.callS (ν := m_HF_drawn) (av := [vl (p_HF_turned (p_HF_turned v4)), vi (ii 4)]) (rest := [vi q1, vr 8 0 13, vr 0 0 0]) (r1 := some (vi q2)) (h1 := h) 38 2 tk_HF_stroll rfl bb_HF_drawn vv_HF_drawn lk_0_249 (by decide) rfl rfl (Nat.le_of_ble_eq_true rfl) (s_HF_drawn Γ (p_HF_turned (p_HF_turned v4)) (ii 4) h _ hq3) ?_
      show Ev Γ m_HF_stroll 76 [some (vr 0 0 0), some (vi v1), none, none, some (vl (p_HF_turned (p_HF_turned v4))), none, some (vi v6), some (vi v7), some (vi q1), none] [vi q2, vi q1, vr 8 0 13, vr 0 0 0] h r h'
      obtain ⟨q3, hq4, hx⟩ := bd hx
      refine Ev.callV (ν := m_HF_goal) (av := [vr 8 0 13, vi q1, vi q2]) (rest := []) (r1 := some (vi q3)) (h1 := h) (ci := 0) (nn := 0) (o := 0) 39 3 tk_HF_stroll rfl bb_HF_goal vv_HF_goal lk_0_203 (by decide) rfl rfl (Or.inl rfl) (Nat.le_of_ble_eq_true rfl) (s_HF_goal Γ 13 q1 q2 h _ hq4) ?_
      show Ev Γ m_HF_stroll 79 [some (vr 0 0 0), some (vi v1), none, none, some (vl (p_HF_turned (p_HF_turned v4))), none, some (vi v6), some (vi v7), some (vi q1), none] [vi q3] h r h'
      refine Ev.blk (pc' := 84) (lv' := [some (vr 0 0 0), some (vi v1), none, none, some (vl (p_HF_turned (p_HF_turned v4))), none, some (vi v6), some (vi v7), some (vi q1), some (vi q3)]) (st' := [vi (ii (-1)), vi q3]) (h' := h) 40 3 (Nat.le_of_ble_eq_true rfl) tk_HF_stroll rfl rfl ⟨trivial, trivial, trivial, trivial⟩ ?_
      obtain ⟨q7, hq5, hx⟩ := bd hx
      have K6 : Ev Γ m_HF_stroll 131 [some (vr 0 0 0), some (vi v1), none, none, some (vl q7.1), none, some (vi q7.2.1), some (vi v7), none, none] [] q7.2.2 r h' := by
        refine Ev.blk (pc' := 29) (lv' := [some (vr 0 0 0), some (vi v1), none, none, some (vl q7.1), none, some (vi q7.2.1), some (vi (v7 + ii 1)), none, none]) (st' := []) (h' := q7.2.2) 65 2 (Nat.le_of_ble_eq_true rfl) tk_HF_stroll rfl rfl ⟨trivial, trivial, trivial⟩ ?_
        exact Ev.msk [true, true, false, false, true, false, true, true, false, false] (ih v1 q7.1 q7.2.1 (v7 + ii 1) q7.2.2 _ hx r h' hP)
      clear hx
      refine Ev.icmp_eq 43 131 tk_HF_stroll rfl (by decide) (fun hc7 => ?_) (fun hc7 => ?_)
      · replace hq5 := ip hc7 hq5
        obtain rfl := Option.some.inj hq5
        exact Ev.msk [true, true, false, false, true, false, true, true, false, false] K6
      · replace hq5 := ia hc7 hq5
        refine Ev.blk (pc' := 89) (lv' := [some (vr 0 0 0), some (vi v1), none, none, some (vl (p_HF_turned (p_HF_turned v4))), none, some (vi v6), some (vi v7), some (vi q1), some (vi q3)]) (st' := [vl (p_HF_turned (p_HF_turned v4))]) (h' := h) 44 1 (Nat.le_of_ble_eq_true rfl) tk_HF_stroll rfl rfl ⟨trivial, trivial⟩ ?_
        refine Ev.callS (ν := m_HF_turned) (av := [vl (p_HF_turned (p_HF_turned v4))]) (rest := []) (r1 := some (vl (p_HF_turned (p_HF_turned (p_HF_turned v4))))) (h1 := h) 45 1 tk_HF_stroll rfl bb_HF_turned vv_HF_turned lk_0_242 (by decide) rfl rfl (Nat.le_of_ble_eq_true rfl) (s_HF_turned Γ (p_HF_turned (p_HF_turned v4)) h) ?_
        show Ev Γ m_HF_stroll 92 [some (vr 0 0 0), some (vi v1), none, none, some (vl (p_HF_turned (p_HF_turned v4))), none, some (vi v6), some (vi v7), some (vi q1), some (vi q3)] [vl (p_HF_turned (p_HF_turned (p_HF_turned v4)))] h r h'
        refine Ev.blk (pc' := 103) (lv' := [some (vr 0 0 0), some (vi v1), none, none, some (vl (p_HF_turned (p_HF_turned (p_HF_turned v4)))), none, some (vi v6), some (vi v7), some (vi q1), some (vi q3)]) (st' := [vi (ii 10), vl (p_HF_turned (p_HF_turned (p_HF_turned v4))), vi q3, vi q1, vr 0 0 0]) (h' := h) 46 6 (Nat.le_of_ble_eq_true rfl) tk_HF_stroll rfl rfl ⟨trivial, trivial, trivial, trivial, trivial, trivial, trivial⟩ ?_
        obtain ⟨q4, hq8, hq5⟩ := bd hq5
        refine Ev.callS (ν := m_HF_drawn) (av := [vl (p_HF_turned (p_HF_turned (p_HF_turned v4))), vi (ii 10)]) (rest := [vi q3, vi q1, vr 0 0 0]) (r1 := some (vi q4)) (h1 := h) 52 2 tk_HF_stroll rfl bb_HF_drawn vv_HF_drawn lk_0_249 (by decide) rfl rfl (Nat.le_of_ble_eq_true rfl) (s_HF_drawn Γ (p_HF_turned (p_HF_turned (p_HF_turned v4))) (ii 10) h _ hq8) ?_
        show Ev Γ m_HF_stroll 106 [some (vr 0 0 0), some (vi v1), none, none, some (vl (p_HF_turned (p_HF_turned (p_HF_turned v4)))), none, some (vi v6), some (vi v7), some (vi q1), some (vi q3)] [vi q4, vi q3, vi q1, vr 0 0 0] h r h'
        refine Ev.blk (pc' := 113) (lv' := [some (vr 0 0 0), some (vi v1), none, none, some (vl (p_HF_turned (p_HF_turned (p_HF_turned v4)))), none, some (vi v6), some (vi v7), some (vi q1), some (vi q3)]) (st' := [vi (ii 4), vi q1, vr 3 0 (h.2.2 0 13), vi q4, vi q3, vi q1, vr 0 0 0]) (h' := h) 53 4 (Nat.le_of_ble_eq_true rfl) tk_HF_stroll rfl rfl ⟨trivial, trivial, trivial, trivial, trivial⟩ ?_
        obtain ⟨q5, hq9, hq5⟩ := bd hq5
        refine Ev.callV (ν := m_Heath_trait) (av := [vi q1, vi (ii 4)]) (rest := [vi q4, vi q3, vi q1, vr 0 0 0]) (r1 := some (vi q5)) (h1 := h) (ci := 3) (nn := 0) (o := (h.2.2 0 13)) 57 2 tk_HF_stroll rfl bb_Heath_trait vv_Heath_trait lk_0_196 (by decide) rfl rfl (Or.inl rfl) (Nat.le_of_ble_eq_true rfl) (s_Heath_trait Γ (h.2.2 0 13) q1 (ii 4) h _ hq9) ?_
        show Ev Γ m_HF_stroll 116 [some (vr 0 0 0), some (vi v1), none, none, some (vl (p_HF_turned (p_HF_turned (p_HF_turned v4)))), none, some (vi v6), some (vi v7), some (vi q1), some (vi q3)] [vi q5, vi q4, vi q3, vi q1, vr 0 0 0] h r h'
        have K10 : ∀ v10_0 : Int32, v10_0 = (if q5 ≤ q4 then (ii 0) else (ii 1)) → Ev Γ m_HF_stroll 124 [some (vr 0 0 0), some (vi v1), none, none, some (vl (p_HF_turned (p_HF_turned (p_HF_turned v4)))), none, some (vi v6), some (vi v7), none, none] [vi v10_0, vi q3, vi q1, vr 0 0 0] h r h' := by
          intro v10_0 e11
          subst e11
          obtain ⟨q6, hq12, hq5⟩ := bd hq5
          refine Ev.callV (ν := m_HF_stepTo) (av := [vi q1, vi q3, vi (if q5 ≤ q4 then (ii 0) else (ii 1))]) (rest := []) (r1 := some (vi q6.1)) (h1 := q6.2) (ci := 0) (nn := 0) (o := 0) 62 3 tk_HF_stroll rfl bb_HF_stepTo vv_HF_stepTo lk_0_206 (by decide) rfl rfl (Or.inl rfl) (Nat.le_of_ble_eq_true rfl) (s_HF_stepTo Γ q1 q3 (if q5 ≤ q4 then (ii 0) else (ii 1)) h _ hq12) ?_
          show Ev Γ m_HF_stroll 127 [some (vr 0 0 0), some (vi v1), none, none, some (vl (p_HF_turned (p_HF_turned (p_HF_turned v4)))), none, some (vi v6), some (vi v7), none, none] [vi q6.1] q6.2 r h'
          refine Ev.blk (pc' := 131) (lv' := [some (vr 0 0 0), some (vi v1), none, none, some (vl (p_HF_turned (p_HF_turned (p_HF_turned v4)))), none, some (vi (v6 + ii 1)), some (vi v7), none, none]) (st' := []) (h' := q6.2) 63 2 (Nat.le_of_ble_eq_true rfl) tk_HF_stroll rfl rfl ⟨trivial, trivial, trivial⟩ ?_
          obtain rfl := Option.some.inj hq5
          exact Ev.msk [true, true, false, false, true, false, true, true, false, false] K6
        refine Ev.icmp_ge 58 123 tk_HF_stroll rfl (by decide) (fun hc13 => ?_) (fun hc13 => ?_)
        · refine Ev.blk (pc' := 124) (lv' := [some (vr 0 0 0), some (vi v1), none, none, some (vl (p_HF_turned (p_HF_turned (p_HF_turned v4)))), none, some (vi v6), some (vi v7), some (vi q1), some (vi q3)]) (st' := [vi (ii 0), vi q3, vi q1, vr 0 0 0]) (h' := h) 61 1 (Nat.le_of_ble_eq_true rfl) tk_HF_stroll rfl rfl ⟨trivial, trivial⟩ ?_
          exact Ev.msk [true, true, false, false, true, false, true, true, false, false] (K10 _ (by first | rfl | simp only [if_pos hc13]))
        · refine Ev.blk (pc' := 124) (lv' := [some (vr 0 0 0), some (vi v1), none, none, some (vl (p_HF_turned (p_HF_turned (p_HF_turned v4)))), none, some (vi v6), some (vi v7), some (vi q1), some (vi q3)]) (st' := [vi (ii 1), vi q3, vi q1, vr 0 0 0]) (h' := h) 59 2 (Nat.le_of_ble_eq_true rfl) tk_HF_stroll rfl rfl ⟨trivial, trivial, trivial⟩ ?_
          exact Ev.msk [true, true, false, false, true, false, true, true, false, false] (K10 _ (by first | rfl | simp only [if_neg hc13]))
set_option maxRecDepth 4000 in
theorem s_HF_stroll (Γ : AG) (a1 : Int32) (a2 : Int64) (h : AH) (x : Int32 × AH) (hx : f_HF_stroll a1 a2 h = some x) : MetA Γ m_HF_stroll [vr 0 0 0, vi a1, vl a2] h (some (vi x.1)) x.2 := by
  refine Ev.met rfl rfl (Nat.le_of_ble_eq_true rfl) ?_
  show Ev Γ m_HF_stroll 0 [some (vr 0 0 0), some (vi a1), some (vl a2), none, none, none, none, none, none, none] [] h _ _
  obtain ⟨r, hr⟩ : ∃ r : Option AV, r = some (vi x.1) := ⟨_, rfl⟩
  obtain ⟨h', hh⟩ : ∃ h' : AH, h' = x.2 := ⟨_, rfl⟩
  have hP : r = some (vi x.1) ∧ h' = x.2 := ⟨hr, hh⟩
  suffices hS : Ev Γ m_HF_stroll 0 [some (vr 0 0 0), some (vi a1), some (vl a2), none, none, none, none, none, none, none] [] h r h' by rw [hr, hh] at hS; exact hS
  clear hr hh
  unfold f_HF_stroll at hx
  refine Ev.blk (pc' := 1) (lv' := [some (vr 0 0 0), some (vi a1), some (vl a2), none, none, none, none, none, none, none]) (st' := [vr 0 0 0]) (h' := h) 0 1 (Nat.le_of_ble_eq_true rfl) tk_HF_stroll rfl rfl ⟨trivial, trivial⟩ ?_
  refine Ev.callV (ν := m_HF_hasHeath) (av := []) (rest := []) (r1 := some (vi (p_HF_hasHeath h))) (h1 := h) (ci := 0) (nn := 0) (o := 0) 1 0 tk_HF_stroll rfl bb_HF_hasHeath vv_HF_hasHeath lk_0_137 (by decide) rfl rfl (Or.inl rfl) (Nat.le_of_ble_eq_true rfl) (s_HF_hasHeath Γ h) ?_
  show Ev Γ m_HF_stroll 4 [some (vr 0 0 0), some (vi a1), some (vl a2), none, none, none, none, none, none, none] [vi (p_HF_hasHeath h)] h r h'
  refine Ev.if_eq 2 18 tk_HF_stroll rfl (by decide) (fun hc1 => ?_) (fun hc1 => ?_)
  · replace hx := ip hc1 hx
    refine Ev.blk (pc' := 19) (lv' := [some (vr 0 0 0), some (vi a1), some (vl a2), none, none, none, none, none, none, none]) (st' := [vi (ii (-1))]) (h' := h) 9 1 (Nat.le_of_ble_eq_true rfl) tk_HF_stroll rfl rfl ⟨trivial, trivial⟩ ?_
    obtain rfl := Option.some.inj hx
    obtain ⟨rfl, rfl⟩ := hP
    exact Ev.iret 10 tk_HF_stroll rfl rfl
  · replace hx := ia hc1 hx
    refine Ev.blk (pc' := 9) (lv' := [some (vr 0 0 0), some (vi a1), some (vl a2), none, none, none, none, none, none, none]) (st' := [vi (ii 1), vi a1]) (h' := h) 3 2 (Nat.le_of_ble_eq_true rfl) tk_HF_stroll rfl rfl ⟨trivial, trivial, trivial⟩ ?_
    refine Ev.icmp_lt 5 18 tk_HF_stroll rfl (by decide) (fun hc2 => ?_) (fun hc2 => ?_)
    · replace hx := ip hc2 hx
      refine Ev.blk (pc' := 19) (lv' := [some (vr 0 0 0), some (vi a1), some (vl a2), none, none, none, none, none, none, none]) (st' := [vi (ii (-1))]) (h' := h) 9 1 (Nat.le_of_ble_eq_true rfl) tk_HF_stroll rfl rfl ⟨trivial, trivial⟩ ?_
      obtain rfl := Option.some.inj hx
      obtain ⟨rfl, rfl⟩ := hP
      exact Ev.iret 10 tk_HF_stroll rfl rfl
    · replace hx := ia hc2 hx
      refine Ev.blk (pc' := 15) (lv' := [some (vr 0 0 0), some (vi a1), some (vl a2), none, none, none, none, none, none, none]) (st' := [vi (ii 60), vi a1]) (h' := h) 6 2 (Nat.le_of_ble_eq_true rfl) tk_HF_stroll rfl rfl ⟨trivial, trivial, trivial⟩ ?_
      refine Ev.icmp_le 8 20 tk_HF_stroll rfl (by decide) (fun hc3 => ?_) (fun hc3 => ?_)
      · replace hx := ip hc3 hx
        refine Ev.blk (pc' := 29) (lv' := [some (vr 0 0 0), some (vi a1), some (vl a2), none, some (vl a2), none, some (vi (ii 0)), some (vi (ii 0)), none, none]) (st' := []) (h' := h) 11 6 (Nat.le_of_ble_eq_true rfl) tk_HF_stroll rfl rfl ⟨trivial, trivial, trivial, trivial, trivial, trivial, trivial⟩ ?_
        refine Ev.msk [true, true, false, false, true, false, true, true, false, false] ?_
        show Ev Γ m_HF_stroll 29 [some (vr 0 0 0), some (vi a1), none, none, some (vl a2), none, some (vi (ii 0)), some (vi (ii 0)), none, none] [] h r h'
        exact l_HF_stroll_L29 Γ FU a1 a2 (ii 0) (ii 0) h _ hx r h' hP
      · replace hx := ia hc3 hx
        refine Ev.blk (pc' := 19) (lv' := [some (vr 0 0 0), some (vi a1), some (vl a2), none, none, none, none, none, none, none]) (st' := [vi (ii (-1))]) (h' := h) 9 1 (Nat.le_of_ble_eq_true rfl) tk_HF_stroll rfl rfl ⟨trivial, trivial⟩ ?_
        obtain rfl := Option.some.inj hx
        obtain ⟨rfl, rfl⟩ := hP
        exact Ev.iret 10 tk_HF_stroll rfl rfl
set_option maxRecDepth 4000 in
theorem s_Acts_latest (Γ : AG) (a1 : Int32) (h : AH) (x : Int32) (hx : f_Acts_latest a1 h = some x) : MetA Γ m_Acts_latest [vr 9 0 31, vi a1] h (some (vi x)) h := by
  refine Ev.met rfl rfl (Nat.le_of_ble_eq_true rfl) ?_
  show Ev Γ m_Acts_latest 0 [some (vr 9 0 31), some (vi a1), none] [] h _ _
  obtain ⟨r, hr⟩ : ∃ r : Option AV, r = some (vi x) := ⟨_, rfl⟩
  obtain ⟨h', hh⟩ : ∃ h' : AH, h' = h := ⟨_, rfl⟩
  have hP : r = some (vi x) ∧ h' = h := ⟨hr, hh⟩
  suffices hS : Ev Γ m_Acts_latest 0 [some (vr 9 0 31), some (vi a1), none] [] h r h' by rw [hr, hh] at hS; exact hS
  clear hr hh
  unfold f_Acts_latest at hx
  obtain ⟨hg1, hx⟩ := gd hx
  refine Ev.blk (pc' := 18) (lv' := [some (vr 9 0 31), some (vi a1), some (vi (((remI (((h.1 31 2) + (ii 40)) - (ii 1)) (ii 40)) * (ii 4)) + a1))]) (st' := [vi (((remI (((h.1 31 2) + (ii 40)) - (ii 1)) (ii 40)) * (ii 4)) + a1)]) (h' := h) 0 14 (Nat.le_of_ble_eq_true rfl) tk_Acts_latest rfl rfl ⟨trivial, trivial, trivial, trivial, trivial, trivial, trivial, hg1, trivial, trivial, trivial, trivial, trivial, trivial, trivial⟩ ?_
  refine Ev.if_lt 14 39 tk_Acts_latest rfl (by decide) (fun hc2 => ?_) (fun hc2 => ?_)
  · replace hx := ip hc2 hx
    refine Ev.blk (pc' := 40) (lv' := [some (vr 9 0 31), some (vi a1), some (vi (((remI (((h.1 31 2) + (ii 40)) - (ii 1)) (ii 40)) * (ii 4)) + a1))]) (st' := [vi (ii 0)]) (h' := h) 25 1 (Nat.le_of_ble_eq_true rfl) tk_Acts_latest rfl rfl ⟨trivial, trivial⟩ ?_
    obtain rfl := Option.some.inj hx
    obtain ⟨rfl, rfl⟩ := hP
    exact Ev.iret 26 tk_Acts_latest rfl rfl
  · replace hx := ia hc2 hx
    refine Ev.blk (pc' := 27) (lv' := [some (vr 9 0 31), some (vi a1), some (vi (((remI (((h.1 31 2) + (ii 40)) - (ii 1)) (ii 40)) * (ii 4)) + a1))]) (st' := [vi (ii (160 : Int)), vi (((remI (((h.1 31 2) + (ii 40)) - (ii 1)) (ii 40)) * (ii 4)) + a1)]) (h' := h) 15 4 (Nat.le_of_ble_eq_true rfl) tk_Acts_latest rfl rfl ⟨trivial, trivial, trivial, trivial, trivial⟩ ?_
    refine Ev.icmp_ge 19 39 tk_Acts_latest rfl (by decide) (fun hc3 => ?_) (fun hc3 => ?_)
    · replace hx := ip hc3 hx
      refine Ev.blk (pc' := 40) (lv' := [some (vr 9 0 31), some (vi a1), some (vi (((remI (((h.1 31 2) + (ii 40)) - (ii 1)) (ii 40)) * (ii 4)) + a1))]) (st' := [vi (ii 0)]) (h' := h) 25 1 (Nat.le_of_ble_eq_true rfl) tk_Acts_latest rfl rfl ⟨trivial, trivial⟩ ?_
      obtain rfl := Option.some.inj hx
      obtain ⟨rfl, rfl⟩ := hP
      exact Ev.iret 26 tk_Acts_latest rfl rfl
    · replace hx := ia hc3 hx
      obtain ⟨hg4, hx⟩ := gd hx
      refine Ev.blk (pc' := 40) (lv' := [some (vr 9 0 31), some (vi a1), some (vi (((remI (((h.1 31 2) + (ii 40)) - (ii 1)) (ii 40)) * (ii 4)) + a1))]) (st' := [vi (h.1 32 (((remI (((h.1 31 2) + (ii 40)) - (ii 1)) (ii 40)) * (ii 4)) + a1).toNatClampNeg)]) (h' := h) 20 5 (Nat.le_of_ble_eq_true rfl) tk_Acts_latest rfl rfl ⟨trivial, trivial, trivial, hg4, trivial, trivial⟩ ?_
      obtain rfl := Option.some.inj hx
      obtain ⟨rfl, rfl⟩ := hP
      exact Ev.iret 26 tk_Acts_latest rfl rfl
set_option maxRecDepth 4000 in
theorem s_Acts_drop (Γ : AG) (h : AH) (x : AH) (hx : f_Acts_drop  h = some x) : MetA Γ m_Acts_drop [vr 9 0 31] h (none) x := by
  refine Ev.met rfl rfl (Nat.le_of_ble_eq_true rfl) ?_
  show Ev Γ m_Acts_drop 0 [some (vr 9 0 31)] [] h _ _
  obtain ⟨r, hr⟩ : ∃ r : Option AV, r = none := ⟨_, rfl⟩
  obtain ⟨h', hh⟩ : ∃ h' : AH, h' = x := ⟨_, rfl⟩
  have hP : r = none ∧ h' = x := ⟨hr, hh⟩
  suffices hS : Ev Γ m_Acts_drop 0 [some (vr 9 0 31)] [] h r h' by rw [hr, hh] at hS; exact hS
  clear hr hh
  unfold f_Acts_drop at hx
  obtain ⟨hg1, hx⟩ := gd hx
  refine Ev.blk (pc' := 24) (lv' := [some (vr 9 0 31)]) (st' := [vi (((wI h 31 2 (remI (((h.1 31 2) + (ii 40)) - (ii 1)) (ii 40))).1 31 1) - (ii 1)), vi (ii 0), vr 9 0 31]) (h' := (wI h 31 2 (remI (((h.1 31 2) + (ii 40)) - (ii 1)) (ii 40)))) 0 16 (Nat.le_of_ble_eq_true rfl) tk_Acts_drop rfl rfl ⟨trivial, trivial, trivial, trivial, trivial, trivial, trivial, trivial, hg1, trivial, trivial, trivial, trivial, trivial, trivial, trivial, trivial⟩ ?_
  refine Ev.mmax (rest := [vr 9 0 31]) 16 tk_Acts_drop rfl lk_9_28 (by decide) (Nat.le_of_ble_eq_true rfl) ?_
  show Ev Γ m_Acts_drop 27 [some (vr 9 0 31)] [vi (p_Math_max (ii 0) (((wI h 31 2 (remI (((h.1 31 2) + (ii 40)) - (ii 1)) (ii 40))).1 31 1) - (ii 1))), vr 9 0 31] (wI h 31 2 (remI (((h.1 31 2) + (ii 40)) - (ii 1)) (ii 40))) r h'
  refine Ev.blk (pc' := 30) (lv' := [some (vr 9 0 31)]) (st' := []) (h' := (wI (wI h 31 2 (remI (((h.1 31 2) + (ii 40)) - (ii 1)) (ii 40))) 31 1 (p_Math_max (ii 0) (((wI h 31 2 (remI (((h.1 31 2) + (ii 40)) - (ii 1)) (ii 40))).1 31 1) - (ii 1))))) 17 1 (Nat.le_of_ble_eq_true rfl) tk_Acts_drop rfl rfl ⟨trivial, trivial⟩ ?_
  obtain rfl := Option.some.inj hx
  obtain ⟨rfl, rfl⟩ := hP
  exact Ev.vret 18 tk_Acts_drop rfl rfl
set_option maxRecDepth 4000 in
theorem s_Moor_unstep (Γ : AG) (o0 : Nat) (a1 : Int32) (a2 : Int32) (a3 : Int32) (a4 : Int32) (h : AH) (x : AH) (hx : f_Moor_unstep o0 a1 a2 a3 a4 h = some x) : MetA Γ m_Moor_unstep [vr 8 0 o0, vi a1, vi a2, vi a3, vi a4] h (none) x := by
  refine Ev.met rfl rfl (Nat.le_of_ble_eq_true rfl) ?_
  show Ev Γ m_Moor_unstep 0 [some (vr 8 0 o0), some (vi a1), some (vi a2), some (vi a3), some (vi a4)] [] h _ _
  obtain ⟨r, hr⟩ : ∃ r : Option AV, r = none := ⟨_, rfl⟩
  obtain ⟨h', hh⟩ : ∃ h' : AH, h' = x := ⟨_, rfl⟩
  have hP : r = none ∧ h' = x := ⟨hr, hh⟩
  suffices hS : Ev Γ m_Moor_unstep 0 [some (vr 8 0 o0), some (vi a1), some (vi a2), some (vi a3), some (vi a4)] [] h r h' by rw [hr, hh] at hS; exact hS
  clear hr hh
  unfold f_Moor_unstep at hx
  refine Ev.blk (pc' := 1) (lv' := [some (vr 8 0 o0), some (vi a1), some (vi a2), some (vi a3), some (vi a4)]) (st' := [vi a1]) (h' := h) 0 1 (Nat.le_of_ble_eq_true rfl) tk_Moor_unstep rfl rfl ⟨trivial, trivial⟩ ?_
  refine Ev.if_lt 1 48 tk_Moor_unstep rfl (by decide) (fun hc1 => ?_) (fun hc1 => ?_)
  · replace hx := ip hc1 hx
    obtain rfl := Option.some.inj hx
    obtain ⟨rfl, rfl⟩ := hP
    exact Ev.vret 28 tk_Moor_unstep rfl rfl
  · replace hx := ia hc1 hx
    refine Ev.blk (pc' := 7) (lv' := [some (vr 8 0 o0), some (vi a1), some (vi a2), some (vi a3), some (vi a4)]) (st' := [vi (ii 6), vi a1]) (h' := h) 2 2 (Nat.le_of_ble_eq_true rfl) tk_Moor_unstep rfl rfl ⟨trivial, trivial, trivial⟩ ?_
    refine Ev.icmp_ge 4 48 tk_Moor_unstep rfl (by decide) (fun hc2 => ?_) (fun hc2 => ?_)
    · replace hx := ip hc2 hx
      obtain rfl := Option.some.inj hx
      obtain ⟨rfl, rfl⟩ := hP
      exact Ev.vret 28 tk_Moor_unstep rfl rfl
    · replace hx := ia hc2 hx
      refine Ev.blk (pc' := 11) (lv' := [some (vr 8 0 o0), some (vi a1), some (vi a2), some (vi a3), some (vi a4)]) (st' := [vi a3]) (h' := h) 5 1 (Nat.le_of_ble_eq_true rfl) tk_Moor_unstep rfl rfl ⟨trivial, trivial⟩ ?_
      refine Ev.if_eq 6 19 tk_Moor_unstep rfl (by decide) (fun hc3 => ?_) (fun hc3 => ?_)
      · replace hx := ip hc3 hx
        obtain ⟨hg4, hx⟩ := gd hx
        obtain ⟨hg5, hx⟩ := gd hx
        refine Ev.blk (pc' := 42) (lv' := [some (vr 8 0 o0), some (vi a1), some (vi a2), some (vi a3), some (vi a4)]) (st' := [vi (((wI (wI h (o0 + 1) a1.toNatClampNeg a2) (o0 + 3) a3.toNatClampNeg a4).1 o0 5) - (ii 1)), vi (ii 0), vr 8 0 o0]) (h' := (wI (wI h (o0 + 1) a1.toNatClampNeg a2) (o0 + 3) a3.toNatClampNeg a4)) 10 16 (Nat.le_of_ble_eq_true rfl) tk_Moor_unstep rfl rfl ⟨trivial, trivial, trivial, trivial, hg4, trivial, trivial, trivial, trivial, hg5, trivial, trivial, trivial, trivial, trivial, trivial, trivial⟩ ?_
        refine Ev.mmax (rest := [vr 8 0 o0]) 26 tk_Moor_unstep rfl lk_8_67 (by decide) (Nat.le_of_ble_eq_true rfl) ?_
        show Ev Γ m_Moor_unstep 45 [some (vr 8 0 o0), some (vi a1), some (vi a2), some (vi a3), some (vi a4)] [vi (p_Math_max (ii 0) (((wI (wI h (o0 + 1) a1.toNatClampNeg a2) (o0 + 3) a3.toNatClampNeg a4).1 o0 5) - (ii 1))), vr 8 0 o0] (wI (wI h (o0 + 1) a1.toNatClampNeg a2) (o0 + 3) a3.toNatClampNeg a4) r h'
        refine Ev.blk (pc' := 48) (lv' := [some (vr 8 0 o0), some (vi a1), some (vi a2), some (vi a3), some (vi a4)]) (st' := []) (h' := (wI (wI (wI h (o0 + 1) a1.toNatClampNeg a2) (o0 + 3) a3.toNatClampNeg a4) o0 5 (p_Math_max (ii 0) (((wI (wI h (o0 + 1) a1.toNatClampNeg a2) (o0 + 3) a3.toNatClampNeg a4).1 o0 5) - (ii 1))))) 27 1 (Nat.le_of_ble_eq_true rfl) tk_Moor_unstep rfl rfl ⟨trivial, trivial⟩ ?_
        obtain rfl := Option.some.inj hx
        obtain ⟨rfl, rfl⟩ := hP
        exact Ev.vret 28 tk_Moor_unstep rfl rfl
      · replace hx := ia hc3 hx
        refine Ev.blk (pc' := 16) (lv' := [some (vr 8 0 o0), some (vi a1), some (vi a2), some (vi a3), some (vi a4)]) (st' := [vi (ii 1), vi a3]) (h' := h) 7 2 (Nat.le_of_ble_eq_true rfl) tk_Moor_unstep rfl rfl ⟨trivial, trivial, trivial⟩ ?_
        refine Ev.icmp_ne 9 48 tk_Moor_unstep rfl (by decide) (fun hc6 => ?_) (fun hc6 => ?_)
        · replace hx := ia hc6 hx
          obtain rfl := Option.some.inj hx
          obtain ⟨rfl, rfl⟩ := hP
          exact Ev.vret 28 tk_Moor_unstep rfl rfl
        · replace hx := ip hc6 hx
          obtain ⟨hg7, hx⟩ := gd hx
          obtain ⟨hg8, hx⟩ := gd hx
          refine Ev.blk (pc' := 42) (lv' := [some (vr 8 0 o0), some (vi a1), some (vi a2), some (vi a3), some (vi a4)]) (st' := [vi (((wI (wI h (o0 + 1) a1.toNatClampNeg a2) (o0 + 3) a3.toNatClampNeg a4).1 o0 5) - (ii 1)), vi (ii 0), vr 8 0 o0]) (h' := (wI (wI h (o0 + 1) a1.toNatClampNeg a2) (o0 + 3) a3.toNatClampNeg a4)) 10 16 (Nat.le_of_ble_eq_true rfl) tk_Moor_unstep rfl rfl ⟨trivial, trivial, trivial, trivial, hg7, trivial, trivial, trivial, trivial, hg8, trivial, trivial, trivial, trivial, trivial, trivial, trivial⟩ ?_
          refine Ev.mmax (rest := [vr 8 0 o0]) 26 tk_Moor_unstep rfl lk_8_67 (by decide) (Nat.le_of_ble_eq_true rfl) ?_
          show Ev Γ m_Moor_unstep 45 [some (vr 8 0 o0), some (vi a1), some (vi a2), some (vi a3), some (vi a4)] [vi (p_Math_max (ii 0) (((wI (wI h (o0 + 1) a1.toNatClampNeg a2) (o0 + 3) a3.toNatClampNeg a4).1 o0 5) - (ii 1))), vr 8 0 o0] (wI (wI h (o0 + 1) a1.toNatClampNeg a2) (o0 + 3) a3.toNatClampNeg a4) r h'
          refine Ev.blk (pc' := 48) (lv' := [some (vr 8 0 o0), some (vi a1), some (vi a2), some (vi a3), some (vi a4)]) (st' := []) (h' := (wI (wI (wI h (o0 + 1) a1.toNatClampNeg a2) (o0 + 3) a3.toNatClampNeg a4) o0 5 (p_Math_max (ii 0) (((wI (wI h (o0 + 1) a1.toNatClampNeg a2) (o0 + 3) a3.toNatClampNeg a4).1 o0 5) - (ii 1))))) 27 1 (Nat.le_of_ble_eq_true rfl) tk_Moor_unstep rfl rfl ⟨trivial, trivial⟩ ?_
          obtain rfl := Option.some.inj hx
          obtain ⟨rfl, rfl⟩ := hP
          exact Ev.vret 28 tk_Moor_unstep rfl rfl
set_option maxRecDepth 4000 in
theorem s_Moor_dropWell (Γ : AG) (o0 : Nat) (a1 : Int32) (a2 : Int32) (h : AH) (x : AH) (hx : f_Moor_dropWell o0 a1 a2 h = some x) : MetA Γ m_Moor_dropWell [vr 8 0 o0, vi a1, vi a2] h (none) x := by
  refine Ev.met rfl rfl (Nat.le_of_ble_eq_true rfl) ?_
  show Ev Γ m_Moor_dropWell 0 [some (vr 8 0 o0), some (vi a1), some (vi a2)] [] h _ _
  obtain ⟨r, hr⟩ : ∃ r : Option AV, r = none := ⟨_, rfl⟩
  obtain ⟨h', hh⟩ : ∃ h' : AH, h' = x := ⟨_, rfl⟩
  have hP : r = none ∧ h' = x := ⟨hr, hh⟩
  suffices hS : Ev Γ m_Moor_dropWell 0 [some (vr 8 0 o0), some (vi a1), some (vi a2)] [] h r h' by rw [hr, hh] at hS; exact hS
  clear hr hh
  unfold f_Moor_dropWell at hx
  refine Ev.blk (pc' := 1) (lv' := [some (vr 8 0 o0), some (vi a1), some (vi a2)]) (st' := [vi a1]) (h' := h) 0 1 (Nat.le_of_ble_eq_true rfl) tk_Moor_dropWell rfl rfl ⟨trivial, trivial⟩ ?_
  refine Ev.if_lt 1 42 tk_Moor_dropWell rfl (by decide) (fun hc1 => ?_) (fun hc1 => ?_)
  · replace hx := ip hc1 hx
    obtain rfl := Option.some.inj hx
    obtain ⟨rfl, rfl⟩ := hP
    exact Ev.vret 25 tk_Moor_dropWell rfl rfl
  · replace hx := ia hc1 hx
    refine Ev.blk (pc' := 7) (lv' := [some (vr 8 0 o0), some (vi a1), some (vi a2)]) (st' := [vi (ii 30), vi a1]) (h' := h) 2 2 (Nat.le_of_ble_eq_true rfl) tk_Moor_dropWell rfl rfl ⟨trivial, trivial, trivial⟩ ?_
    refine Ev.icmp_ge 4 42 tk_Moor_dropWell rfl (by decide) (fun hc2 => ?_) (fun hc2 => ?_)
    · replace hx := ip hc2 hx
      obtain rfl := Option.some.inj hx
      obtain ⟨rfl, rfl⟩ := hP
      exact Ev.vret 25 tk_Moor_dropWell rfl rfl
    · replace hx := ia hc2 hx
      obtain ⟨hg3, hx⟩ := gd hx
      refine Ev.blk (pc' := 23) (lv' := [some (vr 8 0 o0), some (vi a1), some (vi a2)]) (st' := [vi a1, vi ((wI h (o0 + 5) a1.toNatClampNeg (ii 0)).1 o0 6), vr 8 0 o0]) (h' := (wI h (o0 + 5) a1.toNatClampNeg (ii 0))) 5 9 (Nat.le_of_ble_eq_true rfl) tk_Moor_dropWell rfl rfl ⟨trivial, trivial, trivial, trivial, hg3, trivial, trivial, trivial, trivial, trivial⟩ ?_
      refine Ev.callSN (ν := m_HF_bit) (av := [vi a1]) (rest := [vi ((wI h (o0 + 5) a1.toNatClampNeg (ii 0)).1 o0 6), vr 8 0 o0]) (r1 := some (vi (p_HF_bit a1))) (h1 := (wI h (o0 + 5) a1.toNatClampNeg (ii 0))) 14 1 tk_Moor_dropWell rfl bb_HF_bit vv_HF_bit lk_8_64 (by decide) rfl rfl (Nat.le_of_ble_eq_true rfl) (s_HF_bit Γ a1 (wI h (o0 + 5) a1.toNatClampNeg (ii 0))) ?_
      show Ev Γ m_Moor_dropWell 26 [some (vr 8 0 o0), some (vi a1), some (vi a2)] [vi (p_HF_bit a1), vi ((wI h (o0 + 5) a1.toNatClampNeg (ii 0)).1 o0 6), vr 8 0 o0] (wI h (o0 + 5) a1.toNatClampNeg (ii 0)) r h'
      refine Ev.blk (pc' := 42) (lv' := [some (vr 8 0 o0), some (vi a1), some (vi a2)]) (st' := []) (h' := (wI (wI (wI h (o0 + 5) a1.toNatClampNeg (ii 0)) o0 6 (((wI h (o0 + 5) a1.toNatClampNeg (ii 0)).1 o0 6) &&& ((p_HF_bit a1) ^^^ (ii (-1))))) o0 7 (((wI (wI h (o0 + 5) a1.toNatClampNeg (ii 0)) o0 6 (((wI h (o0 + 5) a1.toNatClampNeg (ii 0)).1 o0 6) &&& ((p_HF_bit a1) ^^^ (ii (-1))))).1 o0 7) - a2))) 15 10 (Nat.le_of_ble_eq_true rfl) tk_Moor_dropWell rfl rfl ⟨trivial, trivial, trivial, trivial, trivial, trivial, trivial, trivial, trivial, trivial, trivial⟩ ?_
      obtain rfl := Option.some.inj hx
      obtain ⟨rfl, rfl⟩ := hP
      exact Ev.vret 25 tk_Moor_dropWell rfl rfl
set_option maxRecDepth 4000 in
theorem s_HF_undo (Γ : AG) (h : AH) (x : Int32 × AH) (hx : f_HF_undo  h = some x) : MetA Γ m_HF_undo [vr 0 0 0] h (some (vi x.1)) x.2 := by
  refine Ev.met rfl rfl (Nat.le_of_ble_eq_true rfl) ?_
  show Ev Γ m_HF_undo 0 [some (vr 0 0 0), none, none, none, none] [] h _ _
  obtain ⟨r, hr⟩ : ∃ r : Option AV, r = some (vi x.1) := ⟨_, rfl⟩
  obtain ⟨h', hh⟩ : ∃ h' : AH, h' = x.2 := ⟨_, rfl⟩
  have hP : r = some (vi x.1) ∧ h' = x.2 := ⟨hr, hh⟩
  suffices hS : Ev Γ m_HF_undo 0 [some (vr 0 0 0), none, none, none, none] [] h r h' by rw [hr, hh] at hS; exact hS
  clear hr hh
  unfold f_HF_undo at hx
  refine Ev.blk (pc' := 7) (lv' := [some (vr 0 0 0), none, none, none, none]) (st' := [vi (h.1 31 1)]) (h' := h) 0 3 (Nat.le_of_ble_eq_true rfl) tk_HF_undo rfl rfl ⟨trivial, trivial, trivial, trivial⟩ ?_
  refine Ev.if_ne 3 12 tk_HF_undo rfl (by decide) (fun hc1 => ?_) (fun hc1 => ?_)
  · replace hx := ia hc1 hx
    refine Ev.blk (pc' := 17) (lv' := [some (vr 0 0 0), none, none, none, none]) (st' := [vi (ii 0), vr 9 0 31]) (h' := h) 6 3 (Nat.le_of_ble_eq_true rfl) tk_HF_undo rfl rfl ⟨trivial, trivial, trivial, trivial⟩ ?_
    obtain ⟨q1, hq2, hx⟩ := bd hx
    refine Ev.callV (ν := m_Acts_latest) (av := [vi (ii 0)]) (rest := []) (r1 := some (vi q1)) (h1 := h) (ci := 9) (nn := 0) (o := 31) 9 1 tk_HF_undo rfl bb_Acts_latest vv_Acts_latest lk_0_256 (by decide) rfl rfl (Or.inl rfl) (Nat.le_of_ble_eq_true rfl) (s_Acts_latest Γ (ii 0) h _ hq2) ?_
    show Ev Γ m_HF_undo 20 [some (vr 0 0 0), none, none, none, none] [vi q1] h r h'
    refine Ev.blk (pc' := 26) (lv' := [some (vr 0 0 0), some (vi q1), none, none, none]) (st' := [vi (ii 1), vr 9 0 31]) (h' := h) 10 4 (Nat.le_of_ble_eq_true rfl) tk_HF_undo rfl rfl ⟨trivial, trivial, trivial, trivial, trivial⟩ ?_
    obtain ⟨q2, hq3, hx⟩ := bd hx
    refine Ev.callV (ν := m_Acts_latest) (av := [vi (ii 1)]) (rest := []) (r1 := some (vi q2)) (h1 := h) (ci := 9) (nn := 0) (o := 31) 14 1 tk_HF_undo rfl bb_Acts_latest vv_Acts_latest lk_0_256 (by decide) rfl rfl (Or.inl rfl) (Nat.le_of_ble_eq_true rfl) (s_Acts_latest Γ (ii 1) h _ hq3) ?_
    show Ev Γ m_HF_undo 29 [some (vr 0 0 0), some (vi q1), none, none, none] [vi q2] h r h'
    refine Ev.blk (pc' := 35) (lv' := [some (vr 0 0 0), some (vi q1), some (vi q2), none, none]) (st' := [vi (ii 2), vr 9 0 31]) (h' := h) 15 4 (Nat.le_of_ble_eq_true rfl) tk_HF_undo rfl rfl ⟨trivial, trivial, trivial, trivial, trivial⟩ ?_
    obtain ⟨q3, hq4, hx⟩ := bd hx
    refine Ev.callV (ν := m_Acts_latest) (av := [vi (ii 2)]) (rest := []) (r1 := some (vi q3)) (h1 := h) (ci := 9) (nn := 0) (o := 31) 19 1 tk_HF_undo rfl bb_Acts_latest vv_Acts_latest lk_0_256 (by decide) rfl rfl (Or.inl rfl) (Nat.le_of_ble_eq_true rfl) (s_Acts_latest Γ (ii 2) h _ hq4) ?_
    show Ev Γ m_HF_undo 38 [some (vr 0 0 0), some (vi q1), some (vi q2), none, none] [vi q3] h r h'
    refine Ev.blk (pc' := 44) (lv' := [some (vr 0 0 0), some (vi q1), some (vi q2), some (vi q3), none]) (st' := [vi (ii 3), vr 9 0 31]) (h' := h) 20 4 (Nat.le_of_ble_eq_true rfl) tk_HF_undo rfl rfl ⟨trivial, trivial, trivial, trivial, trivial⟩ ?_
    obtain ⟨q4, hq5, hx⟩ := bd hx
    refine Ev.callV (ν := m_Acts_latest) (av := [vi (ii 3)]) (rest := []) (r1 := some (vi q4)) (h1 := h) (ci := 9) (nn := 0) (o := 31) 24 1 tk_HF_undo rfl bb_Acts_latest vv_Acts_latest lk_0_256 (by decide) rfl rfl (Or.inl rfl) (Nat.le_of_ble_eq_true rfl) (s_Acts_latest Γ (ii 3) h _ hq5) ?_
    show Ev Γ m_HF_undo 47 [some (vr 0 0 0), some (vi q1), some (vi q2), some (vi q3), none] [vi q4] h r h'
    refine Ev.blk (pc' := 53) (lv' := [some (vr 0 0 0), some (vi q1), some (vi q2), some (vi q3), some (vi q4)]) (st' := [vr 9 0 31]) (h' := h) 25 3 (Nat.le_of_ble_eq_true rfl) tk_HF_undo rfl rfl ⟨trivial, trivial, trivial, trivial⟩ ?_
    obtain ⟨q5, hq6, hx⟩ := bd hx
    refine Ev.callV (ν := m_Acts_drop) (av := []) (rest := []) (r1 := none) (h1 := q5) (ci := 9) (nn := 0) (o := 31) 28 0 tk_HF_undo rfl bb_Acts_drop vv_Acts_drop lk_0_259 (by decide) rfl rfl (Or.inl rfl) (Nat.le_of_ble_eq_true rfl) (s_Acts_drop Γ h _ hq6) ?_
    show Ev Γ m_HF_undo 56 [some (vr 0 0 0), some (vi q1), some (vi q2), some (vi q3), some (vi q4)] [] q5 r h'
    refine Ev.blk (pc' := 57) (lv' := [some (vr 0 0 0), some (vi q1), some (vi q2), some (vi q3), some (vi q4)]) (st' := [vi q1]) (h' := q5) 29 1 (Nat.le_of_ble_eq_true rfl) tk_HF_undo rfl rfl ⟨trivial, trivial⟩ ?_
    obtain ⟨q12, hq7, hx⟩ := bd hx
    have K8 : Ev Γ m_HF_undo 144 [some (vr 0 0 0), none, none, none, none] [] q12 r h' := by
      refine Ev.blk (pc' := 151) (lv' := [some (vr 0 0 0), none, none, none, none]) (st' := [vi (q12.1 31 1)]) (h' := q12) 77 3 (Nat.le_of_ble_eq_true rfl) tk_HF_undo rfl rfl ⟨trivial, trivial, trivial, trivial⟩ ?_
      obtain rfl := Option.some.inj hx
      obtain ⟨rfl, rfl⟩ := hP
      exact Ev.iret 80 tk_HF_undo rfl rfl
    clear hx
    refine Ev.if_ne 30 83 tk_HF_undo rfl (by decide) (fun hc9 => ?_) (fun hc9 => ?_)
    · replace hq7 := ia hc9 hq7
      refine Ev.blk (pc' := 85) (lv' := [some (vr 0 0 0), some (vi q1), some (vi q2), some (vi q3), some (vi q4)]) (st' := [vi (ii 1), vi q1]) (h' := q5) 43 2 (Nat.le_of_ble_eq_true rfl) tk_HF_undo rfl rfl ⟨trivial, trivial, trivial⟩ ?_
      refine Ev.icmp_ne 45 124 tk_HF_undo rfl (by decide) (fun hc10 => ?_) (fun hc10 => ?_)
      · replace hq7 := ia hc10 hq7
        obtain ⟨hg11, hq7⟩ := gd hq7
        refine Ev.blk (pc' := 144) (lv' := [some (vr 0 0 0), some (vi q1), some (vi q2), some (vi q3), some (vi q4)]) (st' := []) (h' := (wI q5 13 8 (remI (((q5.1 13 8) + (ii 4)) - (ii 1)) (ii 4)))) 65 12 (Nat.le_of_ble_eq_true rfl) tk_HF_undo rfl rfl ⟨trivial, trivial, trivial, trivial, trivial, trivial, trivial, trivial, trivial, trivial, hg11, trivial, trivial⟩ ?_
        obtain rfl := Option.some.inj hq7
        exact Ev.msk [true, false, false, false, false] K8
      · replace hq7 := ip hc10 hq7
        refine Ev.blk (pc' := 96) (lv' := [some (vr 0 0 0), some (vi q1), some (vi q2), some (vi q3), some (vi q4)]) (st' := [vi (-q4), vi q3, vr 8 0 13]) (h' := q5) 46 5 (Nat.le_of_ble_eq_true rfl) tk_HF_undo rfl rfl ⟨trivial, trivial, trivial, trivial, trivial, trivial⟩ ?_
        obtain ⟨q6, hq12, hq7⟩ := bd hq7
        refine Ev.callV (ν := m_Moor_addPay) (av := [vi q3, vi (-q4)]) (rest := []) (r1 := none) (h1 := q6) (ci := 8) (nn := 0) (o := 13) 51 2 tk_HF_undo rfl bb_Moor_addPay vv_Moor_addPay lk_0_238 (by decide) rfl rfl (Or.inl rfl) (Nat.le_of_ble_eq_true rfl) (s_Moor_addPay Γ 13 q3 (-q4) q5 _ hq12) ?_
        show Ev Γ m_HF_undo 99 [some (vr 0 0 0), some (vi q1), some (vi q2), some (vi q3), some (vi q4)] [] q6 r h'
        refine Ev.blk (pc' := 109) (lv' := [some (vr 0 0 0), some (vi q1), some (vi q2), some (vi q3), some (vi q4)]) (st' := [vi q2, vr 8 0 13, vi q2, vr 8 0 13]) (h' := q6) 52 6 (Nat.le_of_ble_eq_true rfl) tk_HF_undo rfl rfl ⟨trivial, trivial, trivial, trivial, trivial, trivial, trivial⟩ ?_
        obtain ⟨q7, hq13, hq7⟩ := bd hq7
        refine Ev.callV (ν := m_Moor_sunkTo) (av := [vi q2]) (rest := [vi q2, vr 8 0 13]) (r1 := some (vi q7)) (h1 := q6) (ci := 8) (nn := 0) (o := 13) 58 1 tk_HF_undo rfl bb_Moor_sunkTo vv_Moor_sunkTo lk_0_177 (by decide) rfl rfl (Or.inl rfl) (Nat.le_of_ble_eq_true rfl) (s_Moor_sunkTo Γ 13 q2 q6 _ hq13) ?_
        show Ev Γ m_HF_undo 112 [some (vr 0 0 0), some (vi q1), some (vi q2), some (vi q3), some (vi q4)] [vi q7, vi q2, vr 8 0 13] q6 r h'
        refine Ev.blk (pc' := 114) (lv' := [some (vr 0 0 0), some (vi q1), some (vi q2), some (vi q3), some (vi q4)]) (st' := [vi q2, vr 0 0 0, vi q7, vi q2, vr 8 0 13]) (h' := q6) 59 2 (Nat.le_of_ble_eq_true rfl) tk_HF_undo rfl rfl ⟨trivial, trivial, trivial⟩ ?_
        obtain ⟨q8, hq14, hq7⟩ := bd hq7
        refine Ev.callV (ν := m_HF_footPrice) (av := [vi q2]) (rest := [vi q7, vi q2, vr 8 0 13]) (r1 := some (vi q8)) (h1 := q6) (ci := 0) (nn := 0) (o := 0) 61 1 tk_HF_undo rfl bb_HF_footPrice vv_HF_footPrice lk_0_265 (by decide) rfl rfl (Or.inl rfl) (Nat.le_of_ble_eq_true rfl) (s_HF_footPrice Γ q2 q6 _ hq14) ?_
        show Ev Γ m_HF_undo 117 [some (vr 0 0 0), some (vi q1), some (vi q2), some (vi q3), some (vi q4)] [vi q8, vi q7, vi q2, vr 8 0 13] q6 r h'
        refine Ev.blk (pc' := 118) (lv' := [some (vr 0 0 0), some (vi q1), some (vi q2), some (vi q3), some (vi q4)]) (st' := [vi (q7 * q8), vi q2, vr 8 0 13]) (h' := q6) 62 1 (Nat.le_of_ble_eq_true rfl) tk_HF_undo rfl rfl ⟨trivial, trivial⟩ ?_
        obtain ⟨q9, hq15, hq7⟩ := bd hq7
        refine Ev.callV (ν := m_Moor_dropWell) (av := [vi q2, vi (q7 * q8)]) (rest := []) (r1 := none) (h1 := q9) (ci := 8) (nn := 0) (o := 13) 63 2 tk_HF_undo rfl bb_Moor_dropWell vv_Moor_dropWell lk_0_268 (by decide) rfl rfl (Or.inl rfl) (Nat.le_of_ble_eq_true rfl) (s_Moor_dropWell Γ 13 q2 (q7 * q8) q6 _ hq15) ?_
        show Ev Γ m_HF_undo 121 [some (vr 0 0 0), some (vi q1), some (vi q2), some (vi q3), some (vi q4)] [] q9 r h'
        refine Ev.blk (pc' := 144) (lv' := [some (vr 0 0 0), some (vi q1), some (vi q2), some (vi q3), some (vi q4)]) (st' := []) (h' := q9) 64 1 (Nat.le_of_ble_eq_true rfl) tk_HF_undo rfl rfl ⟨trivial, trivial⟩ ?_
        obtain rfl := Option.some.inj hq7
        exact Ev.msk [true, false, false, false, false] K8
    · replace hq7 := ip hc9 hq7
      refine Ev.blk (pc' := 72) (lv' := [some (vr 0 0 0), some (vi q1), some (vi q2), some (vi q3), some (vi q4)]) (st' := [vi (ii 5), vi q2, vr 3 0 (q5.2.2 0 13), vi q3, vi q2, vr 8 0 13]) (h' := q5) 31 8 (Nat.le_of_ble_eq_true rfl) tk_HF_undo rfl rfl ⟨trivial, trivial, trivial, trivial, trivial, trivial, trivial, trivial, trivial⟩ ?_
      obtain ⟨q10, hq16, hq7⟩ := bd hq7
      refine Ev.callV (ν := m_Heath_trait) (av := [vi q2, vi (ii 5)]) (rest := [vi q3, vi q2, vr 8 0 13]) (r1 := some (vi q10)) (h1 := q5) (ci := 3) (nn := 0) (o := (q5.2.2 0 13)) 39 2 tk_HF_undo rfl bb_Heath_trait vv_Heath_trait lk_0_196 (by decide) rfl rfl (Or.inl rfl) (Nat.le_of_ble_eq_true rfl) (s_Heath_trait Γ (q5.2.2 0 13) q2 (ii 5) q5 _ hq16) ?_
      show Ev Γ m_HF_undo 75 [some (vr 0 0 0), some (vi q1), some (vi q2), some (vi q3), some (vi q4)] [vi q10, vi q3, vi q2, vr 8 0 13] q5 r h'
      refine Ev.blk (pc' := 77) (lv' := [some (vr 0 0 0), some (vi q1), some (vi q2), some (vi q3), some (vi q4)]) (st' := [vi q4, vi q10, vi q3, vi q2, vr 8 0 13]) (h' := q5) 40 1 (Nat.le_of_ble_eq_true rfl) tk_HF_undo rfl rfl ⟨trivial, trivial⟩ ?_
      obtain ⟨q11, hq17, hq7⟩ := bd hq7
      refine Ev.callV (ν := m_Moor_unstep) (av := [vi q2, vi q3, vi q10, vi q4]) (rest := []) (r1 := none) (h1 := q11) (ci := 8) (nn := 0) (o := 13) 41 4 tk_HF_undo rfl bb_Moor_unstep vv_Moor_unstep lk_0_262 (by decide) rfl rfl (Or.inl rfl) (Nat.le_of_ble_eq_true rfl) (s_Moor_unstep Γ 13 q2 q3 q10 q4 q5 _ hq17) ?_
      show Ev Γ m_HF_undo 80 [some (vr 0 0 0), some (vi q1), some (vi q2), some (vi q3), some (vi q4)] [] q11 r h'
      refine Ev.blk (pc' := 144) (lv' := [some (vr 0 0 0), some (vi q1), some (vi q2), some (vi q3), some (vi q4)]) (st' := []) (h' := q11) 42 1 (Nat.le_of_ble_eq_true rfl) tk_HF_undo rfl rfl ⟨trivial, trivial⟩ ?_
      obtain rfl := Option.some.inj hq7
      exact Ev.msk [true, false, false, false, false] K8
  · replace hx := ip hc1 hx
    refine Ev.blk (pc' := 11) (lv' := [some (vr 0 0 0), none, none, none, none]) (st' := [vi (ii (-1))]) (h' := h) 4 1 (Nat.le_of_ble_eq_true rfl) tk_HF_undo rfl rfl ⟨trivial, trivial⟩ ?_
    obtain rfl := Option.some.inj hx
    obtain ⟨rfl, rfl⟩ := hP
    exact Ev.iret 5 tk_HF_undo rfl rfl
set_option maxRecDepth 4000 in
theorem s_HF_book (Γ : AG) (a1 : Int32) (a2 : Int32) (h : AH) (x : Int32) (hx : f_HF_book a1 a2 h = some x) : MetA Γ m_HF_book [vr 0 0 0, vi a1, vi a2] h (some (vi x)) h := by
  refine Ev.met rfl rfl (Nat.le_of_ble_eq_true rfl) ?_
  show Ev Γ m_HF_book 0 [some (vr 0 0 0), some (vi a1), some (vi a2)] [] h _ _
  obtain ⟨r, hr⟩ : ∃ r : Option AV, r = some (vi x) := ⟨_, rfl⟩
  obtain ⟨h', hh⟩ : ∃ h' : AH, h' = h := ⟨_, rfl⟩
  have hP : r = some (vi x) ∧ h' = h := ⟨hr, hh⟩
  suffices hS : Ev Γ m_HF_book 0 [some (vr 0 0 0), some (vi a1), some (vi a2)] [] h r h' by rw [hr, hh] at hS; exact hS
  clear hr hh
  unfold f_HF_book at hx
  refine Ev.blk (pc' := 1) (lv' := [some (vr 0 0 0), some (vi a1), some (vi a2)]) (st' := [vi a1]) (h' := h) 0 1 (Nat.le_of_ble_eq_true rfl) tk_HF_book rfl rfl ⟨trivial, trivial⟩ ?_
  refine Ev.if_lt 1 15 tk_HF_book rfl (by decide) (fun hc1 => ?_) (fun hc1 => ?_)
  · replace hx := ip hc1 hx
    refine Ev.blk (pc' := 16) (lv' := [some (vr 0 0 0), some (vi a1), some (vi a2)]) (st' := [vi (ii (-1))]) (h' := h) 7 1 (Nat.le_of_ble_eq_true rfl) tk_HF_book rfl rfl ⟨trivial, trivial⟩ ?_
    obtain rfl := Option.some.inj hx
    obtain ⟨rfl, rfl⟩ := hP
    exact Ev.iret 8 tk_HF_book rfl rfl
  · replace hx := ia hc1 hx
    refine Ev.blk (pc' := 9) (lv' := [some (vr 0 0 0), some (vi a1), some (vi a2)]) (st' := [vr 8 0 13, vi a1]) (h' := h) 2 3 (Nat.le_of_ble_eq_true rfl) tk_HF_book rfl rfl ⟨trivial, trivial, trivial, trivial⟩ ?_
    refine Ev.callV (ν := m_Moor_bookLength) (av := []) (rest := [vi a1]) (r1 := some (vi (p_Moor_bookLength 13 h))) (h1 := h) (ci := 8) (nn := 0) (o := 13) 5 0 tk_HF_book rfl bb_Moor_bookLength vv_Moor_bookLength lk_0_271 (by decide) rfl rfl (Or.inl rfl) (Nat.le_of_ble_eq_true rfl) (s_Moor_bookLength Γ 13 h) ?_
    show Ev Γ m_HF_book 12 [some (vr 0 0 0), some (vi a1), some (vi a2)] [vi (p_Moor_bookLength 13 h), vi a1] h r h'
    refine Ev.icmp_lt 6 17 tk_HF_book rfl (by decide) (fun hc2 => ?_) (fun hc2 => ?_)
    · replace hx := ip hc2 hx
      refine Ev.blk (pc' := 18) (lv' := [some (vr 0 0 0), some (vi a1), some (vi a2)]) (st' := [vi a2]) (h' := h) 9 1 (Nat.le_of_ble_eq_true rfl) tk_HF_book rfl rfl ⟨trivial, trivial⟩ ?_
      by_cases hc3 : a2 = ii 0
      · replace hx := ip hc3 hx
        refine Ev.tabIn (off := 26) 10 44 0 tk_HF_book rfl hc3 (by decide) (by decide) ?_
        refine Ev.blk (pc' := 49) (lv' := [some (vr 0 0 0), some (vi a1), some (vi a2)]) (st' := [vi a1, vr 8 0 13]) (h' := h) 11 3 (Nat.le_of_ble_eq_true rfl) tk_HF_book rfl rfl ⟨trivial, trivial, trivial, trivial⟩ ?_
        obtain ⟨q1, hq4, hx⟩ := bd hx
        refine Ev.callV (ν := m_Moor_forkOn) (av := [vi a1]) (rest := []) (r1 := some (vi q1)) (h1 := h) (ci := 8) (nn := 0) (o := 13) 14 1 tk_HF_book rfl bb_Moor_forkOn vv_Moor_forkOn lk_0_274 (by decide) rfl rfl (Or.inl rfl) (Nat.le_of_ble_eq_true rfl) (s_Moor_forkOn Γ 13 a1 h _ hq4) ?_
        show Ev Γ m_HF_book 52 [some (vr 0 0 0), some (vi a1), some (vi a2)] [vi q1] h r h'
        obtain rfl := Option.some.inj hx
        obtain ⟨rfl, rfl⟩ := hP
        exact Ev.iret 15 tk_HF_book rfl rfl
      replace hx := ia hc3 hx
      by_cases hc5 : a2 = ii 1
      · replace hx := ip hc5 hx
        refine Ev.tabIn (off := 35) 10 53 1 tk_HF_book rfl hc5 (by decide) (by decide) ?_
        refine Ev.blk (pc' := 58) (lv' := [some (vr 0 0 0), some (vi a1), some (vi a2)]) (st' := [vi a1, vr 8 0 13]) (h' := h) 16 3 (Nat.le_of_ble_eq_true rfl) tk_HF_book rfl rfl ⟨trivial, trivial, trivial, trivial⟩ ?_
        obtain ⟨q2, hq6, hx⟩ := bd hx
        refine Ev.callV (ν := m_Moor_cellOn) (av := [vi a1]) (rest := []) (r1 := some (vi q2)) (h1 := h) (ci := 8) (nn := 0) (o := 13) 19 1 tk_HF_book rfl bb_Moor_cellOn vv_Moor_cellOn lk_0_277 (by decide) rfl rfl (Or.inl rfl) (Nat.le_of_ble_eq_true rfl) (s_Moor_cellOn Γ 13 a1 h _ hq6) ?_
        show Ev Γ m_HF_book 61 [some (vr 0 0 0), some (vi a1), some (vi a2)] [vi q2] h r h'
        obtain rfl := Option.some.inj hx
        obtain ⟨rfl, rfl⟩ := hP
        exact Ev.iret 20 tk_HF_book rfl rfl
      replace hx := ia hc5 hx
      by_cases hc7 : a2 = ii 2
      · replace hx := ip hc7 hx
        refine Ev.tabIn (off := 44) 10 62 2 tk_HF_book rfl hc7 (by decide) (by decide) ?_
        refine Ev.blk (pc' := 67) (lv' := [some (vr 0 0 0), some (vi a1), some (vi a2)]) (st' := [vi a1, vr 8 0 13]) (h' := h) 21 3 (Nat.le_of_ble_eq_true rfl) tk_HF_book rfl rfl ⟨trivial, trivial, trivial, trivial⟩ ?_
        obtain ⟨q3, hq8, hx⟩ := bd hx
        refine Ev.callV (ν := m_Moor_twitchOn) (av := [vi a1]) (rest := []) (r1 := some (vi q3)) (h1 := h) (ci := 8) (nn := 0) (o := 13) 24 1 tk_HF_book rfl bb_Moor_twitchOn vv_Moor_twitchOn lk_0_280 (by decide) rfl rfl (Or.inl rfl) (Nat.le_of_ble_eq_true rfl) (s_Moor_twitchOn Γ 13 a1 h _ hq8) ?_
        show Ev Γ m_HF_book 70 [some (vr 0 0 0), some (vi a1), some (vi a2)] [vi q3] h r h'
        obtain rfl := Option.some.inj hx
        obtain ⟨rfl, rfl⟩ := hP
        exact Ev.iret 25 tk_HF_book rfl rfl
      replace hx := ia hc7 hx
      refine Ev.tabOut 10 71 3 tk_HF_book rfl (by decide) (fun k hk => ?_) (by decide) ?_
      · rcases (show k = 0 ∨ k = 1 ∨ k = 2 by omega) with rfl | rfl | rfl
        · exact hc3
        · exact hc5
        · exact hc7
      · refine Ev.blk (pc' := 72) (lv' := [some (vr 0 0 0), some (vi a1), some (vi a2)]) (st' := [vi (ii (-1))]) (h' := h) 26 1 (Nat.le_of_ble_eq_true rfl) tk_HF_book rfl rfl ⟨trivial, trivial⟩ ?_
        obtain rfl := Option.some.inj hx
        obtain ⟨rfl, rfl⟩ := hP
        exact Ev.iret 27 tk_HF_book rfl rfl
    · replace hx := ia hc2 hx
      refine Ev.blk (pc' := 16) (lv' := [some (vr 0 0 0), some (vi a1), some (vi a2)]) (st' := [vi (ii (-1))]) (h' := h) 7 1 (Nat.le_of_ble_eq_true rfl) tk_HF_book rfl rfl ⟨trivial, trivial⟩ ?_
      obtain rfl := Option.some.inj hx
      obtain ⟨rfl, rfl⟩ := hP
      exact Ev.iret 8 tk_HF_book rfl rfl
theorem s_HF_hasWalks (Γ : AG) (a1 : Int32) (h : AH) : MetA Γ m_HF_hasWalks [vr 0 0 0, vi a1] h (some (vi (p_HF_hasWalks a1 h))) h := by
  refine Ev.met rfl rfl (Nat.le_of_ble_eq_true rfl) ?_
  generalize hx : p_HF_hasWalks a1 h = x
  show Ev Γ m_HF_hasWalks 0 [some (vr 0 0 0), some (vi a1)] [] h _ _
  obtain ⟨r, hr⟩ : ∃ r : Option AV, r = some (vi x) := ⟨_, rfl⟩
  obtain ⟨h', hh⟩ : ∃ h' : AH, h' = h := ⟨_, rfl⟩
  have hP : r = some (vi x) ∧ h' = h := ⟨hr, hh⟩
  suffices hS : Ev Γ m_HF_hasWalks 0 [some (vr 0 0 0), some (vi a1)] [] h r h' by rw [hr, hh] at hS; exact hS
  clear hr hh
  unfold p_HF_hasWalks at hx
  refine Ev.blk (pc' := 1) (lv' := [some (vr 0 0 0), some (vi a1)]) (st' := [vi a1]) (h' := h) 0 1 (Nat.le_of_ble_eq_true rfl) tk_HF_hasWalks rfl rfl ⟨trivial, trivial⟩ ?_
  refine Ev.if_lt 1 25 tk_HF_hasWalks rfl (by decide) (fun hc1 => ?_) (fun hc1 => ?_)
  · replace hx := ip hc1 hx
    refine Ev.blk (pc' := 26) (lv' := [some (vr 0 0 0), some (vi a1)]) (st' := [vi (ii 0)]) (h' := h) 13 1 (Nat.le_of_ble_eq_true rfl) tk_HF_hasWalks rfl rfl ⟨trivial, trivial⟩ ?_
    subst hx
    obtain ⟨rfl, rfl⟩ := hP
    exact Ev.zret 14 tk_HF_hasWalks rfl rfl rfl
  · replace hx := ia hc1 hx
    refine Ev.blk (pc' := 9) (lv' := [some (vr 0 0 0), some (vi a1)]) (st' := [vi (h.1 0 15), vi a1]) (h' := h) 2 3 (Nat.le_of_ble_eq_true rfl) tk_HF_hasWalks rfl rfl ⟨trivial, trivial, trivial, trivial⟩ ?_
    refine Ev.icmp_ge 5 25 tk_HF_hasWalks rfl (by decide) (fun hc2 => ?_) (fun hc2 => ?_)
    · replace hx := ip hc2 hx
      refine Ev.blk (pc' := 26) (lv' := [some (vr 0 0 0), some (vi a1)]) (st' := [vi (ii 0)]) (h' := h) 13 1 (Nat.le_of_ble_eq_true rfl) tk_HF_hasWalks rfl rfl ⟨trivial, trivial⟩ ?_
      subst hx
      obtain ⟨rfl, rfl⟩ := hP
      exact Ev.zret 14 tk_HF_hasWalks rfl rfl rfl
    · replace hx := ia hc2 hx
      refine Ev.blk (pc' := 18) (lv' := [some (vr 0 0 0), some (vi a1)]) (st' := [vi (ii (4 : Int)), vi a1]) (h' := h) 6 4 (Nat.le_of_ble_eq_true rfl) tk_HF_hasWalks rfl rfl ⟨trivial, trivial, trivial, trivial, trivial⟩ ?_
      refine Ev.icmp_ge 10 25 tk_HF_hasWalks rfl (by decide) (fun hc3 => ?_) (fun hc3 => ?_)
      · replace hx := ip hc3 hx
        refine Ev.blk (pc' := 26) (lv' := [some (vr 0 0 0), some (vi a1)]) (st' := [vi (ii 0)]) (h' := h) 13 1 (Nat.le_of_ble_eq_true rfl) tk_HF_hasWalks rfl rfl ⟨trivial, trivial⟩ ?_
        subst hx
        obtain ⟨rfl, rfl⟩ := hP
        exact Ev.zret 14 tk_HF_hasWalks rfl rfl rfl
      · replace hx := ia hc3 hx
        refine Ev.blk (pc' := 26) (lv' := [some (vr 0 0 0), some (vi a1)]) (st' := [vi (ii 1)]) (h' := h) 11 2 (Nat.le_of_ble_eq_true rfl) tk_HF_hasWalks rfl rfl ⟨trivial, trivial, trivial⟩ ?_
        subst hx
        obtain ⟨rfl, rfl⟩ := hP
        exact Ev.zret 14 tk_HF_hasWalks rfl rfl rfl
set_option maxRecDepth 4000 in
theorem s_Walks_forkAt (Γ : AG) (o0 : Nat) (a1 : Int32) (h : AH) (x : Int32) (hx : f_Walks_forkAt o0 a1 h = some x) : MetA Γ m_Walks_forkAt [vr 7 0 o0, vi a1] h (some (vi x)) h := by
  refine Ev.met rfl rfl (Nat.le_of_ble_eq_true rfl) ?_
  show Ev Γ m_Walks_forkAt 0 [some (vr 7 0 o0), some (vi a1)] [] h _ _
  obtain ⟨r, hr⟩ : ∃ r : Option AV, r = some (vi x) := ⟨_, rfl⟩
  obtain ⟨h', hh⟩ : ∃ h' : AH, h' = h := ⟨_, rfl⟩
  have hP : r = some (vi x) ∧ h' = h := ⟨hr, hh⟩
  suffices hS : Ev Γ m_Walks_forkAt 0 [some (vr 7 0 o0), some (vi a1)] [] h r h' by rw [hr, hh] at hS; exact hS
  clear hr hh
  unfold f_Walks_forkAt at hx
  refine Ev.blk (pc' := 1) (lv' := [some (vr 7 0 o0), some (vi a1)]) (st' := [vi a1]) (h' := h) 0 1 (Nat.le_of_ble_eq_true rfl) tk_Walks_forkAt rfl rfl ⟨trivial, trivial⟩ ?_
  refine Ev.if_lt 1 32 tk_Walks_forkAt rfl (by decide) (fun hc1 => ?_) (fun hc1 => ?_)
  · replace hx := ip hc1 hx
    refine Ev.blk (pc' := 33) (lv' := [some (vr 7 0 o0), some (vi a1)]) (st' := [vi (ii (-1))]) (h' := h) 18 1 (Nat.le_of_ble_eq_true rfl) tk_Walks_forkAt rfl rfl ⟨trivial, trivial⟩ ?_
    obtain rfl := Option.some.inj hx
    obtain ⟨rfl, rfl⟩ := hP
    exact Ev.iret 19 tk_Walks_forkAt rfl rfl
  · replace hx := ia hc1 hx
    refine Ev.blk (pc' := 9) (lv' := [some (vr 7 0 o0), some (vi a1)]) (st' := [vi (h.1 o0 1), vi a1]) (h' := h) 2 3 (Nat.le_of_ble_eq_true rfl) tk_Walks_forkAt rfl rfl ⟨trivial, trivial, trivial, trivial⟩ ?_
    refine Ev.icmp_ge 5 32 tk_Walks_forkAt rfl (by decide) (fun hc2 => ?_) (fun hc2 => ?_)
    · replace hx := ip hc2 hx
      refine Ev.blk (pc' := 33) (lv' := [some (vr 7 0 o0), some (vi a1)]) (st' := [vi (ii (-1))]) (h' := h) 18 1 (Nat.le_of_ble_eq_true rfl) tk_Walks_forkAt rfl rfl ⟨trivial, trivial⟩ ?_
      obtain rfl := Option.some.inj hx
      obtain ⟨rfl, rfl⟩ := hP
      exact Ev.iret 19 tk_Walks_forkAt rfl rfl
    · replace hx := ia hc2 hx
      refine Ev.blk (pc' := 18) (lv' := [some (vr 7 0 o0), some (vi a1)]) (st' := [vi (ii (64 : Int)), vi a1]) (h' := h) 6 4 (Nat.le_of_ble_eq_true rfl) tk_Walks_forkAt rfl rfl ⟨trivial, trivial, trivial, trivial, trivial⟩ ?_
      refine Ev.icmp_ge 10 32 tk_Walks_forkAt rfl (by decide) (fun hc3 => ?_) (fun hc3 => ?_)
      · replace hx := ip hc3 hx
        refine Ev.blk (pc' := 33) (lv' := [some (vr 7 0 o0), some (vi a1)]) (st' := [vi (ii (-1))]) (h' := h) 18 1 (Nat.le_of_ble_eq_true rfl) tk_Walks_forkAt rfl rfl ⟨trivial, trivial⟩ ?_
        obtain rfl := Option.some.inj hx
        obtain ⟨rfl, rfl⟩ := hP
        exact Ev.iret 19 tk_Walks_forkAt rfl rfl
      · replace hx := ia hc3 hx
        obtain ⟨hg4, hx⟩ := gd hx
        obtain ⟨hg5, hx⟩ := gd hx
        refine Ev.blk (pc' := 33) (lv' := [some (vr 7 0 o0), some (vi a1)]) (st' := [vi ((h.1 (o0 + 1) (a1).toNatClampNeg) / (ii 4))]) (h' := h) 11 7 (Nat.le_of_ble_eq_true rfl) tk_Walks_forkAt rfl rfl ⟨trivial, trivial, trivial, hg4, trivial, hg5, trivial, trivial⟩ ?_
        obtain rfl := Option.some.inj hx
        obtain ⟨rfl, rfl⟩ := hP
        exact Ev.iret 19 tk_Walks_forkAt rfl rfl
set_option maxRecDepth 4000 in
theorem s_Walks_wayAt (Γ : AG) (o0 : Nat) (a1 : Int32) (h : AH) (x : Int32) (hx : f_Walks_wayAt o0 a1 h = some x) : MetA Γ m_Walks_wayAt [vr 7 0 o0, vi a1] h (some (vi x)) h := by
  refine Ev.met rfl rfl (Nat.le_of_ble_eq_true rfl) ?_
  show Ev Γ m_Walks_wayAt 0 [some (vr 7 0 o0), some (vi a1)] [] h _ _
  obtain ⟨r, hr⟩ : ∃ r : Option AV, r = some (vi x) := ⟨_, rfl⟩
  obtain ⟨h', hh⟩ : ∃ h' : AH, h' = h := ⟨_, rfl⟩
  have hP : r = some (vi x) ∧ h' = h := ⟨hr, hh⟩
  suffices hS : Ev Γ m_Walks_wayAt 0 [some (vr 7 0 o0), some (vi a1)] [] h r h' by rw [hr, hh] at hS; exact hS
  clear hr hh
  unfold f_Walks_wayAt at hx
  refine Ev.blk (pc' := 1) (lv' := [some (vr 7 0 o0), some (vi a1)]) (st' := [vi a1]) (h' := h) 0 1 (Nat.le_of_ble_eq_true rfl) tk_Walks_wayAt rfl rfl ⟨trivial, trivial⟩ ?_
  refine Ev.if_lt 1 32 tk_Walks_wayAt rfl (by decide) (fun hc1 => ?_) (fun hc1 => ?_)
  · replace hx := ip hc1 hx
    refine Ev.blk (pc' := 33) (lv' := [some (vr 7 0 o0), some (vi a1)]) (st' := [vi (ii (-1))]) (h' := h) 18 1 (Nat.le_of_ble_eq_true rfl) tk_Walks_wayAt rfl rfl ⟨trivial, trivial⟩ ?_
    obtain rfl := Option.some.inj hx
    obtain ⟨rfl, rfl⟩ := hP
    exact Ev.iret 19 tk_Walks_wayAt rfl rfl
  · replace hx := ia hc1 hx
    refine Ev.blk (pc' := 9) (lv' := [some (vr 7 0 o0), some (vi a1)]) (st' := [vi (h.1 o0 1), vi a1]) (h' := h) 2 3 (Nat.le_of_ble_eq_true rfl) tk_Walks_wayAt rfl rfl ⟨trivial, trivial, trivial, trivial⟩ ?_
    refine Ev.icmp_ge 5 32 tk_Walks_wayAt rfl (by decide) (fun hc2 => ?_) (fun hc2 => ?_)
    · replace hx := ip hc2 hx
      refine Ev.blk (pc' := 33) (lv' := [some (vr 7 0 o0), some (vi a1)]) (st' := [vi (ii (-1))]) (h' := h) 18 1 (Nat.le_of_ble_eq_true rfl) tk_Walks_wayAt rfl rfl ⟨trivial, trivial⟩ ?_
      obtain rfl := Option.some.inj hx
      obtain ⟨rfl, rfl⟩ := hP
      exact Ev.iret 19 tk_Walks_wayAt rfl rfl
    · replace hx := ia hc2 hx
      refine Ev.blk (pc' := 18) (lv' := [some (vr 7 0 o0), some (vi a1)]) (st' := [vi (ii (64 : Int)), vi a1]) (h' := h) 6 4 (Nat.le_of_ble_eq_true rfl) tk_Walks_wayAt rfl rfl ⟨trivial, trivial, trivial, trivial, trivial⟩ ?_
      refine Ev.icmp_ge 10 32 tk_Walks_wayAt rfl (by decide) (fun hc3 => ?_) (fun hc3 => ?_)
      · replace hx := ip hc3 hx
        refine Ev.blk (pc' := 33) (lv' := [some (vr 7 0 o0), some (vi a1)]) (st' := [vi (ii (-1))]) (h' := h) 18 1 (Nat.le_of_ble_eq_true rfl) tk_Walks_wayAt rfl rfl ⟨trivial, trivial⟩ ?_
        obtain rfl := Option.some.inj hx
        obtain ⟨rfl, rfl⟩ := hP
        exact Ev.iret 19 tk_Walks_wayAt rfl rfl
      · replace hx := ia hc3 hx
        obtain ⟨hg4, hx⟩ := gd hx
        obtain ⟨hg5, hx⟩ := gd hx
        refine Ev.blk (pc' := 33) (lv' := [some (vr 7 0 o0), some (vi a1)]) (st' := [vi (remI (h.1 (o0 + 1) (a1).toNatClampNeg) (ii 4))]) (h' := h) 11 7 (Nat.le_of_ble_eq_true rfl) tk_Walks_wayAt rfl rfl ⟨trivial, trivial, trivial, hg4, trivial, hg5, trivial, trivial⟩ ?_
        obtain rfl := Option.some.inj hx
        obtain ⟨rfl, rfl⟩ := hP
        exact Ev.iret 19 tk_Walks_wayAt rfl rfl
set_option maxRecDepth 4000 in
theorem s_HF_step (Γ : AG) (a1 : Int32) (a2 : Int32) (a3 : Int32) (h : AH) (x : Int32) (hx : f_HF_step a1 a2 a3 h = some x) : MetA Γ m_HF_step [vr 0 0 0, vi a1, vi a2, vi a3] h (some (vi x)) h := by
  refine Ev.met rfl rfl (Nat.le_of_ble_eq_true rfl) ?_
  show Ev Γ m_HF_step 0 [some (vr 0 0 0), some (vi a1), some (vi a2), some (vi a3), none] [] h _ _
  obtain ⟨r, hr⟩ : ∃ r : Option AV, r = some (vi x) := ⟨_, rfl⟩
  obtain ⟨h', hh⟩ : ∃ h' : AH, h' = h := ⟨_, rfl⟩
  have hP : r = some (vi x) ∧ h' = h := ⟨hr, hh⟩
  suffices hS : Ev Γ m_HF_step 0 [some (vr 0 0 0), some (vi a1), some (vi a2), some (vi a3), none] [] h r h' by rw [hr, hh] at hS; exact hS
  clear hr hh
  unfold f_HF_step at hx
  refine Ev.blk (pc' := 2) (lv' := [some (vr 0 0 0), some (vi a1), some (vi a2), some (vi a3), none]) (st' := [vi a1, vr 0 0 0]) (h' := h) 0 2 (Nat.le_of_ble_eq_true rfl) tk_HF_step rfl rfl ⟨trivial, trivial, trivial⟩ ?_
  refine Ev.callV (ν := m_HF_hasWalks) (av := [vi a1]) (rest := []) (r1 := some (vi (p_HF_hasWalks a1 h))) (h1 := h) (ci := 0) (nn := 0) (o := 0) 2 1 tk_HF_step rfl bb_HF_hasWalks vv_HF_hasWalks lk_0_283 (by decide) rfl rfl (Or.inl rfl) (Nat.le_of_ble_eq_true rfl) (s_HF_hasWalks Γ a1 h) ?_
  show Ev Γ m_HF_step 5 [some (vr 0 0 0), some (vi a1), some (vi a2), some (vi a3), none] [vi (p_HF_hasWalks a1 h)] h r h'
  refine Ev.if_ne 3 10 tk_HF_step rfl (by decide) (fun hc1 => ?_) (fun hc1 => ?_)
  · replace hx := ia hc1 hx
    obtain ⟨hg2, hx⟩ := gd hx
    refine Ev.blk (pc' := 19) (lv' := [some (vr 0 0 0), some (vi a1), some (vi a2), some (vi a3), some (vr 7 0 (h.2.2 11 (a1).toNatClampNeg))]) (st' := [vi a2]) (h' := h) 6 6 (Nat.le_of_ble_eq_true rfl) tk_HF_step rfl rfl ⟨trivial, trivial, trivial, hg2, trivial, trivial, trivial⟩ ?_
    refine Ev.if_lt 12 31 tk_HF_step rfl (by decide) (fun hc3 => ?_) (fun hc3 => ?_)
    · replace hx := ip hc3 hx
      refine Ev.blk (pc' := 32) (lv' := [some (vr 0 0 0), some (vi a1), some (vi a2), some (vi a3), some (vr 7 0 (h.2.2 11 (a1).toNatClampNeg))]) (st' := [vi (ii (-1))]) (h' := h) 17 1 (Nat.le_of_ble_eq_true rfl) tk_HF_step rfl rfl ⟨trivial, trivial⟩ ?_
      obtain rfl := Option.some.inj hx
      obtain ⟨rfl, rfl⟩ := hP
      exact Ev.iret 18 tk_HF_step rfl rfl
    · replace hx := ia hc3 hx
      refine Ev.blk (pc' := 28) (lv' := [some (vr 0 0 0), some (vi a1), some (vi a2), some (vi a3), some (vr 7 0 (h.2.2 11 (a1).toNatClampNeg))]) (st' := [vi (h.1 (h.2.2 11 (a1).toNatClampNeg) 1), vi a2]) (h' := h) 13 3 (Nat.le_of_ble_eq_true rfl) tk_HF_step rfl rfl ⟨trivial, trivial, trivial, trivial⟩ ?_
      refine Ev.icmp_lt 16 33 tk_HF_step rfl (by decide) (fun hc4 => ?_) (fun hc4 => ?_)
      · replace hx := ip hc4 hx
        refine Ev.blk (pc' := 34) (lv' := [some (vr 0 0 0), some (vi a1), some (vi a2), some (vi a3), some (vr 7 0 (h.2.2 11 (a1).toNatClampNeg))]) (st' := [vi a3]) (h' := h) 19 1 (Nat.le_of_ble_eq_true rfl) tk_HF_step rfl rfl ⟨trivial, trivial⟩ ?_
        refine Ev.if_ne 20 44 tk_HF_step rfl (by decide) (fun hc5 => ?_) (fun hc5 => ?_)
        · replace hx := ia hc5 hx
          refine Ev.blk (pc' := 46) (lv' := [some (vr 0 0 0), some (vi a1), some (vi a2), some (vi a3), some (vr 7 0 (h.2.2 11 (a1).toNatClampNeg))]) (st' := [vi (ii 1), vi a3]) (h' := h) 25 2 (Nat.le_of_ble_eq_true rfl) tk_HF_step rfl rfl ⟨trivial, trivial, trivial⟩ ?_
          refine Ev.icmp_ne 27 58 tk_HF_step rfl (by decide) (fun hc6 => ?_) (fun hc6 => ?_)
          · replace hx := ia hc6 hx
            refine Ev.blk (pc' := 59) (lv' := [some (vr 0 0 0), some (vi a1), some (vi a2), some (vi a3), some (vr 7 0 (h.2.2 11 (a1).toNatClampNeg))]) (st' := [vi (ii (-1))]) (h' := h) 32 1 (Nat.le_of_ble_eq_true rfl) tk_HF_step rfl rfl ⟨trivial, trivial⟩ ?_
            obtain rfl := Option.some.inj hx
            obtain ⟨rfl, rfl⟩ := hP
            exact Ev.iret 33 tk_HF_step rfl rfl
          · replace hx := ip hc6 hx
            refine Ev.blk (pc' := 52) (lv' := [some (vr 0 0 0), some (vi a1), some (vi a2), some (vi a3), some (vr 7 0 (h.2.2 11 (a1).toNatClampNeg))]) (st' := [vi a2, vr 7 0 (h.2.2 11 (a1).toNatClampNeg)]) (h' := h) 28 2 (Nat.le_of_ble_eq_true rfl) tk_HF_step rfl rfl ⟨trivial, trivial, trivial⟩ ?_
            obtain ⟨q1, hq7, hx⟩ := bd hx
            refine Ev.callV (ν := m_Walks_wayAt) (av := [vi a2]) (rest := []) (r1 := some (vi q1)) (h1 := h) (ci := 7) (nn := 0) (o := (h.2.2 11 (a1).toNatClampNeg)) 30 1 tk_HF_step rfl bb_Walks_wayAt vv_Walks_wayAt lk_0_290 (by decide) rfl rfl (Or.inl rfl) (Nat.le_of_ble_eq_true rfl) (s_Walks_wayAt Γ (h.2.2 11 (a1).toNatClampNeg) a2 h _ hq7) ?_
            show Ev Γ m_HF_step 55 [some (vr 0 0 0), some (vi a1), some (vi a2), some (vi a3), some (vr 7 0 (h.2.2 11 (a1).toNatClampNeg))] [vi q1] h r h'
            refine Ev.blk (pc' := 59) (lv' := [some (vr 0 0 0), some (vi a1), some (vi a2), some (vi a3), some (vr 7 0 (h.2.2 11 (a1).toNatClampNeg))]) (st' := [vi q1]) (h' := h) 31 1 (Nat.le_of_ble_eq_true rfl) tk_HF_step rfl rfl ⟨trivial, trivial⟩ ?_
            obtain rfl := Option.some.inj hx
            obtain ⟨rfl, rfl⟩ := hP
            exact Ev.iret 33 tk_HF_step rfl rfl
        · replace hx := ip hc5 hx
          refine Ev.blk (pc' := 40) (lv' := [some (vr 0 0 0), some (vi a1), some (vi a2), some (vi a3), some (vr 7 0 (h.2.2 11 (a1).toNatClampNeg))]) (st' := [vi a2, vr 7 0 (h.2.2 11 (a1).toNatClampNeg)]) (h' := h) 21 2 (Nat.le_of_ble_eq_true rfl) tk_HF_step rfl rfl ⟨trivial, trivial, trivial⟩ ?_
          obtain ⟨q2, hq8, hx⟩ := bd hx
          refine Ev.callV (ν := m_Walks_forkAt) (av := [vi a2]) (rest := []) (r1 := some (vi q2)) (h1 := h) (ci := 7) (nn := 0) (o := (h.2.2 11 (a1).toNatClampNeg)) 23 1 tk_HF_step rfl bb_Walks_forkAt vv_Walks_forkAt lk_0_287 (by decide) rfl rfl (Or.inl rfl) (Nat.le_of_ble_eq_true rfl) (s_Walks_forkAt Γ (h.2.2 11 (a1).toNatClampNeg) a2 h _ hq8) ?_
          show Ev Γ m_HF_step 43 [some (vr 0 0 0), some (vi a1), some (vi a2), some (vi a3), some (vr 7 0 (h.2.2 11 (a1).toNatClampNeg))] [vi q2] h r h'
          obtain rfl := Option.some.inj hx
          obtain ⟨rfl, rfl⟩ := hP
          exact Ev.iret 24 tk_HF_step rfl rfl
      · replace hx := ia hc4 hx
        refine Ev.blk (pc' := 32) (lv' := [some (vr 0 0 0), some (vi a1), some (vi a2), some (vi a3), some (vr 7 0 (h.2.2 11 (a1).toNatClampNeg))]) (st' := [vi (ii (-1))]) (h' := h) 17 1 (Nat.le_of_ble_eq_true rfl) tk_HF_step rfl rfl ⟨trivial, trivial⟩ ?_
        obtain rfl := Option.some.inj hx
        obtain ⟨rfl, rfl⟩ := hP
        exact Ev.iret 18 tk_HF_step rfl rfl
  · replace hx := ip hc1 hx
    refine Ev.blk (pc' := 9) (lv' := [some (vr 0 0 0), some (vi a1), some (vi a2), some (vi a3), none]) (st' := [vi (ii (-1))]) (h' := h) 4 1 (Nat.le_of_ble_eq_true rfl) tk_HF_step rfl rfl ⟨trivial, trivial⟩ ?_
    obtain rfl := Option.some.inj hx
    obtain ⟨rfl, rfl⟩ := hP
    exact Ev.iret 5 tk_HF_step rfl rfl
set_option maxRecDepth 4000 in
theorem s_Moor_copy (Γ : AG) (o0 : Nat) (o1 : Nat) (h : AH) (x : AH) (hx : f_Moor_copy o0 o1 h = some x) : MetA Γ m_Moor_copy [vr 8 0 o0, vr 8 0 o1] h (none) x := by
  refine Ev.met rfl rfl (Nat.le_of_ble_eq_true rfl) ?_
  show Ev Γ m_Moor_copy 0 [some (vr 8 0 o0), some (vr 8 0 o1)] [] h _ _
  obtain ⟨r, hr⟩ : ∃ r : Option AV, r = none := ⟨_, rfl⟩
  obtain ⟨h', hh⟩ : ∃ h' : AH, h' = x := ⟨_, rfl⟩
  have hP : r = none ∧ h' = x := ⟨hr, hh⟩
  suffices hS : Ev Γ m_Moor_copy 0 [some (vr 8 0 o0), some (vr 8 0 o1)] [] h r h' by rw [hr, hh] at hS; exact hS
  clear hr hh
  unfold f_Moor_copy at hx
  refine Ev.blk (pc' := 12) (lv' := [some (vr 8 0 o0), some (vr 8 0 o1)]) (st' := [vi (ii 6), vi (ii 0), vr 20 6 (o0 + 1), vi (ii 0), vr 20 6 (o1 + 1)]) (h' := h) 0 7 (Nat.le_of_ble_eq_true rfl) tk_Moor_copy rfl rfl ⟨trivial, trivial, trivial, trivial, trivial, trivial, trivial, trivial⟩ ?_
  refine Ev.copy (n := (ii 6)) (dp := (ii 0)) (sp := (ii 0)) (n0 := 6) (o0 := (o1 + 1)) (n1 := 6) (o1 := (o0 + 1)) (rest := []) 7 tk_Moor_copy rfl lk_8_54 lk_ac1 lk_ac2 lk_ac3 (by decide) (Nat.le_of_ble_eq_true rfl) (by decide) ?_
  show Ev Γ m_Moor_copy 15 [some (vr 8 0 o0), some (vr 8 0 o1)] [] (wA h (o0 + 1) (va_cpy (h.1 (o1 + 1)) (h.1 (o0 + 1)) (ii 0).toNatClampNeg (ii 0).toNatClampNeg (ii 6).toNatClampNeg)) r h'
  obtain ⟨q1, hq1, hx⟩ := bd hx
  rw [Option.some.inj hq1]
  show Ev Γ m_Moor_copy 15 [some (vr 8 0 o0), some (vr 8 0 o1)] [] q1 r h'
  refine Ev.blk (pc' := 27) (lv' := [some (vr 8 0 o0), some (vr 8 0 o1)]) (st' := [vi (ii 6), vi (ii 0), vr 20 6 (o0 + 2), vi (ii 0), vr 20 6 (o1 + 2)]) (h' := q1) 8 7 (Nat.le_of_ble_eq_true rfl) tk_Moor_copy rfl rfl ⟨trivial, trivial, trivial, trivial, trivial, trivial, trivial, trivial⟩ ?_
  refine Ev.copy (n := (ii 6)) (dp := (ii 0)) (sp := (ii 0)) (n0 := 6) (o0 := (o1 + 2)) (n1 := 6) (o1 := (o0 + 2)) (rest := []) 15 tk_Moor_copy rfl lk_8_54 lk_ac1 lk_ac2 lk_ac3 (by decide) (Nat.le_of_ble_eq_true rfl) (by decide) ?_
  show Ev Γ m_Moor_copy 30 [some (vr 8 0 o0), some (vr 8 0 o1)] [] (wA q1 (o0 + 2) (va_cpy (q1.1 (o1 + 2)) (q1.1 (o0 + 2)) (ii 0).toNatClampNeg (ii 0).toNatClampNeg (ii 6).toNatClampNeg)) r h'
  obtain ⟨q2, hq2, hx⟩ := bd hx
  rw [Option.some.inj hq2]
  show Ev Γ m_Moor_copy 30 [some (vr 8 0 o0), some (vr 8 0 o1)] [] q2 r h'
  refine Ev.blk (pc' := 41) (lv' := [some (vr 8 0 o0), some (vr 8 0 o1)]) (st' := [vi (ii 2), vi (ii 0), vr 20 2 (o0 + 3), vi (ii 0), vr 20 2 (o1 + 3)]) (h' := q2) 16 7 (Nat.le_of_ble_eq_true rfl) tk_Moor_copy rfl rfl ⟨trivial, trivial, trivial, trivial, trivial, trivial, trivial, trivial⟩ ?_
  refine Ev.copy (n := (ii 2)) (dp := (ii 0)) (sp := (ii 0)) (n0 := 2) (o0 := (o1 + 3)) (n1 := 2) (o1 := (o0 + 3)) (rest := []) 23 tk_Moor_copy rfl lk_8_54 lk_ac1 lk_ac2 lk_ac3 (by decide) (Nat.le_of_ble_eq_true rfl) (by decide) ?_
  show Ev Γ m_Moor_copy 44 [some (vr 8 0 o0), some (vr 8 0 o1)] [] (wA q2 (o0 + 3) (va_cpy (q2.1 (o1 + 3)) (q2.1 (o0 + 3)) (ii 0).toNatClampNeg (ii 0).toNatClampNeg (ii 2).toNatClampNeg)) r h'
  obtain ⟨q3, hq3, hx⟩ := bd hx
  rw [Option.some.inj hq3]
  show Ev Γ m_Moor_copy 44 [some (vr 8 0 o0), some (vr 8 0 o1)] [] q3 r h'
  refine Ev.blk (pc' := 56) (lv' := [some (vr 8 0 o0), some (vr 8 0 o1)]) (st' := [vi (ii 100), vi (ii 0), vr 20 100 (o0 + 4), vi (ii 0), vr 20 100 (o1 + 4)]) (h' := q3) 24 7 (Nat.le_of_ble_eq_true rfl) tk_Moor_copy rfl rfl ⟨trivial, trivial, trivial, trivial, trivial, trivial, trivial, trivial⟩ ?_
  refine Ev.copy (n := (ii 100)) (dp := (ii 0)) (sp := (ii 0)) (n0 := 100) (o0 := (o1 + 4)) (n1 := 100) (o1 := (o0 + 4)) (rest := []) 31 tk_Moor_copy rfl lk_8_54 lk_ac1 lk_ac2 lk_ac3 (by decide) (Nat.le_of_ble_eq_true rfl) (by decide) ?_
  show Ev Γ m_Moor_copy 59 [some (vr 8 0 o0), some (vr 8 0 o1)] [] (wA q3 (o0 + 4) (va_cpy (q3.1 (o1 + 4)) (q3.1 (o0 + 4)) (ii 0).toNatClampNeg (ii 0).toNatClampNeg (ii 100).toNatClampNeg)) r h'
  obtain ⟨q4, hq4, hx⟩ := bd hx
  rw [Option.some.inj hq4]
  show Ev Γ m_Moor_copy 59 [some (vr 8 0 o0), some (vr 8 0 o1)] [] q4 r h'
  refine Ev.blk (pc' := 71) (lv' := [some (vr 8 0 o0), some (vr 8 0 o1)]) (st' := [vi (ii 30), vi (ii 0), vr 20 30 (o0 + 5), vi (ii 0), vr 20 30 (o1 + 5)]) (h' := q4) 32 7 (Nat.le_of_ble_eq_true rfl) tk_Moor_copy rfl rfl ⟨trivial, trivial, trivial, trivial, trivial, trivial, trivial, trivial⟩ ?_
  refine Ev.copy (n := (ii 30)) (dp := (ii 0)) (sp := (ii 0)) (n0 := 30) (o0 := (o1 + 5)) (n1 := 30) (o1 := (o0 + 5)) (rest := []) 39 tk_Moor_copy rfl lk_8_54 lk_ac1 lk_ac2 lk_ac3 (by decide) (Nat.le_of_ble_eq_true rfl) (by decide) ?_
  show Ev Γ m_Moor_copy 74 [some (vr 8 0 o0), some (vr 8 0 o1)] [] (wA q4 (o0 + 5) (va_cpy (q4.1 (o1 + 5)) (q4.1 (o0 + 5)) (ii 0).toNatClampNeg (ii 0).toNatClampNeg (ii 30).toNatClampNeg)) r h'
  obtain ⟨q5, hq5, hx⟩ := bd hx
  rw [Option.some.inj hq5]
  show Ev Γ m_Moor_copy 74 [some (vr 8 0 o0), some (vr 8 0 o1)] [] q5 r h'
  refine Ev.blk (pc' := 106) (lv' := [some (vr 8 0 o0), some (vr 8 0 o1)]) (st' := []) (h' := (wI (wI (wI (wI q5 o0 5 (q5.1 o1 5)) o0 6 ((wI q5 o0 5 (q5.1 o1 5)).1 o1 6)) o0 7 ((wI (wI q5 o0 5 (q5.1 o1 5)) o0 6 ((wI q5 o0 5 (q5.1 o1 5)).1 o1 6)).1 o1 7)) o0 8 ((wI (wI (wI q5 o0 5 (q5.1 o1 5)) o0 6 ((wI q5 o0 5 (q5.1 o1 5)).1 o1 6)) o0 7 ((wI (wI q5 o0 5 (q5.1 o1 5)) o0 6 ((wI q5 o0 5 (q5.1 o1 5)).1 o1 6)).1 o1 7)).1 o1 8))) 40 16 (Nat.le_of_ble_eq_true rfl) tk_Moor_copy rfl rfl ⟨trivial, trivial, trivial, trivial, trivial, trivial, trivial, trivial, trivial, trivial, trivial, trivial, trivial, trivial, trivial, trivial, trivial⟩ ?_
  obtain rfl := Option.some.inj hx
  obtain ⟨rfl, rfl⟩ := hP
  exact Ev.vret 56 tk_Moor_copy rfl rfl
set_option maxRecDepth 4000 in
theorem l_HF_run_L52 (Γ : AG) : ∀ (n : Nat) (v2 : Int32) (o3 : Nat) (v4 : Int32) (v5 : Int32) (h : AH) (x : Int32 × AH), HF_run_L52 n v2 o3 v4 v5 h = some x → ∀ (r : Option AV) (h' : AH), r = some (vi x.1) ∧ h' = x.2 → Ev Γ m_HF_run 52 [some (vr 0 0 0), none, some (vi v2), some (vr 7 0 o3), some (vi v4), some (vi v5), none, none] [] h r h' := by
  intro n
  induction n with
  | zero => intro v2 o3 v4 v5 h x hx; cases hx
  | succ n ih =>
    intro v2 o3 v4 v5 h x hx r h' hP
    replace hx : HF_run_L52_b (HF_run_L52 n) v2 o3 v4 v5 h = some x := hx
    unfold HF_run_L52_b at hx
    refine Ev.blk (pc' := 58) (lv' := [some (vr 0 0 0), none, some (vi v2), some (vr 7 0 o3), some (vi v4), some (vi v5), none, none]) (st' := [vi (h.1 o3 1), vi v5]) (h' := h) 28 3 (Nat.le_of_ble_eq_true rfl) tk_HF_run rfl rfl ⟨trivial, trivial, trivial, trivial⟩ ?_
    refine Ev.icmp_ge 31 149 tk_HF_run rfl (by decide) (fun hc1 => ?_) (fun hc1 => ?_)
    · replace hx := ip hc1 hx
      refine Ev.blk (pc' := 150) (lv' := [some (vr 0 0 0), none, some (vi v2), some (vr 7 0 o3), some (vi v4), some (vi v5), none, none]) (st' := [vi v2]) (h' := h) 75 1 (Nat.le_of_ble_eq_true rfl) tk_HF_run rfl rfl ⟨trivial, trivial⟩ ?_
      refine Ev.if_ne 76 157 tk_HF_run rfl (by decide) (fun hc2 => ?_) (fun hc2 => ?_)
      · replace hx := ia hc2 hx
        refine Ev.blk (pc' := 159) (lv' := [some (vr 0 0 0), none, some (vi v2), some (vr 7 0 o3), some (vi v4), some (vi v5), none, none]) (st' := [vi v4]) (h' := h) 79 1 (Nat.le_of_ble_eq_true rfl) tk_HF_run rfl rfl ⟨trivial, trivial⟩ ?_
        obtain rfl := Option.some.inj hx
        obtain ⟨rfl, rfl⟩ := hP
        exact Ev.iret 80 tk_HF_run rfl rfl
      · replace hx := ip hc2 hx
        refine Ev.blk (pc' := 159) (lv' := [some (vr 0 0 0), none, some (vi v2), some (vr 7 0 o3), some (vi v4), some (vi v5), none, none]) (st' := [vi (ii (-1))]) (h' := h) 77 2 (Nat.le_of_ble_eq_true rfl) tk_HF_run rfl rfl ⟨trivial, trivial, trivial⟩ ?_
        obtain rfl := Option.some.inj hx
        obtain ⟨rfl, rfl⟩ := hP
        exact Ev.iret 80 tk_HF_run rfl rfl
    · replace hx := ia hc1 hx
      refine Ev.blk (pc' := 64) (lv' := [some (vr 0 0 0), none, some (vi v2), some (vr 7 0 o3), some (vi v4), some (vi v5), none, none]) (st' := [vi v5, vr 7 0 o3]) (h' := h) 32 2 (Nat.le_of_ble_eq_true rfl) tk_HF_run rfl rfl ⟨trivial, trivial, trivial⟩ ?_
      obtain ⟨q1, hq3, hx⟩ := bd hx
      refine Ev.callV (ν := m_Walks_forkAt) (av := [vi v5]) (rest := []) (r1 := some (vi q1)) (h1 := h) (ci := 7) (nn := 0) (o := o3) 34 1 tk_HF_run rfl bb_Walks_forkAt vv_Walks_forkAt lk_0_287 (by decide) rfl rfl (Or.inl rfl) (Nat.le_of_ble_eq_true rfl) (s_Walks_forkAt Γ o3 v5 h _ hq3) ?_
      show Ev Γ m_HF_run 67 [some (vr 0 0 0), none, some (vi v2), some (vr 7 0 o3), some (vi v4), some (vi v5), none, none] [vi q1] h r h'
      refine Ev.blk (pc' := 79) (lv' := [some (vr 0 0 0), none, some (vi v2), some (vr 7 0 o3), some (vi v4), some (vi v5), some (vi q1), none]) (st' := [vi v5, vr 7 0 o3, vi q1, vr 8 0 25, vr 0 0 0]) (h' := h) 35 7 (Nat.le_of_ble_eq_true rfl) tk_HF_run rfl rfl ⟨trivial, trivial, trivial, trivial, trivial, trivial, trivial, trivial⟩ ?_
      obtain ⟨q2, hq4, hx⟩ := bd hx
      refine Ev.callV (ν := m_Walks_wayAt) (av := [vi v5]) (rest := [vi q1, vr 8 0 25, vr 0 0 0]) (r1 := some (vi q2)) (h1 := h) (ci := 7) (nn := 0) (o := o3) 42 1 tk_HF_run rfl bb_Walks_wayAt vv_Walks_wayAt lk_0_290 (by decide) rfl rfl (Or.inl rfl) (Nat.le_of_ble_eq_true rfl) (s_Walks_wayAt Γ o3 v5 h _ hq4) ?_
      show Ev Γ m_HF_run 82 [some (vr 0 0 0), none, some (vi v2), some (vr 7 0 o3), some (vi v4), some (vi v5), some (vi q1), none] [vi q2, vi q1, vr 8 0 25, vr 0 0 0] h r h'
      obtain ⟨q3, hq5, hx⟩ := bd hx
      refine Ev.callV (ν := m_HF_goal) (av := [vr 8 0 25, vi q1, vi q2]) (rest := []) (r1 := some (vi q3)) (h1 := h) (ci := 0) (nn := 0) (o := 0) 43 3 tk_HF_run rfl bb_HF_goal vv_HF_goal lk_0_203 (by decide) rfl rfl (Or.inl rfl) (Nat.le_of_ble_eq_true rfl) (s_HF_goal Γ 25 q1 q2 h _ hq5) ?_
      show Ev Γ m_HF_run 85 [some (vr 0 0 0), none, some (vi v2), some (vr 7 0 o3), some (vi v4), some (vi v5), some (vi q1), none] [vi q3] h r h'
      refine Ev.blk (pc' := 90) (lv' := [some (vr 0 0 0), none, some (vi v2), some (vr 7 0 o3), some (vi v4), some (vi v5), some (vi q1), some (vi q3)]) (st' := [vi (ii (-1)), vi q3]) (h' := h) 44 3 (Nat.le_of_ble_eq_true rfl) tk_HF_run rfl rfl ⟨trivial, trivial, trivial, trivial⟩ ?_
      refine Ev.icmp_ne 47 105 tk_HF_run rfl (by decide) (fun hc6 => ?_) (fun hc6 => ?_)
      · replace hx := ia hc6 hx
        refine Ev.blk (pc' := 120) (lv' := [some (vr 0 0 0), none, some (vi v2), some (vr 7 0 o3), some (vi v4), some (vi v5), some (vi q1), some (vi q3)]) (st' := [vi (ii 5), vi q1, vr 3 0 (h.2.2 0 13), vi q3, vi q1, vr 8 0 25]) (h' := h) 54 8 (Nat.le_of_ble_eq_true rfl) tk_HF_run rfl rfl ⟨trivial, trivial, trivial, trivial, trivial, trivial, trivial, trivial, trivial⟩ ?_
        obtain ⟨q4, hq7, hx⟩ := bd hx
        refine Ev.callV (ν := m_Heath_trait) (av := [vi q1, vi (ii 5)]) (rest := [vi q3, vi q1, vr 8 0 25]) (r1 := some (vi q4)) (h1 := h) (ci := 3) (nn := 0) (o := (h.2.2 0 13)) 62 2 tk_HF_run rfl bb_Heath_trait vv_Heath_trait lk_0_196 (by decide) rfl rfl (Or.inl rfl) (Nat.le_of_ble_eq_true rfl) (s_Heath_trait Γ (h.2.2 0 13) q1 (ii 5) h _ hq7) ?_
        show Ev Γ m_HF_run 123 [some (vr 0 0 0), none, some (vi v2), some (vr 7 0 o3), some (vi v4), some (vi v5), some (vi q1), some (vi q3)] [vi q4, vi q3, vi q1, vr 8 0 25] h r h'
        obtain ⟨q5, hq8, hx⟩ := bd hx
        refine Ev.callV (ν := m_Moor_move) (av := [vi q1, vi q3, vi q4]) (rest := []) (r1 := none) (h1 := q5) (ci := 8) (nn := 0) (o := 25) 63 3 tk_HF_run rfl bb_Moor_move vv_Moor_move lk_0_298 (by decide) rfl rfl (Or.inl rfl) (Nat.le_of_ble_eq_true rfl) (s_Moor_move Γ 25 q1 q3 q4 h _ hq8) ?_
        show Ev Γ m_HF_run 126 [some (vr 0 0 0), none, some (vi v2), some (vr 7 0 o3), some (vi v4), some (vi v5), some (vi q1), some (vi q3)] [] q5 r h'
        refine Ev.blk (pc' := 137) (lv' := [some (vr 0 0 0), none, some (vi v2), some (vr 7 0 o3), some (vi v4), some (vi v5), some (vi q1), some (vi q3)]) (st' := [vi q3, vi q1, vr 8 0 25, vr 0 0 0, vi v4]) (h' := q5) 64 6 (Nat.le_of_ble_eq_true rfl) tk_HF_run rfl rfl ⟨trivial, trivial, trivial, trivial, trivial, trivial, trivial⟩ ?_
        obtain ⟨q6, hq9, hx⟩ := bd hx
        refine Ev.callV (ν := m_HF_twitchIn) (av := [vr 8 0 25, vi q1, vi q3]) (rest := [vi v4]) (r1 := some (vi q6.1)) (h1 := q6.2) (ci := 0) (nn := 0) (o := 0) 70 3 tk_HF_run rfl bb_HF_twitchIn vv_HF_twitchIn lk_0_199 (by decide) rfl rfl (Or.inl rfl) (Nat.le_of_ble_eq_true rfl) (s_HF_twitchIn Γ 25 q1 q3 q5 _ hq9) ?_
        show Ev Γ m_HF_run 140 [some (vr 0 0 0), none, some (vi v2), some (vr 7 0 o3), some (vi v4), some (vi v5), some (vi q1), some (vi q3)] [vi q6.1, vi v4] q6.2 r h'
        refine Ev.blk (pc' := 52) (lv' := [some (vr 0 0 0), none, some (vi v2), some (vr 7 0 o3), some (vi (v4 + q6.1)), some (vi (v5 + ii 1)), some (vi q1), some (vi q3)]) (st' := []) (h' := q6.2) 71 4 (Nat.le_of_ble_eq_true rfl) tk_HF_run rfl rfl ⟨trivial, trivial, trivial, trivial, trivial⟩ ?_
        exact Ev.msk [true, false, true, true, true, true, false, false] (ih v2 o3 (v4 + q6.1) (v5 + ii 1) q6.2 _ hx r h' hP)
      · replace hx := ip hc6 hx
        refine Ev.blk (pc' := 94) (lv' := [some (vr 0 0 0), none, some (vi v2), some (vr 7 0 o3), some (vi v4), some (vi v5), some (vi q1), some (vi q3)]) (st' := [vi v2]) (h' := h) 48 1 (Nat.le_of_ble_eq_true rfl) tk_HF_run rfl rfl ⟨trivial, trivial⟩ ?_
        refine Ev.if_ne 49 102 tk_HF_run rfl (by decide) (fun hc10 => ?_) (fun hc10 => ?_)
        · replace hx := ia hc10 hx
          refine Ev.blk (pc' := 104) (lv' := [some (vr 0 0 0), none, some (vi v2), some (vr 7 0 o3), some (vi v4), some (vi v5), some (vi q1), some (vi q3)]) (st' := [vi v4]) (h' := h) 52 1 (Nat.le_of_ble_eq_true rfl) tk_HF_run rfl rfl ⟨trivial, trivial⟩ ?_
          obtain rfl := Option.some.inj hx
          obtain ⟨rfl, rfl⟩ := hP
          exact Ev.iret 53 tk_HF_run rfl rfl
        · replace hx := ip hc10 hx
          refine Ev.blk (pc' := 104) (lv' := [some (vr 0 0 0), none, some (vi v2), some (vr 7 0 o3), some (vi v4), some (vi v5), some (vi q1), some (vi q3)]) (st' := [vi v5]) (h' := h) 50 2 (Nat.le_of_ble_eq_true rfl) tk_HF_run rfl rfl ⟨trivial, trivial, trivial⟩ ?_
          obtain rfl := Option.some.inj hx
          obtain ⟨rfl, rfl⟩ := hP
          exact Ev.iret 53 tk_HF_run rfl rfl
set_option maxRecDepth 4000 in
theorem s_HF_run (Γ : AG) (a1 : Int32) (a2 : Int32) (h : AH) (x : Int32 × AH) (hx : f_HF_run a1 a2 h = some x) : MetA Γ m_HF_run [vr 0 0 0, vi a1, vi a2] h (some (vi x.1)) x.2 := by
  refine Ev.met rfl rfl (Nat.le_of_ble_eq_true rfl) ?_
  show Ev Γ m_HF_run 0 [some (vr 0 0 0), some (vi a1), some (vi a2), none, none, none, none, none] [] h _ _
  obtain ⟨r, hr⟩ : ∃ r : Option AV, r = some (vi x.1) := ⟨_, rfl⟩
  obtain ⟨h', hh⟩ : ∃ h' : AH, h' = x.2 := ⟨_, rfl⟩
  have hP : r = some (vi x.1) ∧ h' = x.2 := ⟨hr, hh⟩
  suffices hS : Ev Γ m_HF_run 0 [some (vr 0 0 0), some (vi a1), some (vi a2), none, none, none, none, none] [] h r h' by rw [hr, hh] at hS; exact hS
  clear hr hh
  unfold f_HF_run at hx
  refine Ev.blk (pc' := 1) (lv' := [some (vr 0 0 0), some (vi a1), some (vi a2), none, none, none, none, none]) (st' := [vr 0 0 0]) (h' := h) 0 1 (Nat.le_of_ble_eq_true rfl) tk_HF_run rfl rfl ⟨trivial, trivial⟩ ?_
  refine Ev.callV (ν := m_HF_hasHeath) (av := []) (rest := []) (r1 := some (vi (p_HF_hasHeath h))) (h1 := h) (ci := 0) (nn := 0) (o := 0) 1 0 tk_HF_run rfl bb_HF_hasHeath vv_HF_hasHeath lk_0_137 (by decide) rfl rfl (Or.inl rfl) (Nat.le_of_ble_eq_true rfl) (s_HF_hasHeath Γ h) ?_
  show Ev Γ m_HF_run 4 [some (vr 0 0 0), some (vi a1), some (vi a2), none, none, none, none, none] [vi (p_HF_hasHeath h)] h r h'
  refine Ev.if_eq 2 24 tk_HF_run rfl (by decide) (fun hc1 => ?_) (fun hc1 => ?_)
  · replace hx := ip hc1 hx
    refine Ev.blk (pc' := 27) (lv' := [some (vr 0 0 0), some (vi a1), some (vi a2), none, none, none, none, none]) (st' := [vi (ii (-1000000))]) (h' := h) 12 1 (Nat.le_of_ble_eq_true rfl) tk_HF_run rfl rfl ⟨trivial, trivial⟩ ?_
    obtain rfl := Option.some.inj hx
    obtain ⟨rfl, rfl⟩ := hP
    exact Ev.iret 13 tk_HF_run rfl rfl
  · replace hx := ia hc1 hx
    refine Ev.blk (pc' := 9) (lv' := [some (vr 0 0 0), some (vi a1), some (vi a2), none, none, none, none, none]) (st' := [vi a1, vr 0 0 0]) (h' := h) 3 2 (Nat.le_of_ble_eq_true rfl) tk_HF_run rfl rfl ⟨trivial, trivial, trivial⟩ ?_
    refine Ev.callV (ν := m_HF_hasWalks) (av := [vi a1]) (rest := []) (r1 := some (vi (p_HF_hasWalks a1 h))) (h1 := h) (ci := 0) (nn := 0) (o := 0) 5 1 tk_HF_run rfl bb_HF_hasWalks vv_HF_hasWalks lk_0_283 (by decide) rfl rfl (Or.inl rfl) (Nat.le_of_ble_eq_true rfl) (s_HF_hasWalks Γ a1 h) ?_
    show Ev Γ m_HF_run 12 [some (vr 0 0 0), some (vi a1), some (vi a2), none, none, none, none, none] [vi (p_HF_hasWalks a1 h)] h r h'
    refine Ev.if_eq 6 24 tk_HF_run rfl (by decide) (fun hc2 => ?_) (fun hc2 => ?_)
    · replace hx := ip hc2 hx
      refine Ev.blk (pc' := 27) (lv' := [some (vr 0 0 0), some (vi a1), some (vi a2), none, none, none, none, none]) (st' := [vi (ii (-1000000))]) (h' := h) 12 1 (Nat.le_of_ble_eq_true rfl) tk_HF_run rfl rfl ⟨trivial, trivial⟩ ?_
      obtain rfl := Option.some.inj hx
      obtain ⟨rfl, rfl⟩ := hP
      exact Ev.iret 13 tk_HF_run rfl rfl
    · replace hx := ia hc2 hx
      refine Ev.blk (pc' := 16) (lv' := [some (vr 0 0 0), some (vi a1), some (vi a2), none, none, none, none, none]) (st' := [vi a2]) (h' := h) 7 1 (Nat.le_of_ble_eq_true rfl) tk_HF_run rfl rfl ⟨trivial, trivial⟩ ?_
      refine Ev.if_lt 8 24 tk_HF_run rfl (by decide) (fun hc3 => ?_) (fun hc3 => ?_)
      · replace hx := ip hc3 hx
        refine Ev.blk (pc' := 27) (lv' := [some (vr 0 0 0), some (vi a1), some (vi a2), none, none, none, none, none]) (st' := [vi (ii (-1000000))]) (h' := h) 12 1 (Nat.le_of_ble_eq_true rfl) tk_HF_run rfl rfl ⟨trivial, trivial⟩ ?_
        obtain rfl := Option.some.inj hx
        obtain ⟨rfl, rfl⟩ := hP
        exact Ev.iret 13 tk_HF_run rfl rfl
      · replace hx := ia hc3 hx
        refine Ev.blk (pc' := 21) (lv' := [some (vr 0 0 0), some (vi a1), some (vi a2), none, none, none, none, none]) (st' := [vi (ii 1), vi a2]) (h' := h) 9 2 (Nat.le_of_ble_eq_true rfl) tk_HF_run rfl rfl ⟨trivial, trivial, trivial⟩ ?_
        refine Ev.icmp_le 11 28 tk_HF_run rfl (by decide) (fun hc4 => ?_) (fun hc4 => ?_)
        · replace hx := ip hc4 hx
          obtain ⟨hg5, hx⟩ := gd hx
          refine Ev.blk (pc' := 43) (lv' := [some (vr 0 0 0), some (vi a1), some (vi a2), some (vr 7 0 (h.2.2 11 (a1).toNatClampNeg)), none, none, none, none]) (st' := [vr 8 0 13, vr 8 0 25]) (h' := h) 14 9 (Nat.le_of_ble_eq_true rfl) tk_HF_run rfl rfl ⟨trivial, trivial, trivial, hg5, trivial, trivial, trivial, trivial, trivial, trivial⟩ ?_
          obtain ⟨q1, hq6, hx⟩ := bd hx
          refine Ev.callV (ν := m_Moor_copy) (av := [vr 8 0 13]) (rest := []) (r1 := none) (h1 := q1) (ci := 8) (nn := 0) (o := 25) 23 1 tk_HF_run rfl bb_Moor_copy vv_Moor_copy lk_0_294 (by decide) rfl rfl (Or.inl rfl) (Nat.le_of_ble_eq_true rfl) (s_Moor_copy Γ 25 13 h _ hq6) ?_
          show Ev Γ m_HF_run 46 [some (vr 0 0 0), some (vi a1), some (vi a2), some (vr 7 0 (h.2.2 11 (a1).toNatClampNeg)), none, none, none, none] [] q1 r h'
          refine Ev.blk (pc' := 52) (lv' := [some (vr 0 0 0), some (vi a1), some (vi a2), some (vr 7 0 (h.2.2 11 (a1).toNatClampNeg)), some (vi (ii 0)), some (vi (ii 0)), none, none]) (st' := []) (h' := q1) 24 4 (Nat.le_of_ble_eq_true rfl) tk_HF_run rfl rfl ⟨trivial, trivial, trivial, trivial, trivial⟩ ?_
          refine Ev.msk [true, false, true, true, true, true, false, false] ?_
          show Ev Γ m_HF_run 52 [some (vr 0 0 0), none, some (vi a2), some (vr 7 0 (h.2.2 11 (a1).toNatClampNeg)), some (vi (ii 0)), some (vi (ii 0)), none, none] [] q1 r h'
          exact l_HF_run_L52 Γ FU a2 (h.2.2 11 (a1).toNatClampNeg) (ii 0) (ii 0) q1 _ hx r h' hP
        · replace hx := ia hc4 hx
          refine Ev.blk (pc' := 27) (lv' := [some (vr 0 0 0), some (vi a1), some (vi a2), none, none, none, none, none]) (st' := [vi (ii (-1000000))]) (h' := h) 12 1 (Nat.le_of_ble_eq_true rfl) tk_HF_run rfl rfl ⟨trivial, trivial⟩ ?_
          obtain rfl := Option.some.inj hx
          obtain ⟨rfl, rfl⟩ := hP
          exact Ev.iret 13 tk_HF_run rfl rfl
set_option maxRecDepth 4000 in
theorem l_HF_perform_L26 (Γ : AG) : ∀ (n : Nat) (o2 : Nat) (v3 : Int32) (h : AH) (x : Int32 × AH), HF_perform_L26 n o2 v3 h = some x → ∀ (r : Option AV) (h' : AH), r = some (vi x.1) ∧ h' = x.2 → Ev Γ m_HF_perform 26 [some (vr 0 0 0), none, some (vr 7 0 o2), some (vi v3), none, none] [] h r h' := by
  intro n
  induction n with
  | zero => intro o2 v3 h x hx; cases hx
  | succ n ih =>
    intro o2 v3 h x hx r h' hP
    replace hx : HF_perform_L26_b (HF_perform_L26 n) o2 v3 h = some x := hx
    unfold HF_perform_L26_b at hx
    refine Ev.blk (pc' := 31) (lv' := [some (vr 0 0 0), none, some (vr 7 0 o2), some (vi v3), none, none]) (st' := [vi (h.1 o2 1), vi v3]) (h' := h) 16 3 (Nat.le_of_ble_eq_true rfl) tk_HF_perform rfl rfl ⟨trivial, trivial, trivial, trivial⟩ ?_
    refine Ev.icmp_ge 19 82 tk_HF_perform rfl (by decide) (fun hc1 => ?_) (fun hc1 => ?_)
    · replace hx := ip hc1 hx
      refine Ev.blk (pc' := 86) (lv' := [some (vr 0 0 0), none, some (vr 7 0 o2), some (vi v3), none, none]) (st' := [vi (h.1 o2 1)]) (h' := h) 46 2 (Nat.le_of_ble_eq_true rfl) tk_HF_perform rfl rfl ⟨trivial, trivial, trivial⟩ ?_
      obtain rfl := Option.some.inj hx
      obtain ⟨rfl, rfl⟩ := hP
      exact Ev.iret 48 tk_HF_perform rfl rfl
    · replace hx := ia hc1 hx
      refine Ev.blk (pc' := 36) (lv' := [some (vr 0 0 0), none, some (vr 7 0 o2), some (vi v3), none, none]) (st' := [vi v3, vr 7 0 o2]) (h' := h) 20 2 (Nat.le_of_ble_eq_true rfl) tk_HF_perform rfl rfl ⟨trivial, trivial, trivial⟩ ?_
      obtain ⟨q1, hq2, hx⟩ := bd hx
      refine Ev.callV (ν := m_Walks_forkAt) (av := [vi v3]) (rest := []) (r1 := some (vi q1)) (h1 := h) (ci := 7) (nn := 0) (o := o2) 22 1 tk_HF_perform rfl bb_Walks_forkAt vv_Walks_forkAt lk_0_287 (by decide) rfl rfl (Or.inl rfl) (Nat.le_of_ble_eq_true rfl) (s_Walks_forkAt Γ o2 v3 h _ hq2) ?_
      show Ev Γ m_HF_perform 39 [some (vr 0 0 0), none, some (vr 7 0 o2), some (vi v3), none, none] [vi q1] h r h'
      refine Ev.blk (pc' := 50) (lv' := [some (vr 0 0 0), none, some (vr 7 0 o2), some (vi v3), some (vi q1), none]) (st' := [vi v3, vr 7 0 o2, vi q1, vr 8 0 13, vr 0 0 0]) (h' := h) 23 7 (Nat.le_of_ble_eq_true rfl) tk_HF_perform rfl rfl ⟨trivial, trivial, trivial, trivial, trivial, trivial, trivial, trivial⟩ ?_
      obtain ⟨q2, hq3, hx⟩ := bd hx
      refine Ev.callV (ν := m_Walks_wayAt) (av := [vi v3]) (rest := [vi q1, vr 8 0 13, vr 0 0 0]) (r1 := some (vi q2)) (h1 := h) (ci := 7) (nn := 0) (o := o2) 30 1 tk_HF_perform rfl bb_Walks_wayAt vv_Walks_wayAt lk_0_290 (by decide) rfl rfl (Or.inl rfl) (Nat.le_of_ble_eq_true rfl) (s_Walks_wayAt Γ o2 v3 h _ hq3) ?_
      show Ev Γ m_HF_perform 53 [some (vr 0 0 0), none, some (vr 7 0 o2), some (vi v3), some (vi q1), none] [vi q2, vi q1, vr 8 0 13, vr 0 0 0] h r h'
      obtain ⟨q3, hq4, hx⟩ := bd hx
      refine Ev.callV (ν := m_HF_goal) (av := [vr 8 0 13, vi q1, vi q2]) (rest := []) (r1 := some (vi q3)) (h1 := h) (ci := 0) (nn := 0) (o := 0) 31 3 tk_HF_perform rfl bb_HF_goal vv_HF_goal lk_0_203 (by decide) rfl rfl (Or.inl rfl) (Nat.le_of_ble_eq_true rfl) (s_HF_goal Γ 13 q1 q2 h _ hq4) ?_
      show Ev Γ m_HF_perform 56 [some (vr 0 0 0), none, some (vr 7 0 o2), some (vi v3), some (vi q1), none] [vi q3] h r h'
      refine Ev.blk (pc' := 61) (lv' := [some (vr 0 0 0), none, some (vr 7 0 o2), some (vi v3), some (vi q1), some (vi q3)]) (st' := [vi (ii (-1)), vi q3]) (h' := h) 32 3 (Nat.le_of_ble_eq_true rfl) tk_HF_perform rfl rfl ⟨trivial, trivial, trivial, trivial⟩ ?_
      refine Ev.icmp_ne 35 66 tk_HF_perform rfl (by decide) (fun hc5 => ?_) (fun hc5 => ?_)
      · replace hx := ia hc5 hx
        refine Ev.blk (pc' := 72) (lv' := [some (vr 0 0 0), none, some (vr 7 0 o2), some (vi v3), some (vi q1), some (vi q3)]) (st' := [vi (ii 0), vi q3, vi q1, vr 0 0 0]) (h' := h) 38 4 (Nat.le_of_ble_eq_true rfl) tk_HF_perform rfl rfl ⟨trivial, trivial, trivial, trivial, trivial⟩ ?_
        obtain ⟨q4, hq6, hx⟩ := bd hx
        refine Ev.callV (ν := m_HF_stepTo) (av := [vi q1, vi q3, vi (ii 0)]) (rest := []) (r1 := some (vi q4.1)) (h1 := q4.2) (ci := 0) (nn := 0) (o := 0) 42 3 tk_HF_perform rfl bb_HF_stepTo vv_HF_stepTo lk_0_206 (by decide) rfl rfl (Or.inl rfl) (Nat.le_of_ble_eq_true rfl) (s_HF_stepTo Γ q1 q3 (ii 0) h _ hq6) ?_
        show Ev Γ m_HF_perform 75 [some (vr 0 0 0), none, some (vr 7 0 o2), some (vi v3), some (vi q1), some (vi q3)] [vi q4.1] q4.2 r h'
        refine Ev.blk (pc' := 26) (lv' := [some (vr 0 0 0), none, some (vr 7 0 o2), some (vi (v3 + ii 1)), some (vi q1), some (vi q3)]) (st' := []) (h' := q4.2) 43 3 (Nat.le_of_ble_eq_true rfl) tk_HF_perform rfl rfl ⟨trivial, trivial, trivial, trivial⟩ ?_
        exact Ev.msk [true, false, true, true, false, false] (ih o2 (v3 + ii 1) q4.2 _ hx r h' hP)
      · replace hx := ip hc5 hx
        refine Ev.blk (pc' := 65) (lv' := [some (vr 0 0 0), none, some (vr 7 0 o2), some (vi v3), some (vi q1), some (vi q3)]) (st' := [vi v3]) (h' := h) 36 1 (Nat.le_of_ble_eq_true rfl) tk_HF_perform rfl rfl ⟨trivial, trivial⟩ ?_
        obtain rfl := Option.some.inj hx
        obtain ⟨rfl, rfl⟩ := hP
        exact Ev.iret 37 tk_HF_perform rfl rfl
set_option maxRecDepth 4000 in
theorem s_HF_perform (Γ : AG) (a1 : Int32) (h : AH) (x : Int32 × AH) (hx : f_HF_perform a1 h = some x) : MetA Γ m_HF_perform [vr 0 0 0, vi a1] h (some (vi x.1)) x.2 := by
  refine Ev.met rfl rfl (Nat.le_of_ble_eq_true rfl) ?_
  show Ev Γ m_HF_perform 0 [some (vr 0 0 0), some (vi a1), none, none, none, none] [] h _ _
  obtain ⟨r, hr⟩ : ∃ r : Option AV, r = some (vi x.1) := ⟨_, rfl⟩
  obtain ⟨h', hh⟩ : ∃ h' : AH, h' = x.2 := ⟨_, rfl⟩
  have hP : r = some (vi x.1) ∧ h' = x.2 := ⟨hr, hh⟩
  suffices hS : Ev Γ m_HF_perform 0 [some (vr 0 0 0), some (vi a1), none, none, none, none] [] h r h' by rw [hr, hh] at hS; exact hS
  clear hr hh
  unfold f_HF_perform at hx
  refine Ev.blk (pc' := 1) (lv' := [some (vr 0 0 0), some (vi a1), none, none, none, none]) (st' := [vr 0 0 0]) (h' := h) 0 1 (Nat.le_of_ble_eq_true rfl) tk_HF_perform rfl rfl ⟨trivial, trivial⟩ ?_
  refine Ev.callV (ν := m_HF_hasHeath) (av := []) (rest := []) (r1 := some (vi (p_HF_hasHeath h))) (h1 := h) (ci := 0) (nn := 0) (o := 0) 1 0 tk_HF_perform rfl bb_HF_hasHeath vv_HF_hasHeath lk_0_137 (by decide) rfl rfl (Or.inl rfl) (Nat.le_of_ble_eq_true rfl) (s_HF_hasHeath Γ h) ?_
  show Ev Γ m_HF_perform 4 [some (vr 0 0 0), some (vi a1), none, none, none, none] [vi (p_HF_hasHeath h)] h r h'
  refine Ev.if_eq 2 15 tk_HF_perform rfl (by decide) (fun hc1 => ?_) (fun hc1 => ?_)
  · replace hx := ip hc1 hx
    refine Ev.blk (pc' := 16) (lv' := [some (vr 0 0 0), some (vi a1), none, none, none, none]) (st' := [vi (ii (-1))]) (h' := h) 7 1 (Nat.le_of_ble_eq_true rfl) tk_HF_perform rfl rfl ⟨trivial, trivial⟩ ?_
    obtain rfl := Option.some.inj hx
    obtain ⟨rfl, rfl⟩ := hP
    exact Ev.iret 8 tk_HF_perform rfl rfl
  · replace hx := ia hc1 hx
    refine Ev.blk (pc' := 9) (lv' := [some (vr 0 0 0), some (vi a1), none, none, none, none]) (st' := [vi a1, vr 0 0 0]) (h' := h) 3 2 (Nat.le_of_ble_eq_true rfl) tk_HF_perform rfl rfl ⟨trivial, trivial, trivial⟩ ?_
    refine Ev.callV (ν := m_HF_hasWalks) (av := [vi a1]) (rest := []) (r1 := some (vi (p_HF_hasWalks a1 h))) (h1 := h) (ci := 0) (nn := 0) (o := 0) 5 1 tk_HF_perform rfl bb_HF_hasWalks vv_HF_hasWalks lk_0_283 (by decide) rfl rfl (Or.inl rfl) (Nat.le_of_ble_eq_true rfl) (s_HF_hasWalks Γ a1 h) ?_
    show Ev Γ m_HF_perform 12 [some (vr 0 0 0), some (vi a1), none, none, none, none] [vi (p_HF_hasWalks a1 h)] h r h'
    refine Ev.if_ne 6 17 tk_HF_perform rfl (by decide) (fun hc2 => ?_) (fun hc2 => ?_)
    · replace hx := ia hc2 hx
      obtain ⟨hg3, hx⟩ := gd hx
      refine Ev.blk (pc' := 26) (lv' := [some (vr 0 0 0), some (vi a1), some (vr 7 0 (h.2.2 11 (a1).toNatClampNeg)), some (vi (ii 0)), none, none]) (st' := []) (h' := h) 9 7 (Nat.le_of_ble_eq_true rfl) tk_HF_perform rfl rfl ⟨trivial, trivial, trivial, hg3, trivial, trivial, trivial, trivial⟩ ?_
      refine Ev.msk [true, false, true, true, false, false] ?_
      show Ev Γ m_HF_perform 26 [some (vr 0 0 0), none, some (vr 7 0 (h.2.2 11 (a1).toNatClampNeg)), some (vi (ii 0)), none, none] [] h r h'
      exact l_HF_perform_L26 Γ FU (h.2.2 11 (a1).toNatClampNeg) (ii 0) h _ hx r h' hP
    · replace hx := ip hc2 hx
      refine Ev.blk (pc' := 16) (lv' := [some (vr 0 0 0), some (vi a1), none, none, none, none]) (st' := [vi (ii (-1))]) (h' := h) 7 1 (Nat.le_of_ble_eq_true rfl) tk_HF_perform rfl rfl ⟨trivial, trivial⟩ ?_
      obtain rfl := Option.some.inj hx
      obtain ⟨rfl, rfl⟩ := hP
      exact Ev.iret 8 tk_HF_perform rfl rfl
set_option maxRecDepth 4000 in
theorem s_Heath_besideOf (Γ : AG) (o0 : Nat) (a1 : Int32) (h : AH) (x : Int32) (hx : f_Heath_besideOf o0 a1 h = some x) : MetA Γ m_Heath_besideOf [vr 3 0 o0, vi a1] h (some (vi x)) h := by
  refine Ev.met rfl rfl (Nat.le_of_ble_eq_true rfl) ?_
  show Ev Γ m_Heath_besideOf 0 [some (vr 3 0 o0), some (vi a1)] [] h _ _
  obtain ⟨r, hr⟩ : ∃ r : Option AV, r = some (vi x) := ⟨_, rfl⟩
  obtain ⟨h', hh⟩ : ∃ h' : AH, h' = h := ⟨_, rfl⟩
  have hP : r = some (vi x) ∧ h' = h := ⟨hr, hh⟩
  suffices hS : Ev Γ m_Heath_besideOf 0 [some (vr 3 0 o0), some (vi a1)] [] h r h' by rw [hr, hh] at hS; exact hS
  clear hr hh
  unfold f_Heath_besideOf at hx
  refine Ev.blk (pc' := 2) (lv' := [some (vr 3 0 o0), some (vi a1)]) (st' := [vi a1, vr 3 0 o0]) (h' := h) 0 2 (Nat.le_of_ble_eq_true rfl) tk_Heath_besideOf rfl rfl ⟨trivial, trivial, trivial⟩ ?_
  refine Ev.callV (ν := m_Heath_isCell) (av := [vi a1]) (rest := []) (r1 := some (vi (p_Heath_isCell o0 a1 h))) (h1 := h) (ci := 3) (nn := 0) (o := o0) 2 1 tk_Heath_besideOf rfl bb_Heath_isCell vv_Heath_isCell lk_3_71 (by decide) rfl rfl (Or.inl rfl) (Nat.le_of_ble_eq_true rfl) (s_Heath_isCell Γ o0 a1 h) ?_
  show Ev Γ m_Heath_besideOf 5 [some (vr 3 0 o0), some (vi a1)] [vi (p_Heath_isCell o0 a1 h)] h r h'
  refine Ev.if_eq 3 17 tk_Heath_besideOf rfl (by decide) (fun hc1 => ?_) (fun hc1 => ?_)
  · replace hx := ip hc1 hx
    refine Ev.blk (pc' := 18) (lv' := [some (vr 3 0 o0), some (vi a1)]) (st' := [vi (ii 0)]) (h' := h) 9 1 (Nat.le_of_ble_eq_true rfl) tk_Heath_besideOf rfl rfl ⟨trivial, trivial⟩ ?_
    obtain rfl := Option.some.inj hx
    obtain ⟨rfl, rfl⟩ := hP
    exact Ev.iret 10 tk_Heath_besideOf rfl rfl
  · replace hx := ia hc1 hx
    obtain ⟨hg2, hx⟩ := gd hx
    refine Ev.blk (pc' := 18) (lv' := [some (vr 3 0 o0), some (vi a1)]) (st' := [vi (h.1 (o0 + 4) (a1).toNatClampNeg)]) (h' := h) 4 5 (Nat.le_of_ble_eq_true rfl) tk_Heath_besideOf rfl rfl ⟨trivial, trivial, trivial, hg2, trivial, trivial⟩ ?_
    obtain rfl := Option.some.inj hx
    obtain ⟨rfl, rfl⟩ := hP
    exact Ev.iret 10 tk_Heath_besideOf rfl rfl
set_option maxRecDepth 4000 in
theorem s_HF_wellBrings (Γ : AG) (a1 : Int32) (a2 : Int32) (a3 : Int32) (h : AH) (x : Int32) (hx : f_HF_wellBrings a1 a2 a3 h = some x) : MetA Γ m_HF_wellBrings [vr 0 0 0, vi a1, vi a2, vi a3] h (some (vi x)) h := by
  refine Ev.met rfl rfl (Nat.le_of_ble_eq_true rfl) ?_
  show Ev Γ m_HF_wellBrings 0 [some (vr 0 0 0), some (vi a1), some (vi a2), some (vi a3), none] [] h _ _
  obtain ⟨r, hr⟩ : ∃ r : Option AV, r = some (vi x) := ⟨_, rfl⟩
  obtain ⟨h', hh⟩ : ∃ h' : AH, h' = h := ⟨_, rfl⟩
  have hP : r = some (vi x) ∧ h' = h := ⟨hr, hh⟩
  suffices hS : Ev Γ m_HF_wellBrings 0 [some (vr 0 0 0), some (vi a1), some (vi a2), some (vi a3), none] [] h r h' by rw [hr, hh] at hS; exact hS
  clear hr hh
  unfold f_HF_wellBrings at hx
  refine Ev.blk (pc' := 6) (lv' := [some (vr 0 0 0), some (vi a1), some (vi a2), some (vi a3), none]) (st' := [vi a2, vi a1, vr 3 0 (h.2.2 0 13)]) (h' := h) 0 4 (Nat.le_of_ble_eq_true rfl) tk_HF_wellBrings rfl rfl ⟨trivial, trivial, trivial, trivial, trivial⟩ ?_
  obtain ⟨q1, hq1, hx⟩ := bd hx
  refine Ev.callV (ν := m_Heath_waterIn) (av := [vi a1, vi a2]) (rest := []) (r1 := some (vi q1)) (h1 := h) (ci := 3) (nn := 0) (o := (h.2.2 0 13)) 4 2 tk_HF_wellBrings rfl bb_Heath_waterIn vv_Heath_waterIn lk_0_160 (by decide) rfl rfl (Or.inl rfl) (Nat.le_of_ble_eq_true rfl) (s_Heath_waterIn Γ (h.2.2 0 13) a1 a2 h _ hq1) ?_
  show Ev Γ m_HF_wellBrings 9 [some (vr 0 0 0), some (vi a1), some (vi a2), some (vi a3), none] [vi q1] h r h'
  refine Ev.blk (pc' := 14) (lv' := [some (vr 0 0 0), some (vi a1), some (vi a2), some (vi a3), some (vi q1)]) (st' := [vi (ii (-1)), vi q1]) (h' := h) 5 3 (Nat.le_of_ble_eq_true rfl) tk_HF_wellBrings rfl rfl ⟨trivial, trivial, trivial, trivial⟩ ?_
  refine Ev.icmp_eq 8 30 tk_HF_wellBrings rfl (by decide) (fun hc2 => ?_) (fun hc2 => ?_)
  · replace hx := ip hc2 hx
    refine Ev.blk (pc' := 31) (lv' := [some (vr 0 0 0), some (vi a1), some (vi a2), some (vi a3), some (vi q1)]) (st' := [vi (ii 0)]) (h' := h) 15 1 (Nat.le_of_ble_eq_true rfl) tk_HF_wellBrings rfl rfl ⟨trivial, trivial⟩ ?_
    obtain rfl := Option.some.inj hx
    obtain ⟨rfl, rfl⟩ := hP
    exact Ev.iret 16 tk_HF_wellBrings rfl rfl
  · replace hx := ia hc2 hx
    refine Ev.blk (pc' := 24) (lv' := [some (vr 0 0 0), some (vi a1), some (vi a2), some (vi a3), some (vi q1)]) (st' := [vi a1, vr 8 0 13, vi q1]) (h' := h) 9 4 (Nat.le_of_ble_eq_true rfl) tk_HF_wellBrings rfl rfl ⟨trivial, trivial, trivial, trivial, trivial⟩ ?_
    obtain ⟨q2, hq3, hx⟩ := bd hx
    refine Ev.callV (ν := m_Moor_sunkTo) (av := [vi a1]) (rest := [vi q1]) (r1 := some (vi q2)) (h1 := h) (ci := 8) (nn := 0) (o := 13) 13 1 tk_HF_wellBrings rfl bb_Moor_sunkTo vv_Moor_sunkTo lk_0_177 (by decide) rfl rfl (Or.inl rfl) (Nat.le_of_ble_eq_true rfl) (s_Moor_sunkTo Γ 13 a1 h _ hq3) ?_
    show Ev Γ m_HF_wellBrings 27 [some (vr 0 0 0), some (vi a1), some (vi a2), some (vi a3), some (vi q1)] [vi q2, vi q1] h r h'
    refine Ev.icmp_le 14 32 tk_HF_wellBrings rfl (by decide) (fun hc4 => ?_) (fun hc4 => ?_)
    · replace hx := ip hc4 hx
      obtain ⟨hg5, hx⟩ := gd hx
      refine Ev.blk (pc' := 46) (lv' := [some (vr 0 0 0), some (vi a1), some (vi a2), some (vi a3), some (vi q1)]) (st' := [vi a1, vr 3 0 (h.2.2 0 13), vi ((ii 10) - (q1 / (ii 10))), vi (ii 0)]) (h' := h) 17 9 (Nat.le_of_ble_eq_true rfl) tk_HF_wellBrings rfl rfl ⟨trivial, trivial, trivial, trivial, hg5, trivial, trivial, trivial, trivial, trivial⟩ ?_
      obtain ⟨q3, hq6, hx⟩ := bd hx
      refine Ev.callV (ν := m_Heath_besideOf) (av := [vi a1]) (rest := [vi ((ii 10) - (q1 / (ii 10))), vi (ii 0)]) (r1 := some (vi q3)) (h1 := h) (ci := 3) (nn := 0) (o := (h.2.2 0 13)) 26 1 tk_HF_wellBrings rfl bb_Heath_besideOf vv_Heath_besideOf lk_0_333 (by decide) rfl rfl (Or.inl rfl) (Nat.le_of_ble_eq_true rfl) (s_Heath_besideOf Γ (h.2.2 0 13) a1 h _ hq6) ?_
      show Ev Γ m_HF_wellBrings 49 [some (vr 0 0 0), some (vi a1), some (vi a2), some (vi a3), some (vi q1)] [vi q3, vi ((ii 10) - (q1 / (ii 10))), vi (ii 0)] h r h'
      refine Ev.blk (pc' := 51) (lv' := [some (vr 0 0 0), some (vi a1), some (vi a2), some (vi a3), some (vi q1)]) (st' := [vi (q3 &&& a3), vi ((ii 10) - (q1 / (ii 10))), vi (ii 0)]) (h' := h) 27 2 (Nat.le_of_ble_eq_true rfl) tk_HF_wellBrings rfl rfl ⟨trivial, trivial, trivial⟩ ?_
      refine Ev.callS (ν := m_Int_bitCount) (av := [vi (q3 &&& a3)]) (rest := [vi ((ii 10) - (q1 / (ii 10))), vi (ii 0)]) (r1 := some (vi (p_Int_bitCount (q3 &&& a3)))) (h1 := h) 29 1 tk_HF_wellBrings rfl bb_Int_bitCount vv_Int_bitCount lk_0_222 (by decide) rfl rfl (Nat.le_of_ble_eq_true rfl) (s_Int_bitCount Γ (q3 &&& a3) h) ?_
      show Ev Γ m_HF_wellBrings 54 [some (vr 0 0 0), some (vi a1), some (vi a2), some (vi a3), some (vi q1)] [vi (p_Int_bitCount (q3 &&& a3)), vi ((ii 10) - (q1 / (ii 10))), vi (ii 0)] h r h'
      refine Ev.blk (pc' := 55) (lv' := [some (vr 0 0 0), some (vi a1), some (vi a2), some (vi a3), some (vi q1)]) (st' := [vi (((ii 10) - (q1 / (ii 10))) - (p_Int_bitCount (q3 &&& a3))), vi (ii 0)]) (h' := h) 30 1 (Nat.le_of_ble_eq_true rfl) tk_HF_wellBrings rfl rfl ⟨trivial, trivial⟩ ?_
      refine Ev.mmax (rest := []) 31 tk_HF_wellBrings rfl lk_0_447 (by decide) (Nat.le_of_ble_eq_true rfl) ?_
      show Ev Γ m_HF_wellBrings 58 [some (vr 0 0 0), some (vi a1), some (vi a2), some (vi a3), some (vi q1)] [vi (p_Math_max (ii 0) (((ii 10) - (q1 / (ii 10))) - (p_Int_bitCount (q3 &&& a3))))] h r h'
      obtain rfl := Option.some.inj hx
      obtain ⟨rfl, rfl⟩ := hP
      exact Ev.iret 32 tk_HF_wellBrings rfl rfl
    · replace hx := ia hc4 hx
      refine Ev.blk (pc' := 31) (lv' := [some (vr 0 0 0), some (vi a1), some (vi a2), some (vi a3), some (vi q1)]) (st' := [vi (ii 0)]) (h' := h) 15 1 (Nat.le_of_ble_eq_true rfl) tk_HF_wellBrings rfl rfl ⟨trivial, trivial⟩ ?_
      obtain rfl := Option.some.inj hx
      obtain ⟨rfl, rfl⟩ := hP
      exact Ev.iret 16 tk_HF_wellBrings rfl rfl
