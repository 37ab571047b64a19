set_option maxRecDepth 4000 in
theorem l_HR_faultOf_L7 (Γ : AG) : ∀ (n : Nat) (v2 : Int32) (h : AH) (x : AH), HR_faultOf_L7 n v2 h = some x → ∀ (r : Option AV) (h' : AH), Ev Γ m_HR_faultOf 25 [some (vr 2 0 3), some (vr 1 0 1), none] [] x r h' → Ev Γ m_HR_faultOf 7 [some (vr 2 0 3), some (vr 1 0 1), some (vi v2)] [] h r h' := by
  intro n
  induction n with
  | zero => intro v2 h x hx; cases hx
  | succ n ih =>
    intro v2 h x hx r h' hP
    replace hx : HR_faultOf_L7_b (HR_faultOf_L7 n) v2 h = some x := hx
    unfold HR_faultOf_L7_b at hx
    refine Ev.blk (pc' := 9) (lv' := [some (vr 2 0 3), some (vr 1 0 1), some (vi v2)]) (st' := [vi (ii 5), vi v2]) (h' := h) 5 2 (Nat.le_of_ble_eq_true rfl) tk_HR_faultOf rfl rfl ⟨trivial, trivial, trivial⟩ ?_
    refine Ev.icmp_ge 7 25 tk_HR_faultOf rfl (by decide) (fun hc1 => ?_) (fun hc1 => ?_)
    · replace hx := ip hc1 hx
      obtain rfl := Option.some.inj hx
      exact Ev.msk [true, true, false] hP
    · replace hx := ia hc1 hx
      obtain ⟨hg2, hx⟩ := gd hx
      refine Ev.blk (pc' := 7) (lv' := [some (vr 2 0 3), some (vr 1 0 1), some (vi (v2 + ii 1))]) (st' := []) (h' := (wI h 4 v2.toNatClampNeg (ii 0))) 8 7 (Nat.le_of_ble_eq_true rfl) tk_HR_faultOf rfl rfl ⟨trivial, trivial, trivial, trivial, hg2, trivial, trivial, trivial⟩ ?_
      exact Ev.msk [true, true, true] (ih (v2 + ii 1) (wI h 4 v2.toNatClampNeg (ii 0)) _ hx r h' hP)
set_option maxRecDepth 4000 in
theorem l_HR_faultOf_L33 (Γ : AG) : ∀ (n : Nat) (v2 : Int32) (h : AH) (x : Int32 × AH), HR_faultOf_L33 n v2 h = some x → ∀ (r : Option AV) (h' : AH), r = some (vi x.1) ∧ h' = x.2 → Ev Γ m_HR_faultOf 33 [some (vr 2 0 3), some (vr 1 0 1), some (vi v2)] [] h r h' := by
  intro n
  induction n with
  | zero => intro v2 h x hx; cases hx
  | succ n ih =>
    intro v2 h x hx r h' hP
    replace hx : HR_faultOf_L33_b (HR_faultOf_L33 n) v2 h = some x := hx
    unfold HR_faultOf_L33_b at hx
    refine Ev.blk (pc' := 37) (lv' := [some (vr 2 0 3), some (vr 1 0 1), some (vi v2)]) (st' := [vi (ii 240), vi v2]) (h' := h) 21 2 (Nat.le_of_ble_eq_true rfl) tk_HR_faultOf rfl rfl ⟨trivial, trivial, trivial⟩ ?_
    refine Ev.icmp_gt 23 84 tk_HR_faultOf rfl (by decide) (fun hc1 => ?_) (fun hc1 => ?_)
    · replace hx := ip hc1 hx
      obtain ⟨hg2, hx⟩ := gd hx
      refine Ev.blk (pc' := 90) (lv' := [some (vr 2 0 3), some (vr 1 0 1), some (vi v2)]) (st' := [vi (h.1 4 (ii 4).toNatClampNeg)]) (h' := h) 45 4 (Nat.le_of_ble_eq_true rfl) tk_HR_faultOf rfl rfl ⟨trivial, trivial, trivial, hg2, trivial⟩ ?_
      refine Ev.if_le 49 104 tk_HR_faultOf rfl (by decide) (fun hc3 => ?_) (fun hc3 => ?_)
      · replace hx := ip hc3 hx
        refine Ev.blk (pc' := 108) (lv' := [some (vr 2 0 3), some (vr 1 0 1), some (vi v2)]) (st' := [vi (h.1 1 1)]) (h' := h) 55 2 (Nat.le_of_ble_eq_true rfl) tk_HR_faultOf rfl rfl ⟨trivial, trivial, trivial⟩ ?_
        obtain rfl := Option.some.inj hx
        obtain ⟨rfl, rfl⟩ := hP
        exact Ev.iret 57 tk_HR_faultOf rfl rfl
      · replace hx := ia hc3 hx
        refine Ev.blk (pc' := 94) (lv' := [some (vr 2 0 3), some (vr 1 0 1), some (vi v2)]) (st' := [vr 2 0 3]) (h' := h) 50 1 (Nat.le_of_ble_eq_true rfl) tk_HR_faultOf rfl rfl ⟨trivial, trivial⟩ ?_
        obtain ⟨q1, hq4, hx⟩ := bd hx
        refine Ev.callV (ν := m_HR_settle) (av := []) (rest := []) (r1 := some (vi q1.1)) (h1 := q1.2) (ci := 2) (nn := 0) (o := 3) 51 0 tk_HR_faultOf rfl bb_HR_settle vv_HR_settle lk_2_53 (by decide) rfl rfl (Or.inl rfl) (Nat.le_of_ble_eq_true rfl) (s_HR_settle Γ h _ hq4) ?_
        show Ev Γ m_HR_faultOf 97 [some (vr 2 0 3), some (vr 1 0 1), some (vi v2)] [vi q1.1] q1.2 r h'
        refine Ev.if_eq 52 104 tk_HR_faultOf rfl (by decide) (fun hc5 => ?_) (fun hc5 => ?_)
        · replace hx := ip hc5 hx
          refine Ev.blk (pc' := 108) (lv' := [some (vr 2 0 3), some (vr 1 0 1), some (vi v2)]) (st' := [vi (q1.2.1 1 1)]) (h' := q1.2) 55 2 (Nat.le_of_ble_eq_true rfl) tk_HR_faultOf rfl rfl ⟨trivial, trivial, trivial⟩ ?_
          obtain rfl := Option.some.inj hx
          obtain ⟨rfl, rfl⟩ := hP
          exact Ev.iret 57 tk_HR_faultOf rfl rfl
        · replace hx := ia hc5 hx
          refine Ev.blk (pc' := 108) (lv' := [some (vr 2 0 3), some (vr 1 0 1), some (vi v2)]) (st' := [vi (ii (-1))]) (h' := q1.2) 53 2 (Nat.le_of_ble_eq_true rfl) tk_HR_faultOf rfl rfl ⟨trivial, trivial, trivial⟩ ?_
          obtain rfl := Option.some.inj hx
          obtain ⟨rfl, rfl⟩ := hP
          exact Ev.iret 57 tk_HR_faultOf rfl rfl
    · replace hx := ia hc1 hx
      refine Ev.blk (pc' := 42) (lv' := [some (vr 2 0 3), some (vr 1 0 1), some (vi v2)]) (st' := [vr 1 0 1, vr 2 0 3]) (h' := h) 24 2 (Nat.le_of_ble_eq_true rfl) tk_HR_faultOf rfl rfl ⟨trivial, trivial, trivial⟩ ?_
      obtain ⟨q2, hq6, hx⟩ := bd hx
      refine Ev.callV (ν := m_HR_readClause) (av := [vr 1 0 1]) (rest := []) (r1 := some (vi q2.1)) (h1 := q2.2) (ci := 2) (nn := 0) (o := 3) 26 1 tk_HR_faultOf rfl bb_HR_readClause vv_HR_readClause lk_2_41 (by decide) rfl rfl (Or.inl rfl) (Nat.le_of_ble_eq_true rfl) (s_HR_readClause Γ h _ hq6) ?_
      show Ev Γ m_HR_faultOf 45 [some (vr 2 0 3), some (vr 1 0 1), some (vi v2)] [vi q2.1] q2.2 r h'
      refine Ev.if_ne 27 53 tk_HR_faultOf rfl (by decide) (fun hc7 => ?_) (fun hc7 => ?_)
      · replace hx := ia hc7 hx
        refine Ev.blk (pc' := 54) (lv' := [some (vr 2 0 3), some (vr 1 0 1), some (vi v2)]) (st' := [vr 1 0 1]) (h' := q2.2) 31 1 (Nat.le_of_ble_eq_true rfl) tk_HR_faultOf rfl rfl ⟨trivial, trivial⟩ ?_
        obtain ⟨q3, hq8, hx⟩ := bd hx
        refine Ev.callV (ν := m_Tape_peek) (av := []) (rest := []) (r1 := some (vi q3.1)) (h1 := q3.2) (ci := 1) (nn := 0) (o := 1) 32 0 tk_HR_faultOf rfl bb_Tape_peek vv_Tape_peek lk_2_45 (by decide) rfl rfl (Or.inl rfl) (Nat.le_of_ble_eq_true rfl) (s_Tape_peek Γ q2.2 _ hq8) ?_
        show Ev Γ m_HR_faultOf 57 [some (vr 2 0 3), some (vr 1 0 1), some (vi v2)] [vi q3.1] q3.2 r h'
        refine Ev.blk (pc' := 58) (lv' := [some (vr 2 0 3), some (vr 1 0 1), some (vi v2)]) (st' := [vi (ii (-1)), vi q3.1]) (h' := q3.2) 33 1 (Nat.le_of_ble_eq_true rfl) tk_HR_faultOf rfl rfl ⟨trivial, trivial⟩ ?_
        refine Ev.icmp_ne 34 64 tk_HR_faultOf rfl (by decide) (fun hc9 => ?_) (fun hc9 => ?_)
        · replace hx := ia hc9 hx
          refine Ev.blk (pc' := 67) (lv' := [some (vr 2 0 3), some (vr 1 0 1), some (vi v2)]) (st' := [vi (ii 59), vr 1 0 1]) (h' := q3.2) 36 2 (Nat.le_of_ble_eq_true rfl) tk_HR_faultOf rfl rfl ⟨trivial, trivial, trivial⟩ ?_
          obtain ⟨q4, hq10, hx⟩ := bd hx
          refine Ev.callV (ν := m_Tape_take) (av := [vi (ii 59)]) (rest := []) (r1 := some (vi q4.1)) (h1 := q4.2) (ci := 1) (nn := 0) (o := 1) 38 1 tk_HR_faultOf rfl bb_Tape_take vv_Tape_take lk_2_49 (by decide) rfl rfl (Or.inl rfl) (Nat.le_of_ble_eq_true rfl) (s_Tape_take Γ (ii 59) q3.2 _ hq10) ?_
          show Ev Γ m_HR_faultOf 70 [some (vr 2 0 3), some (vr 1 0 1), some (vi v2)] [vi q4.1] q4.2 r h'
          refine Ev.if_ne 39 78 tk_HR_faultOf rfl (by decide) (fun hc11 => ?_) (fun hc11 => ?_)
          · replace hx := ia hc11 hx
            refine Ev.blk (pc' := 33) (lv' := [some (vr 2 0 3), some (vr 1 0 1), some (vi (v2 + ii 1))]) (st' := []) (h' := q4.2) 43 2 (Nat.le_of_ble_eq_true rfl) tk_HR_faultOf rfl rfl ⟨trivial, trivial, trivial⟩ ?_
            exact Ev.msk [true, true, true] (ih (v2 + ii 1) q4.2 _ hx r h' hP)
          · replace hx := ip hc11 hx
            refine Ev.blk (pc' := 77) (lv' := [some (vr 2 0 3), some (vr 1 0 1), some (vi v2)]) (st' := [vi (q4.2.1 1 2)]) (h' := q4.2) 40 2 (Nat.le_of_ble_eq_true rfl) tk_HR_faultOf rfl rfl ⟨trivial, trivial, trivial⟩ ?_
            obtain rfl := Option.some.inj hx
            obtain ⟨rfl, rfl⟩ := hP
            exact Ev.iret 42 tk_HR_faultOf rfl rfl
        · replace hx := ip hc9 hx
          refine Ev.blk (pc' := 84) (lv' := [some (vr 2 0 3), some (vr 1 0 1), some (vi v2)]) (st' := []) (h' := q3.2) 35 1 (Nat.le_of_ble_eq_true rfl) tk_HR_faultOf rfl rfl ⟨trivial, trivial⟩ ?_
          obtain ⟨hg12, hx⟩ := gd hx
          refine Ev.blk (pc' := 90) (lv' := [some (vr 2 0 3), some (vr 1 0 1), some (vi v2)]) (st' := [vi (q3.2.1 4 (ii 4).toNatClampNeg)]) (h' := q3.2) 45 4 (Nat.le_of_ble_eq_true rfl) tk_HR_faultOf rfl rfl ⟨trivial, trivial, trivial, hg12, trivial⟩ ?_
          refine Ev.if_le 49 104 tk_HR_faultOf rfl (by decide) (fun hc13 => ?_) (fun hc13 => ?_)
          · replace hx := ip hc13 hx
            refine Ev.blk (pc' := 108) (lv' := [some (vr 2 0 3), some (vr 1 0 1), some (vi v2)]) (st' := [vi (q3.2.1 1 1)]) (h' := q3.2) 55 2 (Nat.le_of_ble_eq_true rfl) tk_HR_faultOf rfl rfl ⟨trivial, trivial, trivial⟩ ?_
            obtain rfl := Option.some.inj hx
            obtain ⟨rfl, rfl⟩ := hP
            exact Ev.iret 57 tk_HR_faultOf rfl rfl
          · replace hx := ia hc13 hx
            refine Ev.blk (pc' := 94) (lv' := [some (vr 2 0 3), some (vr 1 0 1), some (vi v2)]) (st' := [vr 2 0 3]) (h' := q3.2) 50 1 (Nat.le_of_ble_eq_true rfl) tk_HR_faultOf rfl rfl ⟨trivial, trivial⟩ ?_
            obtain ⟨q5, hq14, hx⟩ := bd hx
            refine Ev.callV (ν := m_HR_settle) (av := []) (rest := []) (r1 := some (vi q5.1)) (h1 := q5.2) (ci := 2) (nn := 0) (o := 3) 51 0 tk_HR_faultOf rfl bb_HR_settle vv_HR_settle lk_2_53 (by decide) rfl rfl (Or.inl rfl) (Nat.le_of_ble_eq_true rfl) (s_HR_settle Γ q3.2 _ hq14) ?_
            show Ev Γ m_HR_faultOf 97 [some (vr 2 0 3), some (vr 1 0 1), some (vi v2)] [vi q5.1] q5.2 r h'
            refine Ev.if_eq 52 104 tk_HR_faultOf rfl (by decide) (fun hc15 => ?_) (fun hc15 => ?_)
            · replace hx := ip hc15 hx
              refine Ev.blk (pc' := 108) (lv' := [some (vr 2 0 3), some (vr 1 0 1), some (vi v2)]) (st' := [vi (q5.2.1 1 1)]) (h' := q5.2) 55 2 (Nat.le_of_ble_eq_true rfl) tk_HR_faultOf rfl rfl ⟨trivial, trivial, trivial⟩ ?_
              obtain rfl := Option.some.inj hx
              obtain ⟨rfl, rfl⟩ := hP
              exact Ev.iret 57 tk_HR_faultOf rfl rfl
            · replace hx := ia hc15 hx
              refine Ev.blk (pc' := 108) (lv' := [some (vr 2 0 3), some (vr 1 0 1), some (vi v2)]) (st' := [vi (ii (-1))]) (h' := q5.2) 53 2 (Nat.le_of_ble_eq_true rfl) tk_HR_faultOf rfl rfl ⟨trivial, trivial, trivial⟩ ?_
              obtain rfl := Option.some.inj hx
              obtain ⟨rfl, rfl⟩ := hP
              exact Ev.iret 57 tk_HR_faultOf rfl rfl
      · replace hx := ip hc7 hx
        refine Ev.blk (pc' := 52) (lv' := [some (vr 2 0 3), some (vr 1 0 1), some (vi v2)]) (st' := [vi (q2.2.1 1 2)]) (h' := q2.2) 28 2 (Nat.le_of_ble_eq_true rfl) tk_HR_faultOf rfl rfl ⟨trivial, trivial, trivial⟩ ?_
        obtain rfl := Option.some.inj hx
        obtain ⟨rfl, rfl⟩ := hP
        exact Ev.iret 30 tk_HR_faultOf rfl rfl
set_option maxRecDepth 4000 in
theorem s_HR_faultOf (Γ : AG) (h : AH) (x : Int32 × AH) (hx : f_HR_faultOf  h = some x) : MetA Γ m_HR_faultOf [vr 2 0 3, vr 1 0 1] h (some (vi x.1)) x.2 := by
  refine Ev.met rfl rfl (Nat.le_of_ble_eq_true rfl) ?_
  show Ev Γ m_HR_faultOf 0 [some (vr 2 0 3), some (vr 1 0 1), none] [] h _ _
  obtain ⟨r, hr⟩ : ∃ r : Option AV, r = some (vi x.1) := ⟨_, rfl⟩
  obtain ⟨h', hh⟩ : ∃ h' : AH, h' = x.2 := ⟨_, rfl⟩
  have hP : r = some (vi x.1) ∧ h' = x.2 := ⟨hr, hh⟩
  suffices hS : Ev Γ m_HR_faultOf 0 [some (vr 2 0 3), some (vr 1 0 1), none] [] h r h' by rw [hr, hh] at hS; exact hS
  clear hr hh
  unfold f_HR_faultOf at hx
  refine Ev.blk (pc' := 7) (lv' := [some (vr 2 0 3), some (vr 1 0 1), some (vi (ii 0))]) (st' := []) (h' := (wI h 1 2 (ii 0))) 0 5 (Nat.le_of_ble_eq_true rfl) tk_HR_faultOf rfl rfl ⟨trivial, trivial, trivial, trivial, trivial, trivial⟩ ?_
  obtain ⟨q1, hq1, hx⟩ := bd hx
  refine Ev.msk [true, true, true] ?_
  show Ev Γ m_HR_faultOf 7 [some (vr 2 0 3), some (vr 1 0 1), some (vi (ii 0))] [] (wI h 1 2 (ii 0)) r h'
  refine l_HR_faultOf_L7 Γ FU (ii 0) (wI h 1 2 (ii 0)) _ hq1 r h' ?_
  show Ev Γ m_HR_faultOf 25 [some (vr 2 0 3), some (vr 1 0 1), none] [] q1 r h'
  refine Ev.blk (pc' := 28) (lv' := [some (vr 2 0 3), some (vr 1 0 1), none]) (st' := [vi (ii 0), vi (ii 0), vr 2 0 3]) (h' := q1) 15 3 (Nat.le_of_ble_eq_true rfl) tk_HR_faultOf rfl rfl ⟨trivial, trivial, trivial, trivial⟩ ?_
  obtain ⟨q2, hq2, hx⟩ := bd hx
  refine Ev.callV (ν := m_HR_fillWithout) (av := [vi (ii 0), vi (ii 0)]) (rest := []) (r1 := none) (h1 := q2) (ci := 2) (nn := 0) (o := 3) 18 2 tk_HR_faultOf rfl bb_HR_fillWithout vv_HR_fillWithout lk_2_37 (by decide) rfl rfl (Or.inl rfl) (Nat.le_of_ble_eq_true rfl) (s_HR_fillWithout Γ (ii 0) (ii 0) q1 _ hq2) ?_
  show Ev Γ m_HR_faultOf 31 [some (vr 2 0 3), some (vr 1 0 1), none] [] q2 r h'
  refine Ev.blk (pc' := 33) (lv' := [some (vr 2 0 3), some (vr 1 0 1), some (vi (ii 0))]) (st' := []) (h' := q2) 19 2 (Nat.le_of_ble_eq_true rfl) tk_HR_faultOf rfl rfl ⟨trivial, trivial, trivial⟩ ?_
  refine Ev.msk [true, true, true] ?_
  show Ev Γ m_HR_faultOf 33 [some (vr 2 0 3), some (vr 1 0 1), some (vi (ii 0))] [] q2 r h'
  exact l_HR_faultOf_L33 Γ FU (ii 0) q2 _ hx r h' hP
set_option maxRecDepth 4000 in
theorem s_Law_emit (Γ : AG) (o0 : Nat) (a1 : Int32) (h : AH) (x : AH) (hx : f_Law_emit o0 a1 h = some x) : MetA Γ m_Law_emit [vr 5 0 o0, vi a1] h (none) x := by
  refine Ev.met rfl rfl (Nat.le_of_ble_eq_true rfl) ?_
  show Ev Γ m_Law_emit 0 [some (vr 5 0 o0), some (vi a1)] [] h _ _
  obtain ⟨r, hr⟩ : ∃ r : Option AV, r = none := ⟨_, rfl⟩
  obtain ⟨h', hh⟩ : ∃ h' : AH, h' = x := ⟨_, rfl⟩
  have hP : r = none ∧ h' = x := ⟨hr, hh⟩
  suffices hS : Ev Γ m_Law_emit 0 [some (vr 5 0 o0), some (vi a1)] [] h r h' by rw [hr, hh] at hS; exact hS
  clear hr hh
  unfold f_Law_emit at hx
  refine Ev.blk (pc' := 4) (lv' := [some (vr 5 0 o0), some (vi a1)]) (st' := [vi (h.1 o0 2)]) (h' := h) 0 2 (Nat.le_of_ble_eq_true rfl) tk_Law_emit rfl rfl ⟨trivial, trivial, trivial⟩ ?_
  refine Ev.if_lt 2 39 tk_Law_emit rfl (by decide) (fun hc1 => ?_) (fun hc1 => ?_)
  · replace hx := ip hc1 hx
    obtain rfl := Option.some.inj hx
    obtain ⟨rfl, rfl⟩ := hP
    exact Ev.vret 21 tk_Law_emit rfl rfl
  · replace hx := ia hc1 hx
    refine Ev.blk (pc' := 16) (lv' := [some (vr 5 0 o0), some (vi a1)]) (st' := [vi (ii (240 : Int)), vi (h.1 o0 2)]) (h' := h) 3 5 (Nat.le_of_ble_eq_true rfl) tk_Law_emit rfl rfl ⟨trivial, trivial, trivial, trivial, trivial, trivial⟩ ?_
    refine Ev.icmp_ge 8 39 tk_Law_emit rfl (by decide) (fun hc2 => ?_) (fun hc2 => ?_)
    · replace hx := ip hc2 hx
      obtain rfl := Option.some.inj hx
      obtain ⟨rfl, rfl⟩ := hP
      exact Ev.vret 21 tk_Law_emit rfl rfl
    · replace hx := ia hc2 hx
      obtain ⟨hg3, hx⟩ := gd hx
      refine Ev.blk (pc' := 39) (lv' := [some (vr 5 0 o0), some (vi a1)]) (st' := []) (h' := (wI (wI h (o0 + 1) (h.1 o0 2).toNatClampNeg a1) o0 2 (((wI h (o0 + 1) (h.1 o0 2).toNatClampNeg a1).1 o0 2) + (ii 1)))) 9 12 (Nat.le_of_ble_eq_true rfl) tk_Law_emit rfl rfl ⟨trivial, trivial, trivial, trivial, trivial, hg3, trivial, trivial, trivial, trivial, trivial, trivial, trivial⟩ ?_
      obtain rfl := Option.some.inj hx
      obtain ⟨rfl, rfl⟩ := hP
      exact Ev.vret 21 tk_Law_emit rfl rfl
set_option maxRecDepth 4000 in
theorem u_LR_readAtom_ok (Γ : AG) (d : Nat) (rc : Nat → Int32 → AH → Option (Int32 × AH)) (hrc0 : ∀ (b0 : Int32) (h : AH) (x : Int32 × AH), rc 0 b0 h = some x → MetA Γ (m_LR_readSum d) [vr 4 0 8, vr 1 0 1, vi b0] h (some (vi x.1)) x.2) (hrc1 : ∀ (b0 : Int32) (h : AH) (x : Int32 × AH), rc 1 b0 h = some x → MetA Γ (m_LR_readAtom d) [vr 4 0 8, vr 1 0 1, vi b0] h (some (vi x.1)) x.2) (a2 : Int32) (h : AH) (x : Int32 × AH) (hx : u_LR_readAtom rc a2 h = some x) : MetA Γ (m_LR_readAtom (d + 1)) [vr 4 0 8, vr 1 0 1, vi a2] h (some (vi x.1)) x.2 := by
  refine Ev.met rfl rfl (Nat.le_of_ble_eq_true rfl) ?_
  show Ev Γ (m_LR_readAtom (d + 1)) 0 [some (vr 4 0 8), some (vr 1 0 1), some (vi a2), none, none, none] [] h _ _
  obtain ⟨r, hr⟩ : ∃ r : Option AV, r = some (vi x.1) := ⟨_, rfl⟩
  obtain ⟨h', hh⟩ : ∃ h' : AH, h' = x.2 := ⟨_, rfl⟩
  have hP : r = some (vi x.1) ∧ h' = x.2 := ⟨hr, hh⟩
  suffices hS : Ev Γ (m_LR_readAtom (d + 1)) 0 [some (vr 4 0 8), some (vr 1 0 1), some (vi a2), none, none, none] [] h r h' by rw [hr, hh] at hS; exact hS
  clear hr hh
  unfold u_LR_readAtom at hx
  refine Ev.blk (pc' := 1) (lv' := [some (vr 4 0 8), some (vr 1 0 1), some (vi a2), none, none, none]) (st' := [vr 1 0 1]) (h' := h) 0 1 (Nat.le_of_ble_eq_true rfl) tk_LR_readAtom rfl rfl ⟨trivial, trivial⟩ ?_
  obtain ⟨q1, hq1, hx⟩ := bd hx
  refine Ev.callV (ν := m_Tape_peek) (av := []) (rest := []) (r1 := some (vi q1.1)) (h1 := q1.2) (ci := 1) (nn := 0) (o := 1) 1 0 tk_LR_readAtom rfl bb_Tape_peek vv_Tape_peek lk_4_35 (by show _ ≤ 6 + (d + 1); simp only [mv, m_Tape_peek]; omega) rfl rfl (Or.inl rfl) (Nat.le_of_ble_eq_true rfl) (s_Tape_peek Γ h _ hq1) ?_
  show Ev Γ (m_LR_readAtom (d + 1)) 4 [some (vr 4 0 8), some (vr 1 0 1), some (vi a2), none, none, none] [vi q1.1] q1.2 r h'
  refine Ev.blk (pc' := 8) (lv' := [some (vr 4 0 8), some (vr 1 0 1), some (vi a2), some (vi q1.1), none, none]) (st' := [vi (ii 91), vi q1.1]) (h' := q1.2) 2 3 (Nat.le_of_ble_eq_true rfl) tk_LR_readAtom rfl rfl ⟨trivial, trivial, trivial, trivial⟩ ?_
  refine Ev.icmp_ne 5 63 tk_LR_readAtom rfl (by decide) (fun hc2 => ?_) (fun hc2 => ?_)
  · replace hx := ia hc2 hx
    refine Ev.blk (pc' := 66) (lv' := [some (vr 4 0 8), some (vr 1 0 1), some (vi a2), some (vi q1.1), none, none]) (st' := [vi q1.1, vr 31 0 7]) (h' := q1.2) 38 2 (Nat.le_of_ble_eq_true rfl) tk_LR_readAtom rfl rfl ⟨trivial, trivial, trivial⟩ ?_
    obtain ⟨q2, hq3, hx⟩ := bd hx
    refine Ev.callSN (ν := m_HF_placeIn) (av := [vr 31 0 7, vi q1.1]) (rest := []) (r1 := some (vi q2)) (h1 := q1.2) 40 2 tk_LR_readAtom rfl bb_HF_placeIn vv_HF_placeIn lk_4_70 (by show _ ≤ 6 + (d + 1); simp only [mv, m_HF_placeIn]; omega) rfl rfl (Nat.le_of_ble_eq_true rfl) (s_HF_placeIn Γ 7 q1.1 q1.2 _ hq3) ?_
    show Ev Γ (m_LR_readAtom (d + 1)) 69 [some (vr 4 0 8), some (vr 1 0 1), some (vi a2), some (vi q1.1), none, none] [vi q2] q1.2 r h'
    refine Ev.blk (pc' := 73) (lv' := [some (vr 4 0 8), some (vr 1 0 1), some (vi a2), some (vi q1.1), some (vi q2), none]) (st' := [vi q2]) (h' := q1.2) 41 2 (Nat.le_of_ble_eq_true rfl) tk_LR_readAtom rfl rfl ⟨trivial, trivial, trivial⟩ ?_
    refine Ev.if_lt 43 99 tk_LR_readAtom rfl (by decide) (fun hc4 => ?_) (fun hc4 => ?_)
    · replace hx := ip hc4 hx
      refine Ev.blk (pc' := 101) (lv' := [some (vr 4 0 8), some (vr 1 0 1), some (vi a2), some (vi q1.1), some (vi q2), none]) (st' := [vi (ii 4), vr 1 0 1]) (h' := q1.2) 58 2 (Nat.le_of_ble_eq_true rfl) tk_LR_readAtom rfl rfl ⟨trivial, trivial, trivial⟩ ?_
      obtain ⟨q3, hq5, hx⟩ := bd hx
      refine Ev.callV (ν := m_Tape_number) (av := [vi (ii 4)]) (rest := []) (r1 := some (vi q3.1)) (h1 := q3.2) (ci := 1) (nn := 0) (o := 1) 60 1 tk_LR_readAtom rfl bb_Tape_number vv_Tape_number lk_4_74 (by show _ ≤ 6 + (d + 1); simp only [mv, m_Tape_number]; omega) rfl rfl (Or.inl rfl) (Nat.le_of_ble_eq_true rfl) (s_Tape_number Γ (ii 4) q1.2 _ hq5) ?_
      show Ev Γ (m_LR_readAtom (d + 1)) 104 [some (vr 4 0 8), some (vr 1 0 1), some (vi a2), some (vi q1.1), some (vi q2), none] [vi q3.1] q3.2 r h'
      refine Ev.blk (pc' := 109) (lv' := [some (vr 4 0 8), some (vr 1 0 1), some (vi a2), some (vi q1.1), some (vi q2), some (vi q3.1)]) (st' := [vi (ii (-1)), vi q3.1]) (h' := q3.2) 61 3 (Nat.le_of_ble_eq_true rfl) tk_LR_readAtom rfl rfl ⟨trivial, trivial, trivial, trivial⟩ ?_
      refine Ev.icmp_ne 64 114 tk_LR_readAtom rfl (by decide) (fun hc6 => ?_) (fun hc6 => ?_)
      · replace hx := ia hc6 hx
        refine Ev.blk (pc' := 120) (lv' := [some (vr 4 0 8), some (vr 1 0 1), some (vi a2), some (vi q1.1), some (vi q2), some (vi q3.1)]) (st' := [vi q3.1, vr 5 0 (q3.2.2.2 8 0)]) (h' := q3.2) 67 3 (Nat.le_of_ble_eq_true rfl) tk_LR_readAtom rfl rfl ⟨trivial, trivial, trivial, trivial⟩ ?_
        obtain ⟨q4, hq7, hx⟩ := bd hx
        refine Ev.callV (ν := m_Law_emit) (av := [vi q3.1]) (rest := []) (r1 := none) (h1 := q4) (ci := 5) (nn := 0) (o := (q3.2.2.2 8 0)) 70 1 tk_LR_readAtom rfl bb_Law_emit vv_Law_emit lk_4_31 (by show _ ≤ 6 + (d + 1); simp only [mv, m_Law_emit]; omega) rfl rfl (Or.inl rfl) (Nat.le_of_ble_eq_true rfl) (s_Law_emit Γ (q3.2.2.2 8 0) q3.1 q3.2 _ hq7) ?_
        show Ev Γ (m_LR_readAtom (d + 1)) 123 [some (vr 4 0 8), some (vr 1 0 1), some (vi a2), some (vi q1.1), some (vi q2), some (vi q3.1)] [] q4 r h'
        refine Ev.blk (pc' := 124) (lv' := [some (vr 4 0 8), some (vr 1 0 1), some (vi a2), some (vi q1.1), some (vi q2), some (vi q3.1)]) (st' := [vi (ii 1)]) (h' := q4) 71 1 (Nat.le_of_ble_eq_true rfl) tk_LR_readAtom rfl rfl ⟨trivial, trivial⟩ ?_
        obtain rfl := Option.some.inj hx
        obtain ⟨rfl, rfl⟩ := hP
        exact Ev.zret 72 tk_LR_readAtom rfl rfl rfl
      · replace hx := ip hc6 hx
        refine Ev.blk (pc' := 113) (lv' := [some (vr 4 0 8), some (vr 1 0 1), some (vi a2), some (vi q1.1), some (vi q2), some (vi q3.1)]) (st' := [vi (ii 0)]) (h' := q3.2) 65 1 (Nat.le_of_ble_eq_true rfl) tk_LR_readAtom rfl rfl ⟨trivial, trivial⟩ ?_
        obtain rfl := Option.some.inj hx
        obtain ⟨rfl, rfl⟩ := hP
        exact Ev.zret 66 tk_LR_readAtom rfl rfl rfl
    · replace hx := ia hc4 hx
      refine Ev.blk (pc' := 94) (lv' := [some (vr 4 0 8), some (vr 1 0 1), some (vi a2), some (vi q1.1), some (vi q2), none]) (st' := [vi ((ii (-1)) - q2), vr 5 0 ((wI q1.2 1 2 ((q1.2.1 1 2) + (ii 1))).2.2 8 0)]) (h' := (wI q1.2 1 2 ((q1.2.1 1 2) + (ii 1)))) 44 11 (Nat.le_of_ble_eq_true rfl) tk_LR_readAtom rfl rfl ⟨trivial, trivial, trivial, trivial, trivial, trivial, trivial, trivial, trivial, trivial, trivial, trivial⟩ ?_
      obtain ⟨q5, hq8, hx⟩ := bd hx
      refine Ev.callV (ν := m_Law_emit) (av := [vi ((ii (-1)) - q2)]) (rest := []) (r1 := none) (h1 := q5) (ci := 5) (nn := 0) (o := ((wI q1.2 1 2 ((q1.2.1 1 2) + (ii 1))).2.2 8 0)) 55 1 tk_LR_readAtom rfl bb_Law_emit vv_Law_emit lk_4_31 (by show _ ≤ 6 + (d + 1); simp only [mv, m_Law_emit]; omega) rfl rfl (Or.inl rfl) (Nat.le_of_ble_eq_true rfl) (s_Law_emit Γ ((wI q1.2 1 2 ((q1.2.1 1 2) + (ii 1))).2.2 8 0) ((ii (-1)) - q2) (wI q1.2 1 2 ((q1.2.1 1 2) + (ii 1))) _ hq8) ?_
      show Ev Γ (m_LR_readAtom (d + 1)) 97 [some (vr 4 0 8), some (vr 1 0 1), some (vi a2), some (vi q1.1), some (vi q2), none] [] q5 r h'
      refine Ev.blk (pc' := 98) (lv' := [some (vr 4 0 8), some (vr 1 0 1), some (vi a2), some (vi q1.1), some (vi q2), none]) (st' := [vi (ii 1)]) (h' := q5) 56 1 (Nat.le_of_ble_eq_true rfl) tk_LR_readAtom rfl rfl ⟨trivial, trivial⟩ ?_
      obtain rfl := Option.some.inj hx
      obtain ⟨rfl, rfl⟩ := hP
      exact Ev.zret 57 tk_LR_readAtom rfl rfl rfl
  · replace hx := ip hc2 hx
    refine Ev.blk (pc' := 14) (lv' := [some (vr 4 0 8), some (vr 1 0 1), some (vi a2), some (vi q1.1), none, none]) (st' := [vi (ii 6), vi a2]) (h' := q1.2) 6 2 (Nat.le_of_ble_eq_true rfl) tk_LR_readAtom rfl rfl ⟨trivial, trivial, trivial⟩ ?_
    refine Ev.icmp_lt 8 19 tk_LR_readAtom rfl (by decide) (fun hc9 => ?_) (fun hc9 => ?_)
    · replace hx := ip hc9 hx
      refine Ev.blk (pc' := 34) (lv' := [some (vr 4 0 8), some (vr 1 0 1), some (vi a2), some (vi q1.1), none, none]) (st' := [vi (a2 + (ii 1)), vr 1 0 1, vr 4 0 8]) (h' := (wI q1.2 1 2 ((q1.2.1 1 2) + (ii 1)))) 11 11 (Nat.le_of_ble_eq_true rfl) tk_LR_readAtom rfl rfl ⟨trivial, trivial, trivial, trivial, trivial, trivial, trivial, trivial, trivial, trivial, trivial, trivial⟩ ?_
      obtain ⟨q6, hq10, hx⟩ := bd hx
      refine Ev.callV (ν := (m_LR_readSum d)) (av := [vr 1 0 1, vi (a2 + (ii 1))]) (rest := []) (r1 := some (vi q6.1)) (h1 := q6.2) (ci := 4) (nn := 0) (o := 8) 22 2 tk_LR_readAtom rfl (bb_LR_readSum _) (vv_LR_readSum _) lk_4_43 (Nat.le_refl _) rfl rfl (Or.inl rfl) (Nat.le_of_ble_eq_true rfl) (hrc0 (a2 + (ii 1)) (wI q1.2 1 2 ((q1.2.1 1 2) + (ii 1))) _ hq10) ?_
      show Ev Γ (m_LR_readAtom (d + 1)) 37 [some (vr 4 0 8), some (vr 1 0 1), some (vi a2), some (vi q1.1), none, none] [vi q6.1] q6.2 r h'
      refine Ev.if_eq 23 49 tk_LR_readAtom rfl (by decide) (fun hc11 => ?_) (fun hc11 => ?_)
      · replace hx := ip hc11 hx
        refine Ev.blk (pc' := 50) (lv' := [some (vr 4 0 8), some (vr 1 0 1), some (vi a2), some (vi q1.1), none, none]) (st' := [vi (ii 0)]) (h' := q6.2) 28 1 (Nat.le_of_ble_eq_true rfl) tk_LR_readAtom rfl rfl ⟨trivial, trivial⟩ ?_
        obtain rfl := Option.some.inj hx
        obtain ⟨rfl, rfl⟩ := hP
        exact Ev.zret 29 tk_LR_readAtom rfl rfl rfl
      · replace hx := ia hc11 hx
        refine Ev.blk (pc' := 41) (lv' := [some (vr 4 0 8), some (vr 1 0 1), some (vi a2), some (vi q1.1), none, none]) (st' := [vr 1 0 1]) (h' := q6.2) 24 1 (Nat.le_of_ble_eq_true rfl) tk_LR_readAtom rfl rfl ⟨trivial, trivial⟩ ?_
        obtain ⟨q7, hq12, hx⟩ := bd hx
        refine Ev.callV (ν := m_Tape_peek) (av := []) (rest := []) (r1 := some (vi q7.1)) (h1 := q7.2) (ci := 1) (nn := 0) (o := 1) 25 0 tk_LR_readAtom rfl bb_Tape_peek vv_Tape_peek lk_4_35 (by show _ ≤ 6 + (d + 1); simp only [mv, m_Tape_peek]; omega) rfl rfl (Or.inl rfl) (Nat.le_of_ble_eq_true rfl) (s_Tape_peek Γ q6.2 _ hq12) ?_
        show Ev Γ (m_LR_readAtom (d + 1)) 44 [some (vr 4 0 8), some (vr 1 0 1), some (vi a2), some (vi q1.1), none, none] [vi q7.1] q7.2 r h'
        refine Ev.blk (pc' := 46) (lv' := [some (vr 4 0 8), some (vr 1 0 1), some (vi a2), some (vi q1.1), none, none]) (st' := [vi (ii 93), vi q7.1]) (h' := q7.2) 26 1 (Nat.le_of_ble_eq_true rfl) tk_LR_readAtom rfl rfl ⟨trivial, trivial⟩ ?_
        refine Ev.icmp_eq 27 51 tk_LR_readAtom rfl (by decide) (fun hc13 => ?_) (fun hc13 => ?_)
        · replace hx := ip hc13 hx
          refine Ev.blk (pc' := 62) (lv' := [some (vr 4 0 8), some (vr 1 0 1), some (vi a2), some (vi q1.1), none, none]) (st' := [vi (ii 1)]) (h' := (wI q7.2 1 2 ((q7.2.1 1 2) + (ii 1)))) 30 7 (Nat.le_of_ble_eq_true rfl) tk_LR_readAtom rfl rfl ⟨trivial, trivial, trivial, trivial, trivial, trivial, trivial, trivial⟩ ?_
          obtain rfl := Option.some.inj hx
          obtain ⟨rfl, rfl⟩ := hP
          exact Ev.zret 37 tk_LR_readAtom rfl rfl rfl
        · replace hx := ia hc13 hx
          refine Ev.blk (pc' := 50) (lv' := [some (vr 4 0 8), some (vr 1 0 1), some (vi a2), some (vi q1.1), none, none]) (st' := [vi (ii 0)]) (h' := q7.2) 28 1 (Nat.le_of_ble_eq_true rfl) tk_LR_readAtom rfl rfl ⟨trivial, trivial⟩ ?_
          obtain rfl := Option.some.inj hx
          obtain ⟨rfl, rfl⟩ := hP
          exact Ev.zret 29 tk_LR_readAtom rfl rfl rfl
    · replace hx := ia hc9 hx
      refine Ev.blk (pc' := 18) (lv' := [some (vr 4 0 8), some (vr 1 0 1), some (vi a2), some (vi q1.1), none, none]) (st' := [vi (ii 0)]) (h' := q1.2) 9 1 (Nat.le_of_ble_eq_true rfl) tk_LR_readAtom rfl rfl ⟨trivial, trivial⟩ ?_
      obtain rfl := Option.some.inj hx
      obtain ⟨rfl, rfl⟩ := hP
      exact Ev.zret 10 tk_LR_readAtom rfl rfl rfl
theorem s_LR_reckoning (Γ : AG) (a0 : Int32) (h : AH) : MetA Γ m_LR_reckoning [vi a0] h (some (vi (p_LR_reckoning a0))) h := by
  refine Ev.met rfl rfl (Nat.le_of_ble_eq_true rfl) ?_
  generalize hx : p_LR_reckoning a0 = x
  show Ev Γ m_LR_reckoning 0 [some (vi a0)] [] h _ _
  obtain ⟨r, hr⟩ : ∃ r : Option AV, r = some (vi x) := ⟨_, rfl⟩
  obtain ⟨h', hh⟩ : ∃ h' : AH, h' = h := ⟨_, rfl⟩
  have hP : r = some (vi x) ∧ h' = h := ⟨hr, hh⟩
  suffices hS : Ev Γ m_LR_reckoning 0 [some (vi a0)] [] h r h' by rw [hr, hh] at hS; exact hS
  clear hr hh
  unfold p_LR_reckoning at hx
  refine Ev.blk (pc' := 1) (lv' := [some (vi a0)]) (st' := [vi a0]) (h' := h) 0 1 (Nat.le_of_ble_eq_true rfl) tk_LR_reckoning rfl rfl ⟨trivial, trivial⟩ ?_
  by_cases hc1 : a0 = ii 42
  · replace hx := ip hc1 hx
    refine Ev.tabIn (off := 45) 1 46 42 tk_LR_reckoning rfl hc1 (by decide) (by decide) ?_
    refine Ev.blk (pc' := 48) (lv' := [some (vi a0)]) (st' := [vi (ii (-9))]) (h' := h) 6 1 (Nat.le_of_ble_eq_true rfl) tk_LR_reckoning rfl rfl ⟨trivial, trivial⟩ ?_
    subst hx
    obtain ⟨rfl, rfl⟩ := hP
    exact Ev.iret 7 tk_LR_reckoning rfl rfl
  replace hx := ia hc1 hx
  by_cases hc2 : a0 = ii 43
  · replace hx := ip hc2 hx
    refine Ev.tabIn (off := 39) 1 40 43 tk_LR_reckoning rfl hc2 (by decide) (by decide) ?_
    refine Ev.blk (pc' := 42) (lv' := [some (vi a0)]) (st' := [vi (ii (-7))]) (h' := h) 2 1 (Nat.le_of_ble_eq_true rfl) tk_LR_reckoning rfl rfl ⟨trivial, trivial⟩ ?_
    subst hx
    obtain ⟨rfl, rfl⟩ := hP
    exact Ev.iret 3 tk_LR_reckoning rfl rfl
  replace hx := ia hc2 hx
  by_cases hc3 : a0 = ii 44
  · replace hx := ip hc3 hx
    refine Ev.tabIn (off := 51) 1 52 44 tk_LR_reckoning rfl hc3 (by decide) (by decide) ?_
    refine Ev.blk (pc' := 53) (lv' := [some (vi a0)]) (st' := [vi (ii (-1))]) (h' := h) 10 1 (Nat.le_of_ble_eq_true rfl) tk_LR_reckoning rfl rfl ⟨trivial, trivial⟩ ?_
    subst hx
    obtain ⟨rfl, rfl⟩ := hP
    exact Ev.iret 11 tk_LR_reckoning rfl rfl
  replace hx := ia hc3 hx
  by_cases hc4 : a0 = ii 45
  · replace hx := ip hc4 hx
    refine Ev.tabIn (off := 42) 1 43 45 tk_LR_reckoning rfl hc4 (by decide) (by decide) ?_
    refine Ev.blk (pc' := 45) (lv' := [some (vi a0)]) (st' := [vi (ii (-8))]) (h' := h) 4 1 (Nat.le_of_ble_eq_true rfl) tk_LR_reckoning rfl rfl ⟨trivial, trivial⟩ ?_
    subst hx
    obtain ⟨rfl, rfl⟩ := hP
    exact Ev.iret 5 tk_LR_reckoning rfl rfl
  replace hx := ia hc4 hx
  by_cases hc5 : a0 = ii 46
  · replace hx := ip hc5 hx
    refine Ev.tabIn (off := 51) 1 52 46 tk_LR_reckoning rfl hc5 (by decide) (by decide) ?_
    refine Ev.blk (pc' := 53) (lv' := [some (vi a0)]) (st' := [vi (ii (-1))]) (h' := h) 10 1 (Nat.le_of_ble_eq_true rfl) tk_LR_reckoning rfl rfl ⟨trivial, trivial⟩ ?_
    subst hx
    obtain ⟨rfl, rfl⟩ := hP
    exact Ev.iret 11 tk_LR_reckoning rfl rfl
  replace hx := ia hc5 hx
  by_cases hc6 : a0 = ii 47
  · replace hx := ip hc6 hx
    refine Ev.tabIn (off := 48) 1 49 47 tk_LR_reckoning rfl hc6 (by decide) (by decide) ?_
    refine Ev.blk (pc' := 51) (lv' := [some (vi a0)]) (st' := [vi (ii (-10))]) (h' := h) 8 1 (Nat.le_of_ble_eq_true rfl) tk_LR_reckoning rfl rfl ⟨trivial, trivial⟩ ?_
    subst hx
    obtain ⟨rfl, rfl⟩ := hP
    exact Ev.iret 9 tk_LR_reckoning rfl rfl
  replace hx := ia hc6 hx
  refine Ev.tabOut 1 52 6 tk_LR_reckoning rfl (by decide) (fun k hk => ?_) (by decide) ?_
  · rcases (show k = 0 ∨ k = 1 ∨ k = 2 ∨ k = 3 ∨ k = 4 ∨ k = 5 by omega) with rfl | rfl | rfl | rfl | rfl | rfl
    · exact hc1
    · exact hc2
    · exact hc3
    · exact hc4
    · exact hc5
    · exact hc6
  · refine Ev.blk (pc' := 53) (lv' := [some (vi a0)]) (st' := [vi (ii (-1))]) (h' := h) 10 1 (Nat.le_of_ble_eq_true rfl) tk_LR_reckoning rfl rfl ⟨trivial, trivial⟩ ?_
    subst hx
    obtain ⟨rfl, rfl⟩ := hP
    exact Ev.iret 11 tk_LR_reckoning rfl rfl
set_option maxRecDepth 4000 in
theorem l_LR_readSum_L16 (Γ : AG) (d : Nat) (rc : Nat → Int32 → AH → Option (Int32 × AH)) (hrc0 : ∀ (b0 : Int32) (h : AH) (x : Int32 × AH), rc 0 b0 h = some x → MetA Γ (m_LR_readSum d) [vr 4 0 8, vr 1 0 1, vi b0] h (some (vi x.1)) x.2) (hrc1 : ∀ (b0 : Int32) (h : AH) (x : Int32 × AH), rc 1 b0 h = some x → MetA Γ (m_LR_readAtom d) [vr 4 0 8, vr 1 0 1, vi b0] h (some (vi x.1)) x.2) : ∀ (n : Nat) (v2 : Int32) (v3 : Int32) (v4 : Int32) (h : AH) (x : Int32 × AH), LR_readSum_L16 rc n v2 v3 v4 h = some x → ∀ (r : Option AV) (h' : AH), r = some (vi x.1) ∧ h' = x.2 → Ev Γ (m_LR_readSum (d + 1)) 16 [some (vr 4 0 8), some (vr 1 0 1), some (vi v2), some (vi v3), some (vi v4), none, none] [] h r h' := by
  intro n
  induction n with
  | zero => intro v2 v3 v4 h x hx; cases hx
  | succ n ih =>
    intro v2 v3 v4 h x hx r h' hP
    replace hx : LR_readSum_L16_b rc (LR_readSum_L16 rc n) v2 v3 v4 h = some x := hx
    unfold LR_readSum_L16_b at hx
    refine Ev.blk (pc' := 21) (lv' := [some (vr 4 0 8), some (vr 1 0 1), some (vi v2), some (vi v3), some (vi v4), none, none]) (st' := [vi (ii 240), vi v4]) (h' := h) 11 2 (Nat.le_of_ble_eq_true rfl) tk_LR_readSum rfl rfl ⟨trivial, trivial, trivial⟩ ?_
    refine Ev.icmp_gt 13 127 tk_LR_readSum rfl (by decide) (fun hc1 => ?_) (fun hc1 => ?_)
    · replace hx := ip hc1 hx
      refine Ev.blk (pc' := 128) (lv' := [some (vr 4 0 8), some (vr 1 0 1), some (vi v2), some (vi v3), some (vi v4), none, none]) (st' := [vi (ii 0)]) (h' := h) 66 1 (Nat.le_of_ble_eq_true rfl) tk_LR_readSum rfl rfl ⟨trivial, trivial⟩ ?_
      obtain rfl := Option.some.inj hx
      obtain ⟨rfl, rfl⟩ := hP
      exact Ev.zret 67 tk_LR_readSum rfl rfl rfl
    · replace hx := ia hc1 hx
      refine Ev.blk (pc' := 25) (lv' := [some (vr 4 0 8), some (vr 1 0 1), some (vi v2), some (vi v3), some (vi v4), none, none]) (st' := [vr 1 0 1]) (h' := h) 14 1 (Nat.le_of_ble_eq_true rfl) tk_LR_readSum rfl rfl ⟨trivial, trivial⟩ ?_
      obtain ⟨q1, hq2, hx⟩ := bd hx
      refine Ev.callV (ν := m_Tape_peek) (av := []) (rest := []) (r1 := some (vi q1.1)) (h1 := q1.2) (ci := 1) (nn := 0) (o := 1) 15 0 tk_LR_readSum rfl bb_Tape_peek vv_Tape_peek lk_4_35 (by show _ ≤ 6 + (d + 1); simp only [mv, m_Tape_peek]; omega) rfl rfl (Or.inl rfl) (Nat.le_of_ble_eq_true rfl) (s_Tape_peek Γ h _ hq2) ?_
      show Ev Γ (m_LR_readSum (d + 1)) 28 [some (vr 4 0 8), some (vr 1 0 1), some (vi v2), some (vi v3), some (vi v4), none, none] [vi q1.1] q1.2 r h'
      refine Ev.callS (ν := m_LR_reckoning) (av := [vi q1.1]) (rest := []) (r1 := some (vi (p_LR_reckoning q1.1))) (h1 := q1.2) 16 1 tk_LR_readSum rfl bb_LR_reckoning vv_LR_reckoning lk_4_65 (by show _ ≤ 6 + (d + 1); simp only [mv, m_LR_reckoning]; omega) rfl rfl (Nat.le_of_ble_eq_true rfl) (s_LR_reckoning Γ q1.1 q1.2) ?_
      show Ev Γ (m_LR_readSum (d + 1)) 31 [some (vr 4 0 8), some (vr 1 0 1), some (vi v2), some (vi v3), some (vi v4), none, none] [vi (p_LR_reckoning q1.1)] q1.2 r h'
      refine Ev.blk (pc' := 37) (lv' := [some (vr 4 0 8), some (vr 1 0 1), some (vi v2), some (vi v3), some (vi v4), some (vi (p_LR_reckoning q1.1)), none]) (st' := [vi (ii (-9)), vi (p_LR_reckoning q1.1)]) (h' := q1.2) 17 3 (Nat.le_of_ble_eq_true rfl) tk_LR_readSum rfl rfl ⟨trivial, trivial, trivial, trivial⟩ ?_
      have K3 : ∀ v3_0 : Int32, v3_0 = (if (p_LR_reckoning q1.1) = (ii (-9)) then (ii 1) else (if (p_LR_reckoning q1.1) = (ii (-10)) then (ii 1) else (ii 0))) → Ev Γ (m_LR_readSum (d + 1)) 52 [some (vr 4 0 8), some (vr 1 0 1), some (vi v2), some (vi v3), some (vi v4), some (vi (p_LR_reckoning q1.1)), none] [vi v3_0] q1.2 r h' := by
        intro v3_0 e4
        subst e4
        refine Ev.blk (pc' := 56) (lv' := [some (vr 4 0 8), some (vr 1 0 1), some (vi v2), some (vi v3), some (vi v4), some (vi (p_LR_reckoning q1.1)), some (vi (if (p_LR_reckoning q1.1) = (ii (-9)) then (ii 1) else (if (p_LR_reckoning q1.1) = (ii (-10)) then (ii 1) else (ii 0))))]) (st' := [vi (ii (-1)), vi v3]) (h' := q1.2) 27 3 (Nat.le_of_ble_eq_true rfl) tk_LR_readSum rfl rfl ⟨trivial, trivial, trivial, trivial⟩ ?_
        obtain ⟨q3, hq5, hx⟩ := bd hx
        have K6 : Ev Γ (m_LR_readSum (d + 1)) 72 [some (vr 4 0 8), some (vr 1 0 1), some (vi v2), some (vi v3), some (vi v4), some (vi (p_LR_reckoning q1.1)), some (vi (if (p_LR_reckoning q1.1) = (ii (-9)) then (ii 1) else (if (p_LR_reckoning q1.1) = (ii (-10)) then (ii 1) else (ii 0))))] [] q3 r h' := by
          refine Ev.blk (pc' := 75) (lv' := [some (vr 4 0 8), some (vr 1 0 1), some (vi v2), some (vi v3), some (vi v4), some (vi (p_LR_reckoning q1.1)), some (vi (if (p_LR_reckoning q1.1) = (ii (-9)) then (ii 1) else (if (p_LR_reckoning q1.1) = (ii (-10)) then (ii 1) else (ii 0))))]) (st' := [vi (ii (-1)), vi (p_LR_reckoning q1.1)]) (h' := q3) 37 2 (Nat.le_of_ble_eq_true rfl) tk_LR_readSum rfl rfl ⟨trivial, trivial, trivial⟩ ?_
          refine Ev.icmp_ne 39 80 tk_LR_readSum rfl (by decide) (fun hc7 => ?_) (fun hc7 => ?_)
          · replace hx := ia hc7 hx
            refine Ev.blk (pc' := 93) (lv' := [some (vr 4 0 8), some (vr 1 0 1), some (vi v2), some (vi v3), some (vi v4), some (vi (p_LR_reckoning q1.1)), some (vi (if (p_LR_reckoning q1.1) = (ii (-9)) then (ii 1) else (if (p_LR_reckoning q1.1) = (ii (-10)) then (ii 1) else (ii 0))))]) (st' := [vi v2, vr 1 0 1, vr 4 0 8]) (h' := (wI q3 1 2 ((q3.1 1 2) + (ii 1)))) 42 9 (Nat.le_of_ble_eq_true rfl) tk_LR_readSum rfl rfl ⟨trivial, trivial, trivial, trivial, trivial, trivial, trivial, trivial, trivial, trivial⟩ ?_
            obtain ⟨q4, hq8, hx⟩ := bd hx
            refine Ev.callV (ν := (m_LR_readAtom d)) (av := [vr 1 0 1, vi v2]) (rest := []) (r1 := some (vi q4.1)) (h1 := q4.2) (ci := 4) (nn := 0) (o := 8) 51 2 tk_LR_readSum rfl (bb_LR_readAtom _) (vv_LR_readAtom _) lk_4_62 (Nat.le_refl _) rfl rfl (Or.inl rfl) (Nat.le_of_ble_eq_true rfl) (hrc1 v2 (wI q3 1 2 ((q3.1 1 2) + (ii 1))) _ hq8) ?_
            show Ev Γ (m_LR_readSum (d + 1)) 96 [some (vr 4 0 8), some (vr 1 0 1), some (vi v2), some (vi v3), some (vi v4), some (vi (p_LR_reckoning q1.1)), some (vi (if (p_LR_reckoning q1.1) = (ii (-9)) then (ii 1) else (if (p_LR_reckoning q1.1) = (ii (-10)) then (ii 1) else (ii 0))))] [vi q4.1] q4.2 r h'
            refine Ev.if_ne 52 101 tk_LR_readSum rfl (by decide) (fun hc9 => ?_) (fun hc9 => ?_)
            · replace hx := ia hc9 hx
              refine Ev.blk (pc' := 103) (lv' := [some (vr 4 0 8), some (vr 1 0 1), some (vi v2), some (vi v3), some (vi v4), some (vi (p_LR_reckoning q1.1)), some (vi (if (p_LR_reckoning q1.1) = (ii (-9)) then (ii 1) else (if (p_LR_reckoning q1.1) = (ii (-10)) then (ii 1) else (ii 0))))]) (st' := [vi (if (p_LR_reckoning q1.1) = (ii (-9)) then (ii 1) else (if (p_LR_reckoning q1.1) = (ii (-10)) then (ii 1) else (ii 0)))]) (h' := q4.2) 55 1 (Nat.le_of_ble_eq_true rfl) tk_LR_readSum rfl rfl ⟨trivial, trivial⟩ ?_
              obtain ⟨q6, hq10, hx⟩ := bd hx
              have K11 : Ev Γ (m_LR_readSum (d + 1)) 121 [some (vr 4 0 8), some (vr 1 0 1), some (vi v2), some (vi q6.1), some (vi v4), none, none] [] q6.2 r h' := by
                refine Ev.blk (pc' := 16) (lv' := [some (vr 4 0 8), some (vr 1 0 1), some (vi v2), some (vi q6.1), some (vi (v4 + ii 1)), none, none]) (st' := []) (h' := q6.2) 64 2 (Nat.le_of_ble_eq_true rfl) tk_LR_readSum rfl rfl ⟨trivial, trivial, trivial⟩ ?_
                exact Ev.msk [true, true, true, true, true, false, false] (ih v2 q6.1 (v4 + ii 1) q6.2 _ hx r h' hP)
              clear hx
              refine Ev.if_eq 56 118 tk_LR_readSum rfl (by decide) (fun hc12 => ?_) (fun hc12 => ?_)
              · replace hq10 := ip hc12 hq10
                refine Ev.blk (pc' := 121) (lv' := [some (vr 4 0 8), some (vr 1 0 1), some (vi v2), some (vi (p_LR_reckoning q1.1)), some (vi v4), some (vi (p_LR_reckoning q1.1)), some (vi (if (p_LR_reckoning q1.1) = (ii (-9)) then (ii 1) else (if (p_LR_reckoning q1.1) = (ii (-10)) then (ii 1) else (ii 0))))]) (st' := []) (h' := q4.2) 62 2 (Nat.le_of_ble_eq_true rfl) tk_LR_readSum rfl rfl ⟨trivial, trivial, trivial⟩ ?_
                obtain rfl := Option.some.inj hq10
                exact Ev.msk [true, true, true, true, true, false, false] K11
              · replace hq10 := ia hc12 hq10
                refine Ev.blk (pc' := 112) (lv' := [some (vr 4 0 8), some (vr 1 0 1), some (vi v2), some (vi v3), some (vi v4), some (vi (p_LR_reckoning q1.1)), some (vi (if (p_LR_reckoning q1.1) = (ii (-9)) then (ii 1) else (if (p_LR_reckoning q1.1) = (ii (-10)) then (ii 1) else (ii 0))))]) (st' := [vi (p_LR_reckoning q1.1), vr 5 0 (q4.2.2.2 8 0)]) (h' := q4.2) 57 3 (Nat.le_of_ble_eq_true rfl) tk_LR_readSum rfl rfl ⟨trivial, trivial, trivial, trivial⟩ ?_
                obtain ⟨q5, hq13, hq10⟩ := bd hq10
                refine Ev.callV (ν := m_Law_emit) (av := [vi (p_LR_reckoning q1.1)]) (rest := []) (r1 := none) (h1 := q5) (ci := 5) (nn := 0) (o := (q4.2.2.2 8 0)) 60 1 tk_LR_readSum rfl bb_Law_emit vv_Law_emit lk_4_31 (by show _ ≤ 6 + (d + 1); simp only [mv, m_Law_emit]; omega) rfl rfl (Or.inl rfl) (Nat.le_of_ble_eq_true rfl) (s_Law_emit Γ (q4.2.2.2 8 0) (p_LR_reckoning q1.1) q4.2 _ hq13) ?_
                show Ev Γ (m_LR_readSum (d + 1)) 115 [some (vr 4 0 8), some (vr 1 0 1), some (vi v2), some (vi v3), some (vi v4), some (vi (p_LR_reckoning q1.1)), some (vi (if (p_LR_reckoning q1.1) = (ii (-9)) then (ii 1) else (if (p_LR_reckoning q1.1) = (ii (-10)) then (ii 1) else (ii 0))))] [] q5 r h'
                refine Ev.blk (pc' := 121) (lv' := [some (vr 4 0 8), some (vr 1 0 1), some (vi v2), some (vi v3), some (vi v4), some (vi (p_LR_reckoning q1.1)), some (vi (if (p_LR_reckoning q1.1) = (ii (-9)) then (ii 1) else (if (p_LR_reckoning q1.1) = (ii (-10)) then (ii 1) else (ii 0))))]) (st' := []) (h' := q5) 61 1 (Nat.le_of_ble_eq_true rfl) tk_LR_readSum rfl rfl ⟨trivial, trivial⟩ ?_
                obtain rfl := Option.some.inj hq10
                exact Ev.msk [true, true, true, true, true, false, false] K11
            · replace hx := ip hc9 hx
              refine Ev.blk (pc' := 100) (lv' := [some (vr 4 0 8), some (vr 1 0 1), some (vi v2), some (vi v3), some (vi v4), some (vi (p_LR_reckoning q1.1)), some (vi (if (p_LR_reckoning q1.1) = (ii (-9)) then (ii 1) else (if (p_LR_reckoning q1.1) = (ii (-10)) then (ii 1) else (ii 0))))]) (st' := [vi (ii 0)]) (h' := q4.2) 53 1 (Nat.le_of_ble_eq_true rfl) tk_LR_readSum rfl rfl ⟨trivial, trivial⟩ ?_
              obtain rfl := Option.some.inj hx
              obtain ⟨rfl, rfl⟩ := hP
              exact Ev.zret 54 tk_LR_readSum rfl rfl rfl
          · replace hx := ip hc7 hx
            refine Ev.blk (pc' := 79) (lv' := [some (vr 4 0 8), some (vr 1 0 1), some (vi v2), some (vi v3), some (vi v4), some (vi (p_LR_reckoning q1.1)), some (vi (if (p_LR_reckoning q1.1) = (ii (-9)) then (ii 1) else (if (p_LR_reckoning q1.1) = (ii (-10)) then (ii 1) else (ii 0))))]) (st' := [vi (ii 1)]) (h' := q3) 40 1 (Nat.le_of_ble_eq_true rfl) tk_LR_readSum rfl rfl ⟨trivial, trivial⟩ ?_
            obtain rfl := Option.some.inj hx
            obtain ⟨rfl, rfl⟩ := hP
            exact Ev.zret 41 tk_LR_readSum rfl rfl rfl
        clear hx
        refine Ev.icmp_eq 30 72 tk_LR_readSum rfl (by decide) (fun hc14 => ?_) (fun hc14 => ?_)
        · replace hq5 := ip hc14 hq5
          obtain rfl := Option.some.inj hq5
          exact Ev.msk [true, true, true, true, true, true, true] K6
        · replace hq5 := ia hc14 hq5
          refine Ev.blk (pc' := 61) (lv' := [some (vr 4 0 8), some (vr 1 0 1), some (vi v2), some (vi v3), some (vi v4), some (vi (p_LR_reckoning q1.1)), some (vi (if (p_LR_reckoning q1.1) = (ii (-9)) then (ii 1) else (if (p_LR_reckoning q1.1) = (ii (-10)) then (ii 1) else (ii 0))))]) (st' := [vi (if (p_LR_reckoning q1.1) = (ii (-9)) then (ii 1) else (if (p_LR_reckoning q1.1) = (ii (-10)) then (ii 1) else (ii 0)))]) (h' := q1.2) 31 1 (Nat.le_of_ble_eq_true rfl) tk_LR_readSum rfl rfl ⟨trivial, trivial⟩ ?_
          refine Ev.if_ne 32 72 tk_LR_readSum rfl (by decide) (fun hc15 => ?_) (fun hc15 => ?_)
          · replace hq5 := ia hc15 hq5
            obtain rfl := Option.some.inj hq5
            exact Ev.msk [true, true, true, true, true, true, true] K6
          · replace hq5 := ip hc15 hq5
            refine Ev.blk (pc' := 69) (lv' := [some (vr 4 0 8), some (vr 1 0 1), some (vi v2), some (vi v3), some (vi v4), some (vi (p_LR_reckoning q1.1)), some (vi (if (p_LR_reckoning q1.1) = (ii (-9)) then (ii 1) else (if (p_LR_reckoning q1.1) = (ii (-10)) then (ii 1) else (ii 0))))]) (st' := [vi v3, vr 5 0 (q1.2.2.2 8 0)]) (h' := q1.2) 33 3 (Nat.le_of_ble_eq_true rfl) tk_LR_readSum rfl rfl ⟨trivial, trivial, trivial, trivial⟩ ?_
            obtain ⟨q2, hq16, hq5⟩ := bd hq5
            refine Ev.callV (ν := m_Law_emit) (av := [vi v3]) (rest := []) (r1 := none) (h1 := q2) (ci := 5) (nn := 0) (o := (q1.2.2.2 8 0)) 36 1 tk_LR_readSum rfl bb_Law_emit vv_Law_emit lk_4_31 (by show _ ≤ 6 + (d + 1); simp only [mv, m_Law_emit]; omega) rfl rfl (Or.inl rfl) (Nat.le_of_ble_eq_true rfl) (s_Law_emit Γ (q1.2.2.2 8 0) v3 q1.2 _ hq16) ?_
            show Ev Γ (m_LR_readSum (d + 1)) 72 [some (vr 4 0 8), some (vr 1 0 1), some (vi v2), some (vi v3), some (vi v4), some (vi (p_LR_reckoning q1.1)), some (vi (if (p_LR_reckoning q1.1) = (ii (-9)) then (ii 1) else (if (p_LR_reckoning q1.1) = (ii (-10)) then (ii 1) else (ii 0))))] [] q2 r h'
            obtain rfl := Option.some.inj hq5
            exact Ev.msk [true, true, true, true, true, true, true] K6
      refine Ev.icmp_eq 20 47 tk_LR_readSum rfl (by decide) (fun hc17 => ?_) (fun hc17 => ?_)
      · refine Ev.blk (pc' := 52) (lv' := [some (vr 4 0 8), some (vr 1 0 1), some (vi v2), some (vi v3), some (vi v4), some (vi (p_LR_reckoning q1.1)), none]) (st' := [vi (ii 1)]) (h' := q1.2) 24 2 (Nat.le_of_ble_eq_true rfl) tk_LR_readSum rfl rfl ⟨trivial, trivial, trivial⟩ ?_
        exact Ev.msk [true, true, true, true, true, true, false] (K3 _ (by first | rfl | simp only [if_pos hc17]))
      · refine Ev.blk (pc' := 44) (lv' := [some (vr 4 0 8), some (vr 1 0 1), some (vi v2), some (vi v3), some (vi v4), some (vi (p_LR_reckoning q1.1)), none]) (st' := [vi (ii (-10)), vi (p_LR_reckoning q1.1)]) (h' := q1.2) 21 2 (Nat.le_of_ble_eq_true rfl) tk_LR_readSum rfl rfl ⟨trivial, trivial, trivial⟩ ?_
        refine Ev.icmp_ne 23 51 tk_LR_readSum rfl (by decide) (fun hc18 => ?_) (fun hc18 => ?_)
        · refine Ev.blk (pc' := 52) (lv' := [some (vr 4 0 8), some (vr 1 0 1), some (vi v2), some (vi v3), some (vi v4), some (vi (p_LR_reckoning q1.1)), none]) (st' := [vi (ii 0)]) (h' := q1.2) 26 1 (Nat.le_of_ble_eq_true rfl) tk_LR_readSum rfl rfl ⟨trivial, trivial⟩ ?_
          exact Ev.msk [true, true, true, true, true, true, false] (K3 _ (by first | rfl | simp only [if_neg hc17, if_neg hc18]))
        · refine Ev.blk (pc' := 52) (lv' := [some (vr 4 0 8), some (vr 1 0 1), some (vi v2), some (vi v3), some (vi v4), some (vi (p_LR_reckoning q1.1)), none]) (st' := [vi (ii 1)]) (h' := q1.2) 24 2 (Nat.le_of_ble_eq_true rfl) tk_LR_readSum rfl rfl ⟨trivial, trivial, trivial⟩ ?_
          exact Ev.msk [true, true, true, true, true, true, false] (K3 _ (by first | rfl | simp only [if_neg hc17, if_pos hc18]))
set_option maxRecDepth 4000 in
theorem u_LR_readSum_ok (Γ : AG) (d : Nat) (rc : Nat → Int32 → AH → Option (Int32 × AH)) (hrc0 : ∀ (b0 : Int32) (h : AH) (x : Int32 × AH), rc 0 b0 h = some x → MetA Γ (m_LR_readSum d) [vr 4 0 8, vr 1 0 1, vi b0] h (some (vi x.1)) x.2) (hrc1 : ∀ (b0 : Int32) (h : AH) (x : Int32 × AH), rc 1 b0 h = some x → MetA Γ (m_LR_readAtom d) [vr 4 0 8, vr 1 0 1, vi b0] h (some (vi x.1)) x.2) (a2 : Int32) (h : AH) (x : Int32 × AH) (hx : u_LR_readSum rc a2 h = some x) : MetA Γ (m_LR_readSum (d + 1)) [vr 4 0 8, vr 1 0 1, vi a2] h (some (vi x.1)) x.2 := by
  refine Ev.met rfl rfl (Nat.le_of_ble_eq_true rfl) ?_
  show Ev Γ (m_LR_readSum (d + 1)) 0 [some (vr 4 0 8), some (vr 1 0 1), some (vi a2), none, none, none, none] [] h _ _
  obtain ⟨r, hr⟩ : ∃ r : Option AV, r = some (vi x.1) := ⟨_, rfl⟩
  obtain ⟨h', hh⟩ : ∃ h' : AH, h' = x.2 := ⟨_, rfl⟩
  have hP : r = some (vi x.1) ∧ h' = x.2 := ⟨hr, hh⟩
  suffices hS : Ev Γ (m_LR_readSum (d + 1)) 0 [some (vr 4 0 8), some (vr 1 0 1), some (vi a2), none, none, none, none] [] h r h' by rw [hr, hh] at hS; exact hS
  clear hr hh
  unfold u_LR_readSum at hx
  refine Ev.blk (pc' := 3) (lv' := [some (vr 4 0 8), some (vr 1 0 1), some (vi a2), none, none, none, none]) (st' := [vi a2, vr 1 0 1, vr 4 0 8]) (h' := h) 0 3 (Nat.le_of_ble_eq_true rfl) tk_LR_readSum rfl rfl ⟨trivial, trivial, trivial, trivial⟩ ?_
  obtain ⟨q1, hq1, hx⟩ := bd hx
  refine Ev.callV (ν := (m_LR_readAtom d)) (av := [vr 1 0 1, vi a2]) (rest := []) (r1 := some (vi q1.1)) (h1 := q1.2) (ci := 4) (nn := 0) (o := 8) 3 2 tk_LR_readSum rfl (bb_LR_readAtom _) (vv_LR_readAtom _) lk_4_62 (Nat.le_refl _) rfl rfl (Or.inl rfl) (Nat.le_of_ble_eq_true rfl) (hrc1 a2 h _ hq1) ?_
  show Ev Γ (m_LR_readSum (d + 1)) 6 [some (vr 4 0 8), some (vr 1 0 1), some (vi a2), none, none, none, none] [vi q1.1] q1.2 r h'
  refine Ev.if_ne 4 11 tk_LR_readSum rfl (by decide) (fun hc2 => ?_) (fun hc2 => ?_)
  · replace hx := ia hc2 hx
    refine Ev.blk (pc' := 16) (lv' := [some (vr 4 0 8), some (vr 1 0 1), some (vi a2), some (vi (ii (-1))), some (vi (ii 0)), none, none]) (st' := []) (h' := q1.2) 7 4 (Nat.le_of_ble_eq_true rfl) tk_LR_readSum rfl rfl ⟨trivial, trivial, trivial, trivial, trivial⟩ ?_
    refine Ev.msk [true, true, true, true, true, false, false] ?_
    show Ev Γ (m_LR_readSum (d + 1)) 16 [some (vr 4 0 8), some (vr 1 0 1), some (vi a2), some (vi (ii (-1))), some (vi (ii 0)), none, none] [] q1.2 r h'
    exact l_LR_readSum_L16 Γ d rc hrc0 hrc1 FU a2 (ii (-1)) (ii 0) q1.2 _ hx r h' hP
  · replace hx := ip hc2 hx
    refine Ev.blk (pc' := 10) (lv' := [some (vr 4 0 8), some (vr 1 0 1), some (vi a2), none, none, none, none]) (st' := [vi (ii 0)]) (h' := q1.2) 5 1 (Nat.le_of_ble_eq_true rfl) tk_LR_readSum rfl rfl ⟨trivial, trivial⟩ ?_
    obtain rfl := Option.some.inj hx
    obtain ⟨rfl, rfl⟩ := hP
    exact Ev.zret 6 tk_LR_readSum rfl rfl rfl
theorem gg0 (Γ : AG) : ∀ d : Nat, (∀ (b0 : Int32) (h : AH) (x : Int32 × AH), g0 d 0 b0 h = some x → MetA Γ (m_LR_readSum d) [vr 4 0 8, vr 1 0 1, vi b0] h (some (vi x.1)) x.2) ∧ (∀ (b0 : Int32) (h : AH) (x : Int32 × AH), g0 d 1 b0 h = some x → MetA Γ (m_LR_readAtom d) [vr 4 0 8, vr 1 0 1, vi b0] h (some (vi x.1)) x.2) := by
  intro d
  induction d with
  | zero => exact ⟨fun b0 h x hx => (by cases hx), fun b0 h x hx => (by cases hx)⟩
  | succ d ih =>
    obtain ⟨i0, i1⟩ := ih
    exact ⟨fun b0 h x hx => u_LR_readSum_ok Γ d (g0 d) i0 i1 b0 h x hx, fun b0 h x hx => u_LR_readAtom_ok Γ d (g0 d) i0 i1 b0 h x hx⟩
theorem t_LR_readSum (Γ : AG) (d : Nat) (b0 : Int32) (h : AH) (x : Int32 × AH) (hx : g0 d 0 b0 h = some x) : MetA Γ (m_LR_readSum d) [vr 4 0 8, vr 1 0 1, vi b0] h (some (vi x.1)) x.2 := (gg0 Γ d).1 b0 h x hx
theorem t_LR_readAtom (Γ : AG) (d : Nat) (b0 : Int32) (h : AH) (x : Int32 × AH) (hx : g0 d 1 b0 h = some x) : MetA Γ (m_LR_readAtom d) [vr 4 0 8, vr 1 0 1, vi b0] h (some (vi x.1)) x.2 := (gg0 Γ d).2 b0 h x hx
theorem s_LR_comparing (Γ : AG) (a0 : Int32) (h : AH) : MetA Γ m_LR_comparing [vi a0] h (some (vi (p_LR_comparing a0))) h := by
  refine Ev.met rfl rfl (Nat.le_of_ble_eq_true rfl) ?_
  generalize hx : p_LR_comparing a0 = x
  show Ev Γ m_LR_comparing 0 [some (vi a0)] [] h _ _
  obtain ⟨r, hr⟩ : ∃ r : Option AV, r = some (vi x) := ⟨_, rfl⟩
  obtain ⟨h', hh⟩ : ∃ h' : AH, h' = h := ⟨_, rfl⟩
  have hP : r = some (vi x) ∧ h' = h := ⟨hr, hh⟩
  suffices hS : Ev Γ m_LR_comparing 0 [some (vi a0)] [] h r h' by rw [hr, hh] at hS; exact hS
  clear hr hh
  unfold p_LR_comparing at hx
  refine Ev.blk (pc' := 1) (lv' := [some (vi a0)]) (st' := [vi a0]) (h' := h) 0 1 (Nat.le_of_ble_eq_true rfl) tk_LR_comparing rfl rfl ⟨trivial, trivial⟩ ?_
  by_cases hc1 : a0 = ii 60
  · replace hx := ip hc1 hx
    refine Ev.tabIn (off := 30) 1 31 60 tk_LR_comparing rfl hc1 (by decide) (by decide) ?_
    refine Ev.blk (pc' := 33) (lv' := [some (vi a0)]) (st' := [vi (ii (-12))]) (h' := h) 4 1 (Nat.le_of_ble_eq_true rfl) tk_LR_comparing rfl rfl ⟨trivial, trivial⟩ ?_
    subst hx
    obtain ⟨rfl, rfl⟩ := hP
    exact Ev.iret 5 tk_LR_comparing rfl rfl
  replace hx := ia hc1 hx
  by_cases hc2 : a0 = ii 61
  · replace hx := ip hc2 hx
    refine Ev.tabIn (off := 27) 1 28 61 tk_LR_comparing rfl hc2 (by decide) (by decide) ?_
    refine Ev.blk (pc' := 30) (lv' := [some (vi a0)]) (st' := [vi (ii (-11))]) (h' := h) 2 1 (Nat.le_of_ble_eq_true rfl) tk_LR_comparing rfl rfl ⟨trivial, trivial⟩ ?_
    subst hx
    obtain ⟨rfl, rfl⟩ := hP
    exact Ev.iret 3 tk_LR_comparing rfl rfl
  replace hx := ia hc2 hx
  by_cases hc3 : a0 = ii 62
  · replace hx := ip hc3 hx
    refine Ev.tabIn (off := 33) 1 34 62 tk_LR_comparing rfl hc3 (by decide) (by decide) ?_
    refine Ev.blk (pc' := 36) (lv' := [some (vi a0)]) (st' := [vi (ii (-13))]) (h' := h) 6 1 (Nat.le_of_ble_eq_true rfl) tk_LR_comparing rfl rfl ⟨trivial, trivial⟩ ?_
    subst hx
    obtain ⟨rfl, rfl⟩ := hP
    exact Ev.iret 7 tk_LR_comparing rfl rfl
  replace hx := ia hc3 hx
  refine Ev.tabOut 1 37 3 tk_LR_comparing rfl (by decide) (fun k hk => ?_) (by decide) ?_
  · rcases (show k = 0 ∨ k = 1 ∨ k = 2 by omega) with rfl | rfl | rfl
    · exact hc1
    · exact hc2
    · exact hc3
  · refine Ev.blk (pc' := 38) (lv' := [some (vi a0)]) (st' := [vi (ii (-1))]) (h' := h) 8 1 (Nat.le_of_ble_eq_true rfl) tk_LR_comparing rfl rfl ⟨trivial, trivial⟩ ?_
    subst hx
    obtain ⟨rfl, rfl⟩ := hP
    exact Ev.iret 9 tk_LR_comparing rfl rfl
set_option maxRecDepth 4000 in
theorem u_LR_readNested_ok (Γ : AG) (d : Nat) (rc : Nat → Int32 → Int32 → AH → Option (Int32 × AH)) (hrc0 : ∀ (b0 : Int32) (b1 : Int32) (h : AH) (x : Int32 × AH), rc 0 b0 b1 h = some x → MetA Γ (m_LR_readCondition d) [vr 4 0 8, vr 1 0 1, vi b0, vi b1] h (some (vi x.1)) x.2) (hrc1 : ∀ (b0 : Int32) (b1 : Int32) (h : AH) (x : Int32 × AH), rc 1 b0 b1 h = some x → MetA Γ (m_LR_readUnit d) [vr 4 0 8, vr 1 0 1, vi b0, vi b1] h (some (vi x.1)) x.2) (hrc2 : ∀ (b0 : Int32) (b1 : Int32) (h : AH) (x : Int32 × AH), rc 2 b0 b1 h = some x → MetA Γ (m_LR_readNested d) [vr 4 0 8, vr 1 0 1, vi b0, vi b1] h (some (vi x.1)) x.2) (a2 : Int32) (a3 : Int32) (h : AH) (x : Int32 × AH) (hx : u_LR_readNested rc a2 a3 h = some x) : MetA Γ (m_LR_readNested (d + 1)) [vr 4 0 8, vr 1 0 1, vi a2, vi a3] h (some (vi x.1)) x.2 := by
  refine Ev.met rfl rfl (Nat.le_of_ble_eq_true rfl) ?_
  show Ev Γ (m_LR_readNested (d + 1)) 0 [some (vr 4 0 8), some (vr 1 0 1), some (vi a2), some (vi a3)] [] h _ _
  obtain ⟨r, hr⟩ : ∃ r : Option AV, r = some (vi x.1) := ⟨_, rfl⟩
  obtain ⟨h', hh⟩ : ∃ h' : AH, h' = x.2 := ⟨_, rfl⟩
  have hP : r = some (vi x.1) ∧ h' = x.2 := ⟨hr, hh⟩
  suffices hS : Ev Γ (m_LR_readNested (d + 1)) 0 [some (vr 4 0 8), some (vr 1 0 1), some (vi a2), some (vi a3)] [] h r h' by rw [hr, hh] at hS; exact hS
  clear hr hh
  unfold u_LR_readNested at hx
  refine Ev.blk (pc' := 3) (lv' := [some (vr 4 0 8), some (vr 1 0 1), some (vi a2), some (vi a3)]) (st' := [vi (ii 6), vi a2]) (h' := h) 0 2 (Nat.le_of_ble_eq_true rfl) tk_LR_readNested rfl rfl ⟨trivial, trivial, trivial⟩ ?_
  refine Ev.icmp_lt 2 8 tk_LR_readNested rfl (by decide) (fun hc1 => ?_) (fun hc1 => ?_)
  · replace hx := ip hc1 hx
    refine Ev.blk (pc' := 21) (lv' := [some (vr 4 0 8), some (vr 1 0 1), some (vi a2), some (vi a3)]) (st' := [vi (ii 40), vi a3]) (h' := (wI h 1 2 ((h.1 1 2) + (ii 1)))) 5 8 (Nat.le_of_ble_eq_true rfl) tk_LR_readNested rfl rfl ⟨trivial, trivial, trivial, trivial, trivial, trivial, trivial, trivial, trivial⟩ ?_
    refine Ev.icmp_ne 13 51 tk_LR_readNested rfl (by decide) (fun hc2 => ?_) (fun hc2 => ?_)
    · replace hx := ia hc2 hx
      refine Ev.blk (pc' := 57) (lv' := [some (vr 4 0 8), some (vr 1 0 1), some (vi a2), some (vi a3)]) (st' := [vi (ii 0), vi (a2 + (ii 1)), vr 1 0 1, vr 4 0 8]) (h' := (wI h 1 2 ((h.1 1 2) + (ii 1)))) 30 6 (Nat.le_of_ble_eq_true rfl) tk_LR_readNested rfl rfl ⟨trivial, trivial, trivial, trivial, trivial, trivial, trivial⟩ ?_
      obtain ⟨q1, hq3, hx⟩ := bd hx
      refine Ev.callV (ν := (m_LR_readUnit d)) (av := [vr 1 0 1, vi (a2 + (ii 1)), vi (ii 0)]) (rest := []) (r1 := some (vi q1.1)) (h1 := q1.2) (ci := 4) (nn := 0) (o := 8) 36 3 tk_LR_readNested rfl (bb_LR_readUnit _) (vv_LR_readUnit _) lk_4_55 (Nat.le_refl _) rfl rfl (Or.inl rfl) (Nat.le_of_ble_eq_true rfl) (hrc1 (a2 + (ii 1)) (ii 0) (wI h 1 2 ((h.1 1 2) + (ii 1))) _ hq3) ?_
      show Ev Γ (m_LR_readNested (d + 1)) 60 [some (vr 4 0 8), some (vr 1 0 1), some (vi a2), some (vi a3)] [vi q1.1] q1.2 r h'
      refine Ev.if_ne 37 65 tk_LR_readNested rfl (by decide) (fun hc4 => ?_) (fun hc4 => ?_)
      · replace hx := ia hc4 hx
        refine Ev.blk (pc' := 71) (lv' := [some (vr 4 0 8), some (vr 1 0 1), some (vi a2), some (vi a3)]) (st' := [vi (ii (-16)), vr 5 0 (q1.2.2.2 8 0)]) (h' := q1.2) 40 3 (Nat.le_of_ble_eq_true rfl) tk_LR_readNested rfl rfl ⟨trivial, trivial, trivial, trivial⟩ ?_
        obtain ⟨q2, hq5, hx⟩ := bd hx
        refine Ev.callV (ν := m_Law_emit) (av := [vi (ii (-16))]) (rest := []) (r1 := none) (h1 := q2) (ci := 5) (nn := 0) (o := (q1.2.2.2 8 0)) 43 1 tk_LR_readNested rfl bb_Law_emit vv_Law_emit lk_4_31 (by show _ ≤ 47 + (d + 1); simp only [mv, m_Law_emit]; omega) rfl rfl (Or.inl rfl) (Nat.le_of_ble_eq_true rfl) (s_Law_emit Γ (q1.2.2.2 8 0) (ii (-16)) q1.2 _ hq5) ?_
        show Ev Γ (m_LR_readNested (d + 1)) 74 [some (vr 4 0 8), some (vr 1 0 1), some (vi a2), some (vi a3)] [] q2 r h'
        refine Ev.blk (pc' := 75) (lv' := [some (vr 4 0 8), some (vr 1 0 1), some (vi a2), some (vi a3)]) (st' := [vi (ii 1)]) (h' := q2) 44 1 (Nat.le_of_ble_eq_true rfl) tk_LR_readNested rfl rfl ⟨trivial, trivial⟩ ?_
        obtain rfl := Option.some.inj hx
        obtain ⟨rfl, rfl⟩ := hP
        exact Ev.zret 45 tk_LR_readNested rfl rfl rfl
      · replace hx := ip hc4 hx
        refine Ev.blk (pc' := 64) (lv' := [some (vr 4 0 8), some (vr 1 0 1), some (vi a2), some (vi a3)]) (st' := [vi (ii 0)]) (h' := q1.2) 38 1 (Nat.le_of_ble_eq_true rfl) tk_LR_readNested rfl rfl ⟨trivial, trivial⟩ ?_
        obtain rfl := Option.some.inj hx
        obtain ⟨rfl, rfl⟩ := hP
        exact Ev.zret 39 tk_LR_readNested rfl rfl rfl
    · replace hx := ip hc2 hx
      refine Ev.blk (pc' := 30) (lv' := [some (vr 4 0 8), some (vr 1 0 1), some (vi a2), some (vi a3)]) (st' := [vi (ii 0), vi (a2 + (ii 1)), vr 1 0 1, vr 4 0 8]) (h' := (wI h 1 2 ((h.1 1 2) + (ii 1)))) 14 6 (Nat.le_of_ble_eq_true rfl) tk_LR_readNested rfl rfl ⟨trivial, trivial, trivial, trivial, trivial, trivial, trivial⟩ ?_
      obtain ⟨q3, hq6, hx⟩ := bd hx
      refine Ev.callV (ν := (m_LR_readCondition d)) (av := [vr 1 0 1, vi (a2 + (ii 1)), vi (ii 0)]) (rest := []) (r1 := some (vi q3.1)) (h1 := q3.2) (ci := 4) (nn := 0) (o := 8) 20 3 tk_LR_readNested rfl (bb_LR_readCondition _) (vv_LR_readCondition _) lk_4_51 (Nat.le_refl _) rfl rfl (Or.inl rfl) (Nat.le_of_ble_eq_true rfl) (hrc0 (a2 + (ii 1)) (ii 0) (wI h 1 2 ((h.1 1 2) + (ii 1))) _ hq6) ?_
      show Ev Γ (m_LR_readNested (d + 1)) 33 [some (vr 4 0 8), some (vr 1 0 1), some (vi a2), some (vi a3)] [vi q3.1] q3.2 r h'
      refine Ev.if_eq 21 49 tk_LR_readNested rfl (by decide) (fun hc7 => ?_) (fun hc7 => ?_)
      · replace hx := ip hc7 hx
        refine Ev.blk (pc' := 50) (lv' := [some (vr 4 0 8), some (vr 1 0 1), some (vi a2), some (vi a3)]) (st' := [vi (ii 0)]) (h' := q3.2) 28 1 (Nat.le_of_ble_eq_true rfl) tk_LR_readNested rfl rfl ⟨trivial, trivial⟩ ?_
        obtain rfl := Option.some.inj hx
        obtain ⟨rfl, rfl⟩ := hP
        exact Ev.zret 29 tk_LR_readNested rfl rfl rfl
      · replace hx := ia hc7 hx
        refine Ev.blk (pc' := 39) (lv' := [some (vr 4 0 8), some (vr 1 0 1), some (vi a2), some (vi a3)]) (st' := [vi (ii 41), vr 1 0 1]) (h' := q3.2) 22 2 (Nat.le_of_ble_eq_true rfl) tk_LR_readNested rfl rfl ⟨trivial, trivial, trivial⟩ ?_
        obtain ⟨q4, hq8, hx⟩ := bd hx
        refine Ev.callV (ν := m_Tape_take) (av := [vi (ii 41)]) (rest := []) (r1 := some (vi q4.1)) (h1 := q4.2) (ci := 1) (nn := 0) (o := 1) 24 1 tk_LR_readNested rfl bb_Tape_take vv_Tape_take lk_4_39 (by show _ ≤ 47 + (d + 1); simp only [mv, m_Tape_take]; omega) rfl rfl (Or.inl rfl) (Nat.le_of_ble_eq_true rfl) (s_Tape_take Γ (ii 41) q3.2 _ hq8) ?_
        show Ev Γ (m_LR_readNested (d + 1)) 42 [some (vr 4 0 8), some (vr 1 0 1), some (vi a2), some (vi a3)] [vi q4.1] q4.2 r h'
        refine Ev.if_eq 25 49 tk_LR_readNested rfl (by decide) (fun hc9 => ?_) (fun hc9 => ?_)
        · replace hx := ip hc9 hx
          refine Ev.blk (pc' := 50) (lv' := [some (vr 4 0 8), some (vr 1 0 1), some (vi a2), some (vi a3)]) (st' := [vi (ii 0)]) (h' := q4.2) 28 1 (Nat.le_of_ble_eq_true rfl) tk_LR_readNested rfl rfl ⟨trivial, trivial⟩ ?_
          obtain rfl := Option.some.inj hx
          obtain ⟨rfl, rfl⟩ := hP
          exact Ev.zret 29 tk_LR_readNested rfl rfl rfl
        · replace hx := ia hc9 hx
          refine Ev.blk (pc' := 50) (lv' := [some (vr 4 0 8), some (vr 1 0 1), some (vi a2), some (vi a3)]) (st' := [vi (ii 1)]) (h' := q4.2) 26 2 (Nat.le_of_ble_eq_true rfl) tk_LR_readNested rfl rfl ⟨trivial, trivial, trivial⟩ ?_
          obtain rfl := Option.some.inj hx
          obtain ⟨rfl, rfl⟩ := hP
          exact Ev.zret 29 tk_LR_readNested rfl rfl rfl
  · replace hx := ia hc1 hx
    refine Ev.blk (pc' := 7) (lv' := [some (vr 4 0 8), some (vr 1 0 1), some (vi a2), some (vi a3)]) (st' := [vi (ii 0)]) (h' := h) 3 1 (Nat.le_of_ble_eq_true rfl) tk_LR_readNested rfl rfl ⟨trivial, trivial⟩ ?_
    obtain rfl := Option.some.inj hx
    obtain ⟨rfl, rfl⟩ := hP
    exact Ev.zret 4 tk_LR_readNested rfl rfl rfl
set_option maxRecDepth 4000 in
theorem u_LR_readUnit_ok (Γ : AG) (d : Nat) (rc : Nat → Int32 → Int32 → AH → Option (Int32 × AH)) (hrc0 : ∀ (b0 : Int32) (b1 : Int32) (h : AH) (x : Int32 × AH), rc 0 b0 b1 h = some x → MetA Γ (m_LR_readCondition d) [vr 4 0 8, vr 1 0 1, vi b0, vi b1] h (some (vi x.1)) x.2) (hrc1 : ∀ (b0 : Int32) (b1 : Int32) (h : AH) (x : Int32 × AH), rc 1 b0 b1 h = some x → MetA Γ (m_LR_readUnit d) [vr 4 0 8, vr 1 0 1, vi b0, vi b1] h (some (vi x.1)) x.2) (hrc2 : ∀ (b0 : Int32) (b1 : Int32) (h : AH) (x : Int32 × AH), rc 2 b0 b1 h = some x → MetA Γ (m_LR_readNested d) [vr 4 0 8, vr 1 0 1, vi b0, vi b1] h (some (vi x.1)) x.2) (a2 : Int32) (a3 : Int32) (h : AH) (x : Int32 × AH) (hx : u_LR_readUnit rc a2 a3 h = some x) : MetA Γ (m_LR_readUnit (d + 1)) [vr 4 0 8, vr 1 0 1, vi a2, vi a3] h (some (vi x.1)) x.2 := by
  refine Ev.met rfl rfl (Nat.le_of_ble_eq_true rfl) ?_
  show Ev Γ (m_LR_readUnit (d + 1)) 0 [some (vr 4 0 8), some (vr 1 0 1), some (vi a2), some (vi a3), none, none] [] h _ _
  obtain ⟨r, hr⟩ : ∃ r : Option AV, r = some (vi x.1) := ⟨_, rfl⟩
  obtain ⟨h', hh⟩ : ∃ h' : AH, h' = x.2 := ⟨_, rfl⟩
  have hP : r = some (vi x.1) ∧ h' = x.2 := ⟨hr, hh⟩
  suffices hS : Ev Γ (m_LR_readUnit (d + 1)) 0 [some (vr 4 0 8), some (vr 1 0 1), some (vi a2), some (vi a3), none, none] [] h r h' by rw [hr, hh] at hS; exact hS
  clear hr hh
  unfold u_LR_readUnit at hx
  refine Ev.blk (pc' := 1) (lv' := [some (vr 4 0 8), some (vr 1 0 1), some (vi a2), some (vi a3), none, none]) (st' := [vr 1 0 1]) (h' := h) 0 1 (Nat.le_of_ble_eq_true rfl) tk_LR_readUnit rfl rfl ⟨trivial, trivial⟩ ?_
  obtain ⟨q1, hq1, hx⟩ := bd hx
  refine Ev.callV (ν := m_Tape_peek) (av := []) (rest := []) (r1 := some (vi q1.1)) (h1 := q1.2) (ci := 1) (nn := 0) (o := 1) 1 0 tk_LR_readUnit rfl bb_Tape_peek vv_Tape_peek lk_4_35 (by show _ ≤ 47 + (d + 1); simp only [mv, m_Tape_peek]; omega) rfl rfl (Or.inl rfl) (Nat.le_of_ble_eq_true rfl) (s_Tape_peek Γ h _ hq1) ?_
  show Ev Γ (m_LR_readUnit (d + 1)) 4 [some (vr 4 0 8), some (vr 1 0 1), some (vi a2), some (vi a3), none, none] [vi q1.1] q1.2 r h'
  refine Ev.blk (pc' := 7) (lv' := [some (vr 4 0 8), some (vr 1 0 1), some (vi a2), some (vi a3), some (vi q1.1), none]) (st' := [vi a3]) (h' := q1.2) 2 2 (Nat.le_of_ble_eq_true rfl) tk_LR_readUnit rfl rfl ⟨trivial, trivial, trivial⟩ ?_
  refine Ev.if_ne 4 33 tk_LR_readUnit rfl (by decide) (fun hc2 => ?_) (fun hc2 => ?_)
  · replace hx := ia hc2 hx
    refine Ev.blk (pc' := 34) (lv' := [some (vr 4 0 8), some (vr 1 0 1), some (vi a2), some (vi a3), some (vi q1.1), none]) (st' := [vi a3]) (h' := q1.2) 17 1 (Nat.le_of_ble_eq_true rfl) tk_LR_readUnit rfl rfl ⟨trivial, trivial⟩ ?_
    refine Ev.if_ne 18 48 tk_LR_readUnit rfl (by decide) (fun hc3 => ?_) (fun hc3 => ?_)
    · replace hx := ia hc3 hx
      refine Ev.blk (pc' := 49) (lv' := [some (vr 4 0 8), some (vr 1 0 1), some (vi a2), some (vi a3), some (vi q1.1), none]) (st' := [vr 1 0 1]) (h' := q1.2) 26 1 (Nat.le_of_ble_eq_true rfl) tk_LR_readUnit rfl rfl ⟨trivial, trivial⟩ ?_
      obtain ⟨q2, hq4, hx⟩ := bd hx
      refine Ev.callV (ν := m_Tape_peek) (av := []) (rest := []) (r1 := some (vi q2.1)) (h1 := q2.2) (ci := 1) (nn := 0) (o := 1) 27 0 tk_LR_readUnit rfl bb_Tape_peek vv_Tape_peek lk_4_35 (by show _ ≤ 47 + (d + 1); simp only [mv, m_Tape_peek]; omega) rfl rfl (Or.inl rfl) (Nat.le_of_ble_eq_true rfl) (s_Tape_peek Γ q1.2 _ hq4) ?_
      show Ev Γ (m_LR_readUnit (d + 1)) 52 [some (vr 4 0 8), some (vr 1 0 1), some (vi a2), some (vi a3), some (vi q1.1), none] [vi q2.1] q2.2 r h'
      refine Ev.callS (ν := m_LR_comparing) (av := [vi q2.1]) (rest := []) (r1 := some (vi (p_LR_comparing q2.1))) (h1 := q2.2) 28 1 tk_LR_readUnit rfl bb_LR_comparing vv_LR_comparing lk_4_47 (by show _ ≤ 47 + (d + 1); simp only [mv, m_LR_comparing]; omega) rfl rfl (Nat.le_of_ble_eq_true rfl) (s_LR_comparing Γ q2.1 q2.2) ?_
      show Ev Γ (m_LR_readUnit (d + 1)) 55 [some (vr 4 0 8), some (vr 1 0 1), some (vi a2), some (vi a3), some (vi q1.1), none] [vi (p_LR_comparing q2.1)] q2.2 r h'
      refine Ev.blk (pc' := 60) (lv' := [some (vr 4 0 8), some (vr 1 0 1), some (vi a2), some (vi a3), some (vi q1.1), some (vi (p_LR_comparing q2.1))]) (st' := [vi (ii (-1)), vi (p_LR_comparing q2.1)]) (h' := q2.2) 29 3 (Nat.le_of_ble_eq_true rfl) tk_LR_readUnit rfl rfl ⟨trivial, trivial, trivial, trivial⟩ ?_
      refine Ev.icmp_ne 32 65 tk_LR_readUnit rfl (by decide) (fun hc5 => ?_) (fun hc5 => ?_)
      · replace hx := ia hc5 hx
        refine Ev.blk (pc' := 78) (lv' := [some (vr 4 0 8), some (vr 1 0 1), some (vi a2), some (vi a3), some (vi q1.1), some (vi (p_LR_comparing q2.1))]) (st' := [vi a2, vr 1 0 1, vr 4 0 8]) (h' := (wI q2.2 1 2 ((q2.2.1 1 2) + (ii 1)))) 35 9 (Nat.le_of_ble_eq_true rfl) tk_LR_readUnit rfl rfl ⟨trivial, trivial, trivial, trivial, trivial, trivial, trivial, trivial, trivial, trivial⟩ ?_
        obtain ⟨q3, hq6, hx⟩ := bd hx
        refine Ev.callV (ν := (m_LR_readSum 40)) (av := [vr 1 0 1, vi a2]) (rest := []) (r1 := some (vi q3.1)) (h1 := q3.2) (ci := 4) (nn := 0) (o := 8) 44 2 tk_LR_readUnit rfl (bb_LR_readSum _) (vv_LR_readSum _) lk_4_43 (by show _ ≤ 47 + (d + 1); simp only [mv, m_LR_readSum]; omega) rfl rfl (Or.inl rfl) (Nat.le_of_ble_eq_true rfl) (t_LR_readSum Γ 40 a2 (wI q2.2 1 2 ((q2.2.1 1 2) + (ii 1))) _ hq6) ?_
        show Ev Γ (m_LR_readUnit (d + 1)) 81 [some (vr 4 0 8), some (vr 1 0 1), some (vi a2), some (vi a3), some (vi q1.1), some (vi (p_LR_comparing q2.1))] [vi q3.1] q3.2 r h'
        refine Ev.if_ne 45 86 tk_LR_readUnit rfl (by decide) (fun hc7 => ?_) (fun hc7 => ?_)
        · replace hx := ia hc7 hx
          refine Ev.blk (pc' := 92) (lv' := [some (vr 4 0 8), some (vr 1 0 1), some (vi a2), some (vi a3), some (vi q1.1), some (vi (p_LR_comparing q2.1))]) (st' := [vi (p_LR_comparing q2.1), vr 5 0 (q3.2.2.2 8 0)]) (h' := q3.2) 48 3 (Nat.le_of_ble_eq_true rfl) tk_LR_readUnit rfl rfl ⟨trivial, trivial, trivial, trivial⟩ ?_
          obtain ⟨q4, hq8, hx⟩ := bd hx
          refine Ev.callV (ν := m_Law_emit) (av := [vi (p_LR_comparing q2.1)]) (rest := []) (r1 := none) (h1 := q4) (ci := 5) (nn := 0) (o := (q3.2.2.2 8 0)) 51 1 tk_LR_readUnit rfl bb_Law_emit vv_Law_emit lk_4_31 (by show _ ≤ 47 + (d + 1); simp only [mv, m_Law_emit]; omega) rfl rfl (Or.inl rfl) (Nat.le_of_ble_eq_true rfl) (s_Law_emit Γ (q3.2.2.2 8 0) (p_LR_comparing q2.1) q3.2 _ hq8) ?_
          show Ev Γ (m_LR_readUnit (d + 1)) 95 [some (vr 4 0 8), some (vr 1 0 1), some (vi a2), some (vi a3), some (vi q1.1), some (vi (p_LR_comparing q2.1))] [] q4 r h'
          refine Ev.blk (pc' := 96) (lv' := [some (vr 4 0 8), some (vr 1 0 1), some (vi a2), some (vi a3), some (vi q1.1), some (vi (p_LR_comparing q2.1))]) (st' := [vi (ii 1)]) (h' := q4) 52 1 (Nat.le_of_ble_eq_true rfl) tk_LR_readUnit rfl rfl ⟨trivial, trivial⟩ ?_
          obtain rfl := Option.some.inj hx
          obtain ⟨rfl, rfl⟩ := hP
          exact Ev.zret 53 tk_LR_readUnit rfl rfl rfl
        · replace hx := ip hc7 hx
          refine Ev.blk (pc' := 85) (lv' := [some (vr 4 0 8), some (vr 1 0 1), some (vi a2), some (vi a3), some (vi q1.1), some (vi (p_LR_comparing q2.1))]) (st' := [vi (ii 0)]) (h' := q3.2) 46 1 (Nat.le_of_ble_eq_true rfl) tk_LR_readUnit rfl rfl ⟨trivial, trivial⟩ ?_
          obtain rfl := Option.some.inj hx
          obtain ⟨rfl, rfl⟩ := hP
          exact Ev.zret 47 tk_LR_readUnit rfl rfl rfl
      · replace hx := ip hc5 hx
        refine Ev.blk (pc' := 64) (lv' := [some (vr 4 0 8), some (vr 1 0 1), some (vi a2), some (vi a3), some (vi q1.1), some (vi (p_LR_comparing q2.1))]) (st' := [vi (ii 0)]) (h' := q2.2) 33 1 (Nat.le_of_ble_eq_true rfl) tk_LR_readUnit rfl rfl ⟨trivial, trivial⟩ ?_
        obtain rfl := Option.some.inj hx
        obtain ⟨rfl, rfl⟩ := hP
        exact Ev.zret 34 tk_LR_readUnit rfl rfl rfl
    · replace hx := ip hc3 hx
      refine Ev.blk (pc' := 40) (lv' := [some (vr 4 0 8), some (vr 1 0 1), some (vi a2), some (vi a3), some (vi q1.1), none]) (st' := [vi a2, vr 1 0 1, vr 4 0 8]) (h' := q1.2) 19 3 (Nat.le_of_ble_eq_true rfl) tk_LR_readUnit rfl rfl ⟨trivial, trivial, trivial, trivial⟩ ?_
      obtain ⟨q5, hq9, hx⟩ := bd hx
      refine Ev.callV (ν := (m_LR_readSum 40)) (av := [vr 1 0 1, vi a2]) (rest := []) (r1 := some (vi q5.1)) (h1 := q5.2) (ci := 4) (nn := 0) (o := 8) 22 2 tk_LR_readUnit rfl (bb_LR_readSum _) (vv_LR_readSum _) lk_4_43 (by show _ ≤ 47 + (d + 1); simp only [mv, m_LR_readSum]; omega) rfl rfl (Or.inl rfl) (Nat.le_of_ble_eq_true rfl) (t_LR_readSum Γ 40 a2 q1.2 _ hq9) ?_
      show Ev Γ (m_LR_readUnit (d + 1)) 43 [some (vr 4 0 8), some (vr 1 0 1), some (vi a2), some (vi a3), some (vi q1.1), none] [vi q5.1] q5.2 r h'
      refine Ev.if_ne 23 48 tk_LR_readUnit rfl (by decide) (fun hc10 => ?_) (fun hc10 => ?_)
      · replace hx := ia hc10 hx
        refine Ev.blk (pc' := 49) (lv' := [some (vr 4 0 8), some (vr 1 0 1), some (vi a2), some (vi a3), some (vi q1.1), none]) (st' := [vr 1 0 1]) (h' := q5.2) 26 1 (Nat.le_of_ble_eq_true rfl) tk_LR_readUnit rfl rfl ⟨trivial, trivial⟩ ?_
        obtain ⟨q6, hq11, hx⟩ := bd hx
        refine Ev.callV (ν := m_Tape_peek) (av := []) (rest := []) (r1 := some (vi q6.1)) (h1 := q6.2) (ci := 1) (nn := 0) (o := 1) 27 0 tk_LR_readUnit rfl bb_Tape_peek vv_Tape_peek lk_4_35 (by show _ ≤ 47 + (d + 1); simp only [mv, m_Tape_peek]; omega) rfl rfl (Or.inl rfl) (Nat.le_of_ble_eq_true rfl) (s_Tape_peek Γ q5.2 _ hq11) ?_
        show Ev Γ (m_LR_readUnit (d + 1)) 52 [some (vr 4 0 8), some (vr 1 0 1), some (vi a2), some (vi a3), some (vi q1.1), none] [vi q6.1] q6.2 r h'
        refine Ev.callS (ν := m_LR_comparing) (av := [vi q6.1]) (rest := []) (r1 := some (vi (p_LR_comparing q6.1))) (h1 := q6.2) 28 1 tk_LR_readUnit rfl bb_LR_comparing vv_LR_comparing lk_4_47 (by show _ ≤ 47 + (d + 1); simp only [mv, m_LR_comparing]; omega) rfl rfl (Nat.le_of_ble_eq_true rfl) (s_LR_comparing Γ q6.1 q6.2) ?_
        show Ev Γ (m_LR_readUnit (d + 1)) 55 [some (vr 4 0 8), some (vr 1 0 1), some (vi a2), some (vi a3), some (vi q1.1), none] [vi (p_LR_comparing q6.1)] q6.2 r h'
        refine Ev.blk (pc' := 60) (lv' := [some (vr 4 0 8), some (vr 1 0 1), some (vi a2), some (vi a3), some (vi q1.1), some (vi (p_LR_comparing q6.1))]) (st' := [vi (ii (-1)), vi (p_LR_comparing q6.1)]) (h' := q6.2) 29 3 (Nat.le_of_ble_eq_true rfl) tk_LR_readUnit rfl rfl ⟨trivial, trivial, trivial, trivial⟩ ?_
        refine Ev.icmp_ne 32 65 tk_LR_readUnit rfl (by decide) (fun hc12 => ?_) (fun hc12 => ?_)
        · replace hx := ia hc12 hx
          refine Ev.blk (pc' := 78) (lv' := [some (vr 4 0 8), some (vr 1 0 1), some (vi a2), some (vi a3), some (vi q1.1), some (vi (p_LR_comparing q6.1))]) (st' := [vi a2, vr 1 0 1, vr 4 0 8]) (h' := (wI q6.2 1 2 ((q6.2.1 1 2) + (ii 1)))) 35 9 (Nat.le_of_ble_eq_true rfl) tk_LR_readUnit rfl rfl ⟨trivial, trivial, trivial, trivial, trivial, trivial, trivial, trivial, trivial, trivial⟩ ?_
          obtain ⟨q7, hq13, hx⟩ := bd hx
          refine Ev.callV (ν := (m_LR_readSum 40)) (av := [vr 1 0 1, vi a2]) (rest := []) (r1 := some (vi q7.1)) (h1 := q7.2) (ci := 4) (nn := 0) (o := 8) 44 2 tk_LR_readUnit rfl (bb_LR_readSum _) (vv_LR_readSum _) lk_4_43 (by show _ ≤ 47 + (d + 1); simp only [mv, m_LR_readSum]; omega) rfl rfl (Or.inl rfl) (Nat.le_of_ble_eq_true rfl) (t_LR_readSum Γ 40 a2 (wI q6.2 1 2 ((q6.2.1 1 2) + (ii 1))) _ hq13) ?_
          show Ev Γ (m_LR_readUnit (d + 1)) 81 [some (vr 4 0 8), some (vr 1 0 1), some (vi a2), some (vi a3), some (vi q1.1), some (vi (p_LR_comparing q6.1))] [vi q7.1] q7.2 r h'
          refine Ev.if_ne 45 86 tk_LR_readUnit rfl (by decide) (fun hc14 => ?_) (fun hc14 => ?_)
          · replace hx := ia hc14 hx
            refine Ev.blk (pc' := 92) (lv' := [some (vr 4 0 8), some (vr 1 0 1), some (vi a2), some (vi a3), some (vi q1.1), some (vi (p_LR_comparing q6.1))]) (st' := [vi (p_LR_comparing q6.1), vr 5 0 (q7.2.2.2 8 0)]) (h' := q7.2) 48 3 (Nat.le_of_ble_eq_true rfl) tk_LR_readUnit rfl rfl ⟨trivial, trivial, trivial, trivial⟩ ?_
            obtain ⟨q8, hq15, hx⟩ := bd hx
            refine Ev.callV (ν := m_Law_emit) (av := [vi (p_LR_comparing q6.1)]) (rest := []) (r1 := none) (h1 := q8) (ci := 5) (nn := 0) (o := (q7.2.2.2 8 0)) 51 1 tk_LR_readUnit rfl bb_Law_emit vv_Law_emit lk_4_31 (by show _ ≤ 47 + (d + 1); simp only [mv, m_Law_emit]; omega) rfl rfl (Or.inl rfl) (Nat.le_of_ble_eq_true rfl) (s_Law_emit Γ (q7.2.2.2 8 0) (p_LR_comparing q6.1) q7.2 _ hq15) ?_
            show Ev Γ (m_LR_readUnit (d + 1)) 95 [some (vr 4 0 8), some (vr 1 0 1), some (vi a2), some (vi a3), some (vi q1.1), some (vi (p_LR_comparing q6.1))] [] q8 r h'
            refine Ev.blk (pc' := 96) (lv' := [some (vr 4 0 8), some (vr 1 0 1), some (vi a2), some (vi a3), some (vi q1.1), some (vi (p_LR_comparing q6.1))]) (st' := [vi (ii 1)]) (h' := q8) 52 1 (Nat.le_of_ble_eq_true rfl) tk_LR_readUnit rfl rfl ⟨trivial, trivial⟩ ?_
            obtain rfl := Option.some.inj hx
            obtain ⟨rfl, rfl⟩ := hP
            exact Ev.zret 53 tk_LR_readUnit rfl rfl rfl
          · replace hx := ip hc14 hx
            refine Ev.blk (pc' := 85) (lv' := [some (vr 4 0 8), some (vr 1 0 1), some (vi a2), some (vi a3), some (vi q1.1), some (vi (p_LR_comparing q6.1))]) (st' := [vi (ii 0)]) (h' := q7.2) 46 1 (Nat.le_of_ble_eq_true rfl) tk_LR_readUnit rfl rfl ⟨trivial, trivial⟩ ?_
            obtain rfl := Option.some.inj hx
            obtain ⟨rfl, rfl⟩ := hP
            exact Ev.zret 47 tk_LR_readUnit rfl rfl rfl
        · replace hx := ip hc12 hx
          refine Ev.blk (pc' := 64) (lv' := [some (vr 4 0 8), some (vr 1 0 1), some (vi a2), some (vi a3), some (vi q1.1), some (vi (p_LR_comparing q6.1))]) (st' := [vi (ii 0)]) (h' := q6.2) 33 1 (Nat.le_of_ble_eq_true rfl) tk_LR_readUnit rfl rfl ⟨trivial, trivial⟩ ?_
          obtain rfl := Option.some.inj hx
          obtain ⟨rfl, rfl⟩ := hP
          exact Ev.zret 34 tk_LR_readUnit rfl rfl rfl
      · replace hx := ip hc10 hx
        refine Ev.blk (pc' := 47) (lv' := [some (vr 4 0 8), some (vr 1 0 1), some (vi a2), some (vi a3), some (vi q1.1), none]) (st' := [vi (ii 0)]) (h' := q5.2) 24 1 (Nat.le_of_ble_eq_true rfl) tk_LR_readUnit rfl rfl ⟨trivial, trivial⟩ ?_
        obtain rfl := Option.some.inj hx
        obtain ⟨rfl, rfl⟩ := hP
        exact Ev.zret 25 tk_LR_readUnit rfl rfl rfl
  · replace hx := ip hc2 hx
    refine Ev.blk (pc' := 14) (lv' := [some (vr 4 0 8), some (vr 1 0 1), some (vi a2), some (vi a3), some (vi q1.1), none]) (st' := [vi (ii 33), vi q1.1]) (h' := q1.2) 5 2 (Nat.le_of_ble_eq_true rfl) tk_LR_readUnit rfl rfl ⟨trivial, trivial, trivial⟩ ?_
    refine Ev.icmp_eq 7 24 tk_LR_readUnit rfl (by decide) (fun hc16 => ?_) (fun hc16 => ?_)
    · replace hx := ip hc16 hx
      refine Ev.blk (pc' := 29) (lv' := [some (vr 4 0 8), some (vr 1 0 1), some (vi a2), some (vi a3), some (vi q1.1), none]) (st' := [vi q1.1, vi a2, vr 1 0 1, vr 4 0 8]) (h' := q1.2) 11 4 (Nat.le_of_ble_eq_true rfl) tk_LR_readUnit rfl rfl ⟨trivial, trivial, trivial, trivial, trivial⟩ ?_
      obtain ⟨q9, hq17, hx⟩ := bd hx
      refine Ev.callV (ν := (m_LR_readNested d)) (av := [vr 1 0 1, vi a2, vi q1.1]) (rest := []) (r1 := some (vi q9.1)) (h1 := q9.2) (ci := 4) (nn := 0) (o := 8) 15 3 tk_LR_readUnit rfl (bb_LR_readNested _) (vv_LR_readNested _) lk_4_58 (Nat.le_refl _) rfl rfl (Or.inl rfl) (Nat.le_of_ble_eq_true rfl) (hrc2 a2 q1.1 q1.2 _ hq17) ?_
      show Ev Γ (m_LR_readUnit (d + 1)) 32 [some (vr 4 0 8), some (vr 1 0 1), some (vi a2), some (vi a3), some (vi q1.1), none] [vi q9.1] q9.2 r h'
      obtain ⟨hg18, hx⟩ := gd hx
      obtain rfl := Option.some.inj hx
      obtain ⟨rfl, rfl⟩ := hP
      exact Ev.zret 16 tk_LR_readUnit rfl rfl (nbool hg18)
    · replace hx := ia hc16 hx
      refine Ev.blk (pc' := 21) (lv' := [some (vr 4 0 8), some (vr 1 0 1), some (vi a2), some (vi a3), some (vi q1.1), none]) (st' := [vi (ii 40), vi q1.1]) (h' := q1.2) 8 2 (Nat.le_of_ble_eq_true rfl) tk_LR_readUnit rfl rfl ⟨trivial, trivial, trivial⟩ ?_
      refine Ev.icmp_ne 10 33 tk_LR_readUnit rfl (by decide) (fun hc19 => ?_) (fun hc19 => ?_)
      · replace hx := ia hc19 hx
        refine Ev.blk (pc' := 34) (lv' := [some (vr 4 0 8), some (vr 1 0 1), some (vi a2), some (vi a3), some (vi q1.1), none]) (st' := [vi a3]) (h' := q1.2) 17 1 (Nat.le_of_ble_eq_true rfl) tk_LR_readUnit rfl rfl ⟨trivial, trivial⟩ ?_
        refine Ev.if_ne 18 48 tk_LR_readUnit rfl (by decide) (fun hc20 => ?_) (fun hc20 => ?_)
        · replace hx := ia hc20 hx
          refine Ev.blk (pc' := 49) (lv' := [some (vr 4 0 8), some (vr 1 0 1), some (vi a2), some (vi a3), some (vi q1.1), none]) (st' := [vr 1 0 1]) (h' := q1.2) 26 1 (Nat.le_of_ble_eq_true rfl) tk_LR_readUnit rfl rfl ⟨trivial, trivial⟩ ?_
          obtain ⟨q10, hq21, hx⟩ := bd hx
          refine Ev.callV (ν := m_Tape_peek) (av := []) (rest := []) (r1 := some (vi q10.1)) (h1 := q10.2) (ci := 1) (nn := 0) (o := 1) 27 0 tk_LR_readUnit rfl bb_Tape_peek vv_Tape_peek lk_4_35 (by show _ ≤ 47 + (d + 1); simp only [mv, m_Tape_peek]; omega) rfl rfl (Or.inl rfl) (Nat.le_of_ble_eq_true rfl) (s_Tape_peek Γ q1.2 _ hq21) ?_
          show Ev Γ (m_LR_readUnit (d + 1)) 52 [some (vr 4 0 8), some (vr 1 0 1), some (vi a2), some (vi a3), some (vi q1.1), none] [vi q10.1] q10.2 r h'
          refine Ev.callS (ν := m_LR_comparing) (av := [vi q10.1]) (rest := []) (r1 := some (vi (p_LR_comparing q10.1))) (h1 := q10.2) 28 1 tk_LR_readUnit rfl bb_LR_comparing vv_LR_comparing lk_4_47 (by show _ ≤ 47 + (d + 1); simp only [mv, m_LR_comparing]; omega) rfl rfl (Nat.le_of_ble_eq_true rfl) (s_LR_comparing Γ q10.1 q10.2) ?_
          show Ev Γ (m_LR_readUnit (d + 1)) 55 [some (vr 4 0 8), some (vr 1 0 1), some (vi a2), some (vi a3), some (vi q1.1), none] [vi (p_LR_comparing q10.1)] q10.2 r h'
          refine Ev.blk (pc' := 60) (lv' := [some (vr 4 0 8), some (vr 1 0 1), some (vi a2), some (vi a3), some (vi q1.1), some (vi (p_LR_comparing q10.1))]) (st' := [vi (ii (-1)), vi (p_LR_comparing q10.1)]) (h' := q10.2) 29 3 (Nat.le_of_ble_eq_true rfl) tk_LR_readUnit rfl rfl ⟨trivial, trivial, trivial, trivial⟩ ?_
          refine Ev.icmp_ne 32 65 tk_LR_readUnit rfl (by decide) (fun hc22 => ?_) (fun hc22 => ?_)
          · replace hx := ia hc22 hx
            refine Ev.blk (pc' := 78) (lv' := [some (vr 4 0 8), some (vr 1 0 1), some (vi a2), some (vi a3), some (vi q1.1), some (vi (p_LR_comparing q10.1))]) (st' := [vi a2, vr 1 0 1, vr 4 0 8]) (h' := (wI q10.2 1 2 ((q10.2.1 1 2) + (ii 1)))) 35 9 (Nat.le_of_ble_eq_true rfl) tk_LR_readUnit rfl rfl ⟨trivial, trivial, trivial, trivial, trivial, trivial, trivial, trivial, trivial, trivial⟩ ?_
            obtain ⟨q11, hq23, hx⟩ := bd hx
            refine Ev.callV (ν := (m_LR_readSum 40)) (av := [vr 1 0 1, vi a2]) (rest := []) (r1 := some (vi q11.1)) (h1 := q11.2) (ci := 4) (nn := 0) (o := 8) 44 2 tk_LR_readUnit rfl (bb_LR_readSum _) (vv_LR_readSum _) lk_4_43 (by show _ ≤ 47 + (d + 1); simp only [mv, m_LR_readSum]; omega) rfl rfl (Or.inl rfl) (Nat.le_of_ble_eq_true rfl) (t_LR_readSum Γ 40 a2 (wI q10.2 1 2 ((q10.2.1 1 2) + (ii 1))) _ hq23) ?_
            show Ev Γ (m_LR_readUnit (d + 1)) 81 [some (vr 4 0 8), some (vr 1 0 1), some (vi a2), some (vi a3), some (vi q1.1), some (vi (p_LR_comparing q10.1))] [vi q11.1] q11.2 r h'
            refine Ev.if_ne 45 86 tk_LR_readUnit rfl (by decide) (fun hc24 => ?_) (fun hc24 => ?_)
            · replace hx := ia hc24 hx
              refine Ev.blk (pc' := 92) (lv' := [some (vr 4 0 8), some (vr 1 0 1), some (vi a2), some (vi a3), some (vi q1.1), some (vi (p_LR_comparing q10.1))]) (st' := [vi (p_LR_comparing q10.1), vr 5 0 (q11.2.2.2 8 0)]) (h' := q11.2) 48 3 (Nat.le_of_ble_eq_true rfl) tk_LR_readUnit rfl rfl ⟨trivial, trivial, trivial, trivial⟩ ?_
              obtain ⟨q12, hq25, hx⟩ := bd hx
              refine Ev.callV (ν := m_Law_emit) (av := [vi (p_LR_comparing q10.1)]) (rest := []) (r1 := none) (h1 := q12) (ci := 5) (nn := 0) (o := (q11.2.2.2 8 0)) 51 1 tk_LR_readUnit rfl bb_Law_emit vv_Law_emit lk_4_31 (by show _ ≤ 47 + (d + 1); simp only [mv, m_Law_emit]; omega) rfl rfl (Or.inl rfl) (Nat.le_of_ble_eq_true rfl) (s_Law_emit Γ (q11.2.2.2 8 0) (p_LR_comparing q10.1) q11.2 _ hq25) ?_
              show Ev Γ (m_LR_readUnit (d + 1)) 95 [some (vr 4 0 8), some (vr 1 0 1), some (vi a2), some (vi a3), some (vi q1.1), some (vi (p_LR_comparing q10.1))] [] q12 r h'
              refine Ev.blk (pc' := 96) (lv' := [some (vr 4 0 8), some (vr 1 0 1), some (vi a2), some (vi a3), some (vi q1.1), some (vi (p_LR_comparing q10.1))]) (st' := [vi (ii 1)]) (h' := q12) 52 1 (Nat.le_of_ble_eq_true rfl) tk_LR_readUnit rfl rfl ⟨trivial, trivial⟩ ?_
              obtain rfl := Option.some.inj hx
              obtain ⟨rfl, rfl⟩ := hP
              exact Ev.zret 53 tk_LR_readUnit rfl rfl rfl
            · replace hx := ip hc24 hx
              refine Ev.blk (pc' := 85) (lv' := [some (vr 4 0 8), some (vr 1 0 1), some (vi a2), some (vi a3), some (vi q1.1), some (vi (p_LR_comparing q10.1))]) (st' := [vi (ii 0)]) (h' := q11.2) 46 1 (Nat.le_of_ble_eq_true rfl) tk_LR_readUnit rfl rfl ⟨trivial, trivial⟩ ?_
              obtain rfl := Option.some.inj hx
              obtain ⟨rfl, rfl⟩ := hP
              exact Ev.zret 47 tk_LR_readUnit rfl rfl rfl
          · replace hx := ip hc22 hx
            refine Ev.blk (pc' := 64) (lv' := [some (vr 4 0 8), some (vr 1 0 1), some (vi a2), some (vi a3), some (vi q1.1), some (vi (p_LR_comparing q10.1))]) (st' := [vi (ii 0)]) (h' := q10.2) 33 1 (Nat.le_of_ble_eq_true rfl) tk_LR_readUnit rfl rfl ⟨trivial, trivial⟩ ?_
            obtain rfl := Option.some.inj hx
            obtain ⟨rfl, rfl⟩ := hP
            exact Ev.zret 34 tk_LR_readUnit rfl rfl rfl
        · replace hx := ip hc20 hx
          refine Ev.blk (pc' := 40) (lv' := [some (vr 4 0 8), some (vr 1 0 1), some (vi a2), some (vi a3), some (vi q1.1), none]) (st' := [vi a2, vr 1 0 1, vr 4 0 8]) (h' := q1.2) 19 3 (Nat.le_of_ble_eq_true rfl) tk_LR_readUnit rfl rfl ⟨trivial, trivial, trivial, trivial⟩ ?_
          obtain ⟨q13, hq26, hx⟩ := bd hx
          refine Ev.callV (ν := (m_LR_readSum 40)) (av := [vr 1 0 1, vi a2]) (rest := []) (r1 := some (vi q13.1)) (h1 := q13.2) (ci := 4) (nn := 0) (o := 8) 22 2 tk_LR_readUnit rfl (bb_LR_readSum _) (vv_LR_readSum _) lk_4_43 (by show _ ≤ 47 + (d + 1); simp only [mv, m_LR_readSum]; omega) rfl rfl (Or.inl rfl) (Nat.le_of_ble_eq_true rfl) (t_LR_readSum Γ 40 a2 q1.2 _ hq26) ?_
          show Ev Γ (m_LR_readUnit (d + 1)) 43 [some (vr 4 0 8), some (vr 1 0 1), some (vi a2), some (vi a3), some (vi q1.1), none] [vi q13.1] q13.2 r h'
          refine Ev.if_ne 23 48 tk_LR_readUnit rfl (by decide) (fun hc27 => ?_) (fun hc27 => ?_)
          · replace hx := ia hc27 hx
            refine Ev.blk (pc' := 49) (lv' := [some (vr 4 0 8), some (vr 1 0 1), some (vi a2), some (vi a3), some (vi q1.1), none]) (st' := [vr 1 0 1]) (h' := q13.2) 26 1 (Nat.le_of_ble_eq_true rfl) tk_LR_readUnit rfl rfl ⟨trivial, trivial⟩ ?_
            obtain ⟨q14, hq28, hx⟩ := bd hx
            refine Ev.callV (ν := m_Tape_peek) (av := []) (rest := []) (r1 := some (vi q14.1)) (h1 := q14.2) (ci := 1) (nn := 0) (o := 1) 27 0 tk_LR_readUnit rfl bb_Tape_peek vv_Tape_peek lk_4_35 (by show _ ≤ 47 + (d + 1); simp only [mv, m_Tape_peek]; omega) rfl rfl (Or.inl rfl) (Nat.le_of_ble_eq_true rfl) (s_Tape_peek Γ q13.2 _ hq28) ?_
            show Ev Γ (m_LR_readUnit (d + 1)) 52 [some (vr 4 0 8), some (vr 1 0 1), some (vi a2), some (vi a3), some (vi q1.1), none] [vi q14.1] q14.2 r h'
            refine Ev.callS (ν := m_LR_comparing) (av := [vi q14.1]) (rest := []) (r1 := some (vi (p_LR_comparing q14.1))) (h1 := q14.2) 28 1 tk_LR_readUnit rfl bb_LR_comparing vv_LR_comparing lk_4_47 (by show _ ≤ 47 + (d + 1); simp only [mv, m_LR_comparing]; omega) rfl rfl (Nat.le_of_ble_eq_true rfl) (s_LR_comparing Γ q14.1 q14.2) ?_
            show Ev Γ (m_LR_readUnit (d + 1)) 55 [some (vr 4 0 8), some (vr 1 0 1), some (vi a2), some (vi a3), some (vi q1.1), none] [vi (p_LR_comparing q14.1)] q14.2 r h'
            refine Ev.blk (pc' := 60) (lv' := [some (vr 4 0 8), some (vr 1 0 1), some (vi a2), some (vi a3), some (vi q1.1), some (vi (p_LR_comparing q14.1))]) (st' := [vi (ii (-1)), vi (p_LR_comparing q14.1)]) (h' := q14.2) 29 3 (Nat.le_of_ble_eq_true rfl) tk_LR_readUnit rfl rfl ⟨trivial, trivial, trivial, trivial⟩ ?_
            refine Ev.icmp_ne 32 65 tk_LR_readUnit rfl (by decide) (fun hc29 => ?_) (fun hc29 => ?_)
            · replace hx := ia hc29 hx
              refine Ev.blk (pc' := 78) (lv' := [some (vr 4 0 8), some (vr 1 0 1), some (vi a2), some (vi a3), some (vi q1.1), some (vi (p_LR_comparing q14.1))]) (st' := [vi a2, vr 1 0 1, vr 4 0 8]) (h' := (wI q14.2 1 2 ((q14.2.1 1 2) + (ii 1)))) 35 9 (Nat.le_of_ble_eq_true rfl) tk_LR_readUnit rfl rfl ⟨trivial, trivial, trivial, trivial, trivial, trivial, trivial, trivial, trivial, trivial⟩ ?_
              obtain ⟨q15, hq30, hx⟩ := bd hx
              refine Ev.callV (ν := (m_LR_readSum 40)) (av := [vr 1 0 1, vi a2]) (rest := []) (r1 := some (vi q15.1)) (h1 := q15.2) (ci := 4) (nn := 0) (o := 8) 44 2 tk_LR_readUnit rfl (bb_LR_readSum _) (vv_LR_readSum _) lk_4_43 (by show _ ≤ 47 + (d + 1); simp only [mv, m_LR_readSum]; omega) rfl rfl (Or.inl rfl) (Nat.le_of_ble_eq_true rfl) (t_LR_readSum Γ 40 a2 (wI q14.2 1 2 ((q14.2.1 1 2) + (ii 1))) _ hq30) ?_
              show Ev Γ (m_LR_readUnit (d + 1)) 81 [some (vr 4 0 8), some (vr 1 0 1), some (vi a2), some (vi a3), some (vi q1.1), some (vi (p_LR_comparing q14.1))] [vi q15.1] q15.2 r h'
              refine Ev.if_ne 45 86 tk_LR_readUnit rfl (by decide) (fun hc31 => ?_) (fun hc31 => ?_)
              · replace hx := ia hc31 hx
                refine Ev.blk (pc' := 92) (lv' := [some (vr 4 0 8), some (vr 1 0 1), some (vi a2), some (vi a3), some (vi q1.1), some (vi (p_LR_comparing q14.1))]) (st' := [vi (p_LR_comparing q14.1), vr 5 0 (q15.2.2.2 8 0)]) (h' := q15.2) 48 3 (Nat.le_of_ble_eq_true rfl) tk_LR_readUnit rfl rfl ⟨trivial, trivial, trivial, trivial⟩ ?_
                obtain ⟨q16, hq32, hx⟩ := bd hx
                refine Ev.callV (ν := m_Law_emit) (av := [vi (p_LR_comparing q14.1)]) (rest := []) (r1 := none) (h1 := q16) (ci := 5) (nn := 0) (o := (q15.2.2.2 8 0)) 51 1 tk_LR_readUnit rfl bb_Law_emit vv_Law_emit lk_4_31 (by show _ ≤ 47 + (d + 1); simp only [mv, m_Law_emit]; omega) rfl rfl (Or.inl rfl) (Nat.le_of_ble_eq_true rfl) (s_Law_emit Γ (q15.2.2.2 8 0) (p_LR_comparing q14.1) q15.2 _ hq32) ?_
                show Ev Γ (m_LR_readUnit (d + 1)) 95 [some (vr 4 0 8), some (vr 1 0 1), some (vi a2), some (vi a3), some (vi q1.1), some (vi (p_LR_comparing q14.1))] [] q16 r h'
                refine Ev.blk (pc' := 96) (lv' := [some (vr 4 0 8), some (vr 1 0 1), some (vi a2), some (vi a3), some (vi q1.1), some (vi (p_LR_comparing q14.1))]) (st' := [vi (ii 1)]) (h' := q16) 52 1 (Nat.le_of_ble_eq_true rfl) tk_LR_readUnit rfl rfl ⟨trivial, trivial⟩ ?_
                obtain rfl := Option.some.inj hx
                obtain ⟨rfl, rfl⟩ := hP
                exact Ev.zret 53 tk_LR_readUnit rfl rfl rfl
              · replace hx := ip hc31 hx
                refine Ev.blk (pc' := 85) (lv' := [some (vr 4 0 8), some (vr 1 0 1), some (vi a2), some (vi a3), some (vi q1.1), some (vi (p_LR_comparing q14.1))]) (st' := [vi (ii 0)]) (h' := q15.2) 46 1 (Nat.le_of_ble_eq_true rfl) tk_LR_readUnit rfl rfl ⟨trivial, trivial⟩ ?_
                obtain rfl := Option.some.inj hx
                obtain ⟨rfl, rfl⟩ := hP
                exact Ev.zret 47 tk_LR_readUnit rfl rfl rfl
            · replace hx := ip hc29 hx
              refine Ev.blk (pc' := 64) (lv' := [some (vr 4 0 8), some (vr 1 0 1), some (vi a2), some (vi a3), some (vi q1.1), some (vi (p_LR_comparing q14.1))]) (st' := [vi (ii 0)]) (h' := q14.2) 33 1 (Nat.le_of_ble_eq_true rfl) tk_LR_readUnit rfl rfl ⟨trivial, trivial⟩ ?_
              obtain rfl := Option.some.inj hx
              obtain ⟨rfl, rfl⟩ := hP
              exact Ev.zret 34 tk_LR_readUnit rfl rfl rfl
          · replace hx := ip hc27 hx
            refine Ev.blk (pc' := 47) (lv' := [some (vr 4 0 8), some (vr 1 0 1), some (vi a2), some (vi a3), some (vi q1.1), none]) (st' := [vi (ii 0)]) (h' := q13.2) 24 1 (Nat.le_of_ble_eq_true rfl) tk_LR_readUnit rfl rfl ⟨trivial, trivial⟩ ?_
            obtain rfl := Option.some.inj hx
            obtain ⟨rfl, rfl⟩ := hP
            exact Ev.zret 25 tk_LR_readUnit rfl rfl rfl
      · replace hx := ip hc19 hx
        refine Ev.blk (pc' := 29) (lv' := [some (vr 4 0 8), some (vr 1 0 1), some (vi a2), some (vi a3), some (vi q1.1), none]) (st' := [vi q1.1, vi a2, vr 1 0 1, vr 4 0 8]) (h' := q1.2) 11 4 (Nat.le_of_ble_eq_true rfl) tk_LR_readUnit rfl rfl ⟨trivial, trivial, trivial, trivial, trivial⟩ ?_
        obtain ⟨q17, hq33, hx⟩ := bd hx
        refine Ev.callV (ν := (m_LR_readNested d)) (av := [vr 1 0 1, vi a2, vi q1.1]) (rest := []) (r1 := some (vi q17.1)) (h1 := q17.2) (ci := 4) (nn := 0) (o := 8) 15 3 tk_LR_readUnit rfl (bb_LR_readNested _) (vv_LR_readNested _) lk_4_58 (Nat.le_refl _) rfl rfl (Or.inl rfl) (Nat.le_of_ble_eq_true rfl) (hrc2 a2 q1.1 q1.2 _ hq33) ?_
        show Ev Γ (m_LR_readUnit (d + 1)) 32 [some (vr 4 0 8), some (vr 1 0 1), some (vi a2), some (vi a3), some (vi q1.1), none] [vi q17.1] q17.2 r h'
        obtain ⟨hg34, hx⟩ := gd hx
        obtain rfl := Option.some.inj hx
        obtain ⟨rfl, rfl⟩ := hP
        exact Ev.zret 16 tk_LR_readUnit rfl rfl (nbool hg34)
set_option maxRecDepth 4000 in
theorem l_LR_readCondition_L18 (Γ : AG) (d : Nat) (rc : Nat → Int32 → Int32 → AH → Option (Int32 × AH)) (hrc0 : ∀ (b0 : Int32) (b1 : Int32) (h : AH) (x : Int32 × AH), rc 0 b0 b1 h = some x → MetA Γ (m_LR_readCondition d) [vr 4 0 8, vr 1 0 1, vi b0, vi b1] h (some (vi x.1)) x.2) (hrc1 : ∀ (b0 : Int32) (b1 : Int32) (h : AH) (x : Int32 × AH), rc 1 b0 b1 h = some x → MetA Γ (m_LR_readUnit d) [vr 4 0 8, vr 1 0 1, vi b0, vi b1] h (some (vi x.1)) x.2) (hrc2 : ∀ (b0 : Int32) (b1 : Int32) (h : AH) (x : Int32 × AH), rc 2 b0 b1 h = some x → MetA Γ (m_LR_readNested d) [vr 4 0 8, vr 1 0 1, vi b0, vi b1] h (some (vi x.1)) x.2) : ∀ (n : Nat) (v2 : Int32) (v4 : Int32) (v5 : Int32) (h : AH) (x : Int32 × AH), LR_readCondition_L18 rc n v2 v4 v5 h = some x → ∀ (r : Option AV) (h' : AH), r = some (vi x.1) ∧ h' = x.2 → Ev Γ (m_LR_readCondition (d + 1)) 18 [some (vr 4 0 8), some (vr 1 0 1), some (vi v2), none, some (vi v4), some (vi v5), none] [] h r h' := by
  intro n
  induction n with
  | zero => intro v2 v4 v5 h x hx; cases hx
  | succ n ih =>
    intro v2 v4 v5 h x hx r h' hP
    replace hx : LR_readCondition_L18_b rc (LR_readCondition_L18 rc n) v2 v4 v5 h = some x := hx
    unfold LR_readCondition_L18_b at hx
    refine Ev.blk (pc' := 23) (lv' := [some (vr 4 0 8), some (vr 1 0 1), some (vi v2), none, some (vi v4), some (vi v5), none]) (st' := [vi (ii 240), vi v5]) (h' := h) 12 2 (Nat.le_of_ble_eq_true rfl) tk_LR_readCondition rfl rfl ⟨trivial, trivial, trivial⟩ ?_
    refine Ev.icmp_gt 14 119 tk_LR_readCondition rfl (by decide) (fun hc1 => ?_) (fun hc1 => ?_)
    · replace hx := ip hc1 hx
      refine Ev.blk (pc' := 120) (lv' := [some (vr 4 0 8), some (vr 1 0 1), some (vi v2), none, some (vi v4), some (vi v5), none]) (st' := [vi (ii 0)]) (h' := h) 61 1 (Nat.le_of_ble_eq_true rfl) tk_LR_readCondition rfl rfl ⟨trivial, trivial⟩ ?_
      obtain rfl := Option.some.inj hx
      obtain ⟨rfl, rfl⟩ := hP
      exact Ev.zret 62 tk_LR_readCondition rfl rfl rfl
    · replace hx := ia hc1 hx
      refine Ev.blk (pc' := 27) (lv' := [some (vr 4 0 8), some (vr 1 0 1), some (vi v2), none, some (vi v4), some (vi v5), none]) (st' := [vr 1 0 1]) (h' := h) 15 1 (Nat.le_of_ble_eq_true rfl) tk_LR_readCondition rfl rfl ⟨trivial, trivial⟩ ?_
      obtain ⟨q1, hq2, hx⟩ := bd hx
      refine Ev.callV (ν := m_Tape_peek) (av := []) (rest := []) (r1 := some (vi q1.1)) (h1 := q1.2) (ci := 1) (nn := 0) (o := 1) 16 0 tk_LR_readCondition rfl bb_Tape_peek vv_Tape_peek lk_4_35 (by show _ ≤ 47 + (d + 1); simp only [mv, m_Tape_peek]; omega) rfl rfl (Or.inl rfl) (Nat.le_of_ble_eq_true rfl) (s_Tape_peek Γ h _ hq2) ?_
      show Ev Γ (m_LR_readCondition (d + 1)) 30 [some (vr 4 0 8), some (vr 1 0 1), some (vi v2), none, some (vi v4), some (vi v5), none] [vi q1.1] q1.2 r h'
      refine Ev.blk (pc' := 34) (lv' := [some (vr 4 0 8), some (vr 1 0 1), some (vi v2), none, some (vi v4), some (vi v5), some (vi q1.1)]) (st' := [vi v4]) (h' := q1.2) 17 2 (Nat.le_of_ble_eq_true rfl) tk_LR_readCondition rfl rfl ⟨trivial, trivial, trivial⟩ ?_
      obtain ⟨q3, hq3, hx⟩ := bd hx
      have K4 : Ev Γ (m_LR_readCondition (d + 1)) 53 [some (vr 4 0 8), some (vr 1 0 1), some (vi v2), none, some (vi v4), some (vi v5), some (vi q1.1)] [] q3 r h' := by
        refine Ev.blk (pc' := 57) (lv' := [some (vr 4 0 8), some (vr 1 0 1), some (vi v2), none, some (vi v4), some (vi v5), some (vi q1.1)]) (st' := [vi (ii 38), vi q1.1]) (h' := q3) 27 2 (Nat.le_of_ble_eq_true rfl) tk_LR_readCondition rfl rfl ⟨trivial, trivial, trivial⟩ ?_
        refine Ev.icmp_eq 29 69 tk_LR_readCondition rfl (by decide) (fun hc5 => ?_) (fun hc5 => ?_)
        · replace hx := ip hc5 hx
          refine Ev.blk (pc' := 83) (lv' := [some (vr 4 0 8), some (vr 1 0 1), some (vi v2), none, some (vi v4), some (vi v5), some (vi q1.1)]) (st' := [vi (ii 0), vi v2, vr 1 0 1, vr 4 0 8]) (h' := (wI q3 1 2 ((q3.1 1 2) + (ii 1)))) 35 10 (Nat.le_of_ble_eq_true rfl) tk_LR_readCondition rfl rfl ⟨trivial, trivial, trivial, trivial, trivial, trivial, trivial, trivial, trivial, trivial, trivial⟩ ?_
          obtain ⟨q4, hq6, hx⟩ := bd hx
          refine Ev.callV (ν := (m_LR_readUnit d)) (av := [vr 1 0 1, vi v2, vi (ii 0)]) (rest := []) (r1 := some (vi q4.1)) (h1 := q4.2) (ci := 4) (nn := 0) (o := 8) 45 3 tk_LR_readCondition rfl (bb_LR_readUnit _) (vv_LR_readUnit _) lk_4_55 (Nat.le_refl _) rfl rfl (Or.inl rfl) (Nat.le_of_ble_eq_true rfl) (hrc1 v2 (ii 0) (wI q3 1 2 ((q3.1 1 2) + (ii 1))) _ hq6) ?_
          show Ev Γ (m_LR_readCondition (d + 1)) 86 [some (vr 4 0 8), some (vr 1 0 1), some (vi v2), none, some (vi v4), some (vi v5), some (vi q1.1)] [vi q4.1] q4.2 r h'
          refine Ev.if_ne 46 91 tk_LR_readCondition rfl (by decide) (fun hc7 => ?_) (fun hc7 => ?_)
          · replace hx := ia hc7 hx
            refine Ev.blk (pc' := 95) (lv' := [some (vr 4 0 8), some (vr 1 0 1), some (vi v2), none, some (vi v4), some (vi v5), some (vi q1.1)]) (st' := [vi (ii 38), vi q1.1]) (h' := q4.2) 49 2 (Nat.le_of_ble_eq_true rfl) tk_LR_readCondition rfl rfl ⟨trivial, trivial, trivial⟩ ?_
            obtain ⟨q6, hq8, hx⟩ := bd hx
            have K9 : Ev Γ (m_LR_readCondition (d + 1)) 113 [some (vr 4 0 8), some (vr 1 0 1), some (vi v2), none, some (vi q6.1), some (vi v5), none] [] q6.2 r h' := by
              refine Ev.blk (pc' := 18) (lv' := [some (vr 4 0 8), some (vr 1 0 1), some (vi v2), none, some (vi q6.1), some (vi (v5 + ii 1)), none]) (st' := []) (h' := q6.2) 59 2 (Nat.le_of_ble_eq_true rfl) tk_LR_readCondition rfl rfl ⟨trivial, trivial, trivial⟩ ?_
              exact Ev.msk [true, true, true, false, true, true, false] (ih v2 q6.1 (v5 + ii 1) q6.2 _ hx r h' hP)
            clear hx
            refine Ev.icmp_ne 51 110 tk_LR_readCondition rfl (by decide) (fun hc10 => ?_) (fun hc10 => ?_)
            · replace hq8 := ia hc10 hq8
              refine Ev.blk (pc' := 113) (lv' := [some (vr 4 0 8), some (vr 1 0 1), some (vi v2), none, some (vi (ii 1)), some (vi v5), some (vi q1.1)]) (st' := []) (h' := q4.2) 57 2 (Nat.le_of_ble_eq_true rfl) tk_LR_readCondition rfl rfl ⟨trivial, trivial, trivial⟩ ?_
              obtain rfl := Option.some.inj hq8
              exact Ev.msk [true, true, true, false, true, true, false] K9
            · replace hq8 := ip hc10 hq8
              refine Ev.blk (pc' := 104) (lv' := [some (vr 4 0 8), some (vr 1 0 1), some (vi v2), none, some (vi v4), some (vi v5), some (vi q1.1)]) (st' := [vi (ii (-14)), vr 5 0 (q4.2.2.2 8 0)]) (h' := q4.2) 52 3 (Nat.le_of_ble_eq_true rfl) tk_LR_readCondition rfl rfl ⟨trivial, trivial, trivial, trivial⟩ ?_
              obtain ⟨q5, hq11, hq8⟩ := bd hq8
              refine Ev.callV (ν := m_Law_emit) (av := [vi (ii (-14))]) (rest := []) (r1 := none) (h1 := q5) (ci := 5) (nn := 0) (o := (q4.2.2.2 8 0)) 55 1 tk_LR_readCondition rfl bb_Law_emit vv_Law_emit lk_4_31 (by show _ ≤ 47 + (d + 1); simp only [mv, m_Law_emit]; omega) rfl rfl (Or.inl rfl) (Nat.le_of_ble_eq_true rfl) (s_Law_emit Γ (q4.2.2.2 8 0) (ii (-14)) q4.2 _ hq11) ?_
              show Ev Γ (m_LR_readCondition (d + 1)) 107 [some (vr 4 0 8), some (vr 1 0 1), some (vi v2), none, some (vi v4), some (vi v5), some (vi q1.1)] [] q5 r h'
              refine Ev.blk (pc' := 113) (lv' := [some (vr 4 0 8), some (vr 1 0 1), some (vi v2), none, some (vi v4), some (vi v5), some (vi q1.1)]) (st' := []) (h' := q5) 56 1 (Nat.le_of_ble_eq_true rfl) tk_LR_readCondition rfl rfl ⟨trivial, trivial⟩ ?_
              obtain rfl := Option.some.inj hq8
              exact Ev.msk [true, true, true, false, true, true, false] K9
          · replace hx := ip hc7 hx
            refine Ev.blk (pc' := 90) (lv' := [some (vr 4 0 8), some (vr 1 0 1), some (vi v2), none, some (vi v4), some (vi v5), some (vi q1.1)]) (st' := [vi (ii 0)]) (h' := q4.2) 47 1 (Nat.le_of_ble_eq_true rfl) tk_LR_readCondition rfl rfl ⟨trivial, trivial⟩ ?_
            obtain rfl := Option.some.inj hx
            obtain ⟨rfl, rfl⟩ := hP
            exact Ev.zret 48 tk_LR_readCondition rfl rfl rfl
        · replace hx := ia hc5 hx
          refine Ev.blk (pc' := 64) (lv' := [some (vr 4 0 8), some (vr 1 0 1), some (vi v2), none, some (vi v4), some (vi v5), some (vi q1.1)]) (st' := [vi (ii 124), vi q1.1]) (h' := q3) 30 2 (Nat.le_of_ble_eq_true rfl) tk_LR_readCondition rfl rfl ⟨trivial, trivial, trivial⟩ ?_
          refine Ev.icmp_eq 32 69 tk_LR_readCondition rfl (by decide) (fun hc12 => ?_) (fun hc12 => ?_)
          · replace hx := ip hc12 hx
            refine Ev.blk (pc' := 83) (lv' := [some (vr 4 0 8), some (vr 1 0 1), some (vi v2), none, some (vi v4), some (vi v5), some (vi q1.1)]) (st' := [vi (ii 0), vi v2, vr 1 0 1, vr 4 0 8]) (h' := (wI q3 1 2 ((q3.1 1 2) + (ii 1)))) 35 10 (Nat.le_of_ble_eq_true rfl) tk_LR_readCondition rfl rfl ⟨trivial, trivial, trivial, trivial, trivial, trivial, trivial, trivial, trivial, trivial, trivial⟩ ?_
            obtain ⟨q7, hq13, hx⟩ := bd hx
            refine Ev.callV (ν := (m_LR_readUnit d)) (av := [vr 1 0 1, vi v2, vi (ii 0)]) (rest := []) (r1 := some (vi q7.1)) (h1 := q7.2) (ci := 4) (nn := 0) (o := 8) 45 3 tk_LR_readCondition rfl (bb_LR_readUnit _) (vv_LR_readUnit _) lk_4_55 (Nat.le_refl _) rfl rfl (Or.inl rfl) (Nat.le_of_ble_eq_true rfl) (hrc1 v2 (ii 0) (wI q3 1 2 ((q3.1 1 2) + (ii 1))) _ hq13) ?_
            show Ev Γ (m_LR_readCondition (d + 1)) 86 [some (vr 4 0 8), some (vr 1 0 1), some (vi v2), none, some (vi v4), some (vi v5), some (vi q1.1)] [vi q7.1] q7.2 r h'
            refine Ev.if_ne 46 91 tk_LR_readCondition rfl (by decide) (fun hc14 => ?_) (fun hc14 => ?_)
            · replace hx := ia hc14 hx
              refine Ev.blk (pc' := 95) (lv' := [some (vr 4 0 8), some (vr 1 0 1), some (vi v2), none, some (vi v4), some (vi v5), some (vi q1.1)]) (st' := [vi (ii 38), vi q1.1]) (h' := q7.2) 49 2 (Nat.le_of_ble_eq_true rfl) tk_LR_readCondition rfl rfl ⟨trivial, trivial, trivial⟩ ?_
              obtain ⟨q9, hq15, hx⟩ := bd hx
              have K16 : Ev Γ (m_LR_readCondition (d + 1)) 113 [some (vr 4 0 8), some (vr 1 0 1), some (vi v2), none, some (vi q9.1), some (vi v5), none] [] q9.2 r h' := by
                refine Ev.blk (pc' := 18) (lv' := [some (vr 4 0 8), some (vr 1 0 1), some (vi v2), none, some (vi q9.1), some (vi (v5 + ii 1)), none]) (st' := []) (h' := q9.2) 59 2 (Nat.le_of_ble_eq_true rfl) tk_LR_readCondition rfl rfl ⟨trivial, trivial, trivial⟩ ?_
                exact Ev.msk [true, true, true, false, true, true, false] (ih v2 q9.1 (v5 + ii 1) q9.2 _ hx r h' hP)
              clear hx
              refine Ev.icmp_ne 51 110 tk_LR_readCondition rfl (by decide) (fun hc17 => ?_) (fun hc17 => ?_)
              · replace hq15 := ia hc17 hq15
                refine Ev.blk (pc' := 113) (lv' := [some (vr 4 0 8), some (vr 1 0 1), some (vi v2), none, some (vi (ii 1)), some (vi v5), some (vi q1.1)]) (st' := []) (h' := q7.2) 57 2 (Nat.le_of_ble_eq_true rfl) tk_LR_readCondition rfl rfl ⟨trivial, trivial, trivial⟩ ?_
                obtain rfl := Option.some.inj hq15
                exact Ev.msk [true, true, true, false, true, true, false] K16
              · replace hq15 := ip hc17 hq15
                refine Ev.blk (pc' := 104) (lv' := [some (vr 4 0 8), some (vr 1 0 1), some (vi v2), none, some (vi v4), some (vi v5), some (vi q1.1)]) (st' := [vi (ii (-14)), vr 5 0 (q7.2.2.2 8 0)]) (h' := q7.2) 52 3 (Nat.le_of_ble_eq_true rfl) tk_LR_readCondition rfl rfl ⟨trivial, trivial, trivial, trivial⟩ ?_
                obtain ⟨q8, hq18, hq15⟩ := bd hq15
                refine Ev.callV (ν := m_Law_emit) (av := [vi (ii (-14))]) (rest := []) (r1 := none) (h1 := q8) (ci := 5) (nn := 0) (o := (q7.2.2.2 8 0)) 55 1 tk_LR_readCondition rfl bb_Law_emit vv_Law_emit lk_4_31 (by show _ ≤ 47 + (d + 1); simp only [mv, m_Law_emit]; omega) rfl rfl (Or.inl rfl) (Nat.le_of_ble_eq_true rfl) (s_Law_emit Γ (q7.2.2.2 8 0) (ii (-14)) q7.2 _ hq18) ?_
                show Ev Γ (m_LR_readCondition (d + 1)) 107 [some (vr 4 0 8), some (vr 1 0 1), some (vi v2), none, some (vi v4), some (vi v5), some (vi q1.1)] [] q8 r h'
                refine Ev.blk (pc' := 113) (lv' := [some (vr 4 0 8), some (vr 1 0 1), some (vi v2), none, some (vi v4), some (vi v5), some (vi q1.1)]) (st' := []) (h' := q8) 56 1 (Nat.le_of_ble_eq_true rfl) tk_LR_readCondition rfl rfl ⟨trivial, trivial⟩ ?_
                obtain rfl := Option.some.inj hq15
                exact Ev.msk [true, true, true, false, true, true, false] K16
            · replace hx := ip hc14 hx
              refine Ev.blk (pc' := 90) (lv' := [some (vr 4 0 8), some (vr 1 0 1), some (vi v2), none, some (vi v4), some (vi v5), some (vi q1.1)]) (st' := [vi (ii 0)]) (h' := q7.2) 47 1 (Nat.le_of_ble_eq_true rfl) tk_LR_readCondition rfl rfl ⟨trivial, trivial⟩ ?_
              obtain rfl := Option.some.inj hx
              obtain ⟨rfl, rfl⟩ := hP
              exact Ev.zret 48 tk_LR_readCondition rfl rfl rfl
          · replace hx := ia hc12 hx
            refine Ev.blk (pc' := 68) (lv' := [some (vr 4 0 8), some (vr 1 0 1), some (vi v2), none, some (vi v4), some (vi v5), some (vi q1.1)]) (st' := [vi (ii 1)]) (h' := q3) 33 1 (Nat.le_of_ble_eq_true rfl) tk_LR_readCondition rfl rfl ⟨trivial, trivial⟩ ?_
            obtain rfl := Option.some.inj hx
            obtain ⟨rfl, rfl⟩ := hP
            exact Ev.zret 34 tk_LR_readCondition rfl rfl rfl
      clear hx
      refine Ev.if_eq 19 53 tk_LR_readCondition rfl (by decide) (fun hc19 => ?_) (fun hc19 => ?_)
      · replace hq3 := ip hc19 hq3
        obtain rfl := Option.some.inj hq3
        exact Ev.msk [true, true, true, false, true, true, true] K4
      · replace hq3 := ia hc19 hq3
        refine Ev.blk (pc' := 41) (lv' := [some (vr 4 0 8), some (vr 1 0 1), some (vi v2), none, some (vi v4), some (vi v5), some (vi q1.1)]) (st' := [vi (ii 38), vi q1.1]) (h' := q1.2) 20 2 (Nat.le_of_ble_eq_true rfl) tk_LR_readCondition rfl rfl ⟨trivial, trivial, trivial⟩ ?_
        refine Ev.icmp_eq 22 53 tk_LR_readCondition rfl (by decide) (fun hc20 => ?_) (fun hc20 => ?_)
        · replace hq3 := ip hc20 hq3
          obtain rfl := Option.some.inj hq3
          exact Ev.msk [true, true, true, false, true, true, true] K4
        · replace hq3 := ia hc20 hq3
          refine Ev.blk (pc' := 50) (lv' := [some (vr 4 0 8), some (vr 1 0 1), some (vi v2), none, some (vi v4), some (vi v5), some (vi q1.1)]) (st' := [vi (ii (-15)), vr 5 0 (q1.2.2.2 8 0)]) (h' := q1.2) 23 3 (Nat.le_of_ble_eq_true rfl) tk_LR_readCondition rfl rfl ⟨trivial, trivial, trivial, trivial⟩ ?_
          obtain ⟨q2, hq21, hq3⟩ := bd hq3
          refine Ev.callV (ν := m_Law_emit) (av := [vi (ii (-15))]) (rest := []) (r1 := none) (h1 := q2) (ci := 5) (nn := 0) (o := (q1.2.2.2 8 0)) 26 1 tk_LR_readCondition rfl bb_Law_emit vv_Law_emit lk_4_31 (by show _ ≤ 47 + (d + 1); simp only [mv, m_Law_emit]; omega) rfl rfl (Or.inl rfl) (Nat.le_of_ble_eq_true rfl) (s_Law_emit Γ (q1.2.2.2 8 0) (ii (-15)) q1.2 _ hq21) ?_
          show Ev Γ (m_LR_readCondition (d + 1)) 53 [some (vr 4 0 8), some (vr 1 0 1), some (vi v2), none, some (vi v4), some (vi v5), some (vi q1.1)] [] q2 r h'
          obtain rfl := Option.some.inj hq3
          exact Ev.msk [true, true, true, false, true, true, true] K4
set_option maxRecDepth 4000 in
theorem u_LR_readCondition_ok (Γ : AG) (d : Nat) (rc : Nat → Int32 → Int32 → AH → Option (Int32 × AH)) (hrc0 : ∀ (b0 : Int32) (b1 : Int32) (h : AH) (x : Int32 × AH), rc 0 b0 b1 h = some x → MetA Γ (m_LR_readCondition d) [vr 4 0 8, vr 1 0 1, vi b0, vi b1] h (some (vi x.1)) x.2) (hrc1 : ∀ (b0 : Int32) (b1 : Int32) (h : AH) (x : Int32 × AH), rc 1 b0 b1 h = some x → MetA Γ (m_LR_readUnit d) [vr 4 0 8, vr 1 0 1, vi b0, vi b1] h (some (vi x.1)) x.2) (hrc2 : ∀ (b0 : Int32) (b1 : Int32) (h : AH) (x : Int32 × AH), rc 2 b0 b1 h = some x → MetA Γ (m_LR_readNested d) [vr 4 0 8, vr 1 0 1, vi b0, vi b1] h (some (vi x.1)) x.2) (a2 : Int32) (a3 : Int32) (h : AH) (x : Int32 × AH) (hx : u_LR_readCondition rc a2 a3 h = some x) : MetA Γ (m_LR_readCondition (d + 1)) [vr 4 0 8, vr 1 0 1, vi a2, vi a3] h (some (vi x.1)) x.2 := by
  refine Ev.met rfl rfl (Nat.le_of_ble_eq_true rfl) ?_
  show Ev Γ (m_LR_readCondition (d + 1)) 0 [some (vr 4 0 8), some (vr 1 0 1), some (vi a2), some (vi a3), none, none, none] [] h _ _
  obtain ⟨r, hr⟩ : ∃ r : Option AV, r = some (vi x.1) := ⟨_, rfl⟩
  obtain ⟨h', hh⟩ : ∃ h' : AH, h' = x.2 := ⟨_, rfl⟩
  have hP : r = some (vi x.1) ∧ h' = x.2 := ⟨hr, hh⟩
  suffices hS : Ev Γ (m_LR_readCondition (d + 1)) 0 [some (vr 4 0 8), some (vr 1 0 1), some (vi a2), some (vi a3), none, none, none] [] h r h' by rw [hr, hh] at hS; exact hS
  clear hr hh
  unfold u_LR_readCondition at hx
  refine Ev.blk (pc' := 4) (lv' := [some (vr 4 0 8), some (vr 1 0 1), some (vi a2), some (vi a3), none, none, none]) (st' := [vi a3, vi a2, vr 1 0 1, vr 4 0 8]) (h' := h) 0 4 (Nat.le_of_ble_eq_true rfl) tk_LR_readCondition rfl rfl ⟨trivial, trivial, trivial, trivial, trivial⟩ ?_
  obtain ⟨q1, hq1, hx⟩ := bd hx
  refine Ev.callV (ν := (m_LR_readUnit d)) (av := [vr 1 0 1, vi a2, vi a3]) (rest := []) (r1 := some (vi q1.1)) (h1 := q1.2) (ci := 4) (nn := 0) (o := 8) 4 3 tk_LR_readCondition rfl (bb_LR_readUnit _) (vv_LR_readUnit _) lk_4_55 (Nat.le_refl _) rfl rfl (Or.inl rfl) (Nat.le_of_ble_eq_true rfl) (hrc1 a2 a3 h _ hq1) ?_
  show Ev Γ (m_LR_readCondition (d + 1)) 7 [some (vr 4 0 8), some (vr 1 0 1), some (vi a2), some (vi a3), none, none, none] [vi q1.1] q1.2 r h'
  refine Ev.if_ne 5 12 tk_LR_readCondition rfl (by decide) (fun hc2 => ?_) (fun hc2 => ?_)
  · replace hx := ia hc2 hx
    refine Ev.blk (pc' := 18) (lv' := [some (vr 4 0 8), some (vr 1 0 1), some (vi a2), some (vi a3), some (vi (ii 0)), some (vi (ii 0)), none]) (st' := []) (h' := q1.2) 8 4 (Nat.le_of_ble_eq_true rfl) tk_LR_readCondition rfl rfl ⟨trivial, trivial, trivial, trivial, trivial⟩ ?_
    refine Ev.msk [true, true, true, false, true, true, false] ?_
    show Ev Γ (m_LR_readCondition (d + 1)) 18 [some (vr 4 0 8), some (vr 1 0 1), some (vi a2), none, some (vi (ii 0)), some (vi (ii 0)), none] [] q1.2 r h'
    exact l_LR_readCondition_L18 Γ d rc hrc0 hrc1 hrc2 FU a2 (ii 0) (ii 0) q1.2 _ hx r h' hP
  · replace hx := ip hc2 hx
    refine Ev.blk (pc' := 11) (lv' := [some (vr 4 0 8), some (vr 1 0 1), some (vi a2), some (vi a3), none, none, none]) (st' := [vi (ii 0)]) (h' := q1.2) 6 1 (Nat.le_of_ble_eq_true rfl) tk_LR_readCondition rfl rfl ⟨trivial, trivial⟩ ?_
    obtain rfl := Option.some.inj hx
    obtain ⟨rfl, rfl⟩ := hP
    exact Ev.zret 7 tk_LR_readCondition rfl rfl rfl
theorem gg1 (Γ : AG) : ∀ d : Nat, (∀ (b0 : Int32) (b1 : Int32) (h : AH) (x : Int32 × AH), g1 d 0 b0 b1 h = some x → MetA Γ (m_LR_readCondition d) [vr 4 0 8, vr 1 0 1, vi b0, vi b1] h (some (vi x.1)) x.2) ∧ (∀ (b0 : Int32) (b1 : Int32) (h : AH) (x : Int32 × AH), g1 d 1 b0 b1 h = some x → MetA Γ (m_LR_readUnit d) [vr 4 0 8, vr 1 0 1, vi b0, vi b1] h (some (vi x.1)) x.2) ∧ (∀ (b0 : Int32) (b1 : Int32) (h : AH) (x : Int32 × AH), g1 d 2 b0 b1 h = some x → MetA Γ (m_LR_readNested d) [vr 4 0 8, vr 1 0 1, vi b0, vi b1] h (some (vi x.1)) x.2) := by
  intro d
  induction d with
  | zero => exact ⟨fun b0 b1 h x hx => (by cases hx), fun b0 b1 h x hx => (by cases hx), fun b0 b1 h x hx => (by cases hx)⟩
  | succ d ih =>
    obtain ⟨i0, i1, i2⟩ := ih
    exact ⟨fun b0 b1 h x hx => u_LR_readCondition_ok Γ d (g1 d) i0 i1 i2 b0 b1 h x hx, fun b0 b1 h x hx => u_LR_readUnit_ok Γ d (g1 d) i0 i1 i2 b0 b1 h x hx, fun b0 b1 h x hx => u_LR_readNested_ok Γ d (g1 d) i0 i1 i2 b0 b1 h x hx⟩
theorem t_LR_readCondition (Γ : AG) (d : Nat) (b0 : Int32) (b1 : Int32) (h : AH) (x : Int32 × AH) (hx : g1 d 0 b0 b1 h = some x) : MetA Γ (m_LR_readCondition d) [vr 4 0 8, vr 1 0 1, vi b0, vi b1] h (some (vi x.1)) x.2 := (gg1 Γ d).1 b0 b1 h x hx
theorem t_LR_readUnit (Γ : AG) (d : Nat) (b0 : Int32) (b1 : Int32) (h : AH) (x : Int32 × AH) (hx : g1 d 1 b0 b1 h = some x) : MetA Γ (m_LR_readUnit d) [vr 4 0 8, vr 1 0 1, vi b0, vi b1] h (some (vi x.1)) x.2 := (gg1 Γ d).2.1 b0 b1 h x hx
theorem t_LR_readNested (Γ : AG) (d : Nat) (b0 : Int32) (b1 : Int32) (h : AH) (x : Int32 × AH) (hx : g1 d 2 b0 b1 h = some x) : MetA Γ (m_LR_readNested d) [vr 4 0 8, vr 1 0 1, vi b0, vi b1] h (some (vi x.1)) x.2 := (gg1 Γ d).2.2 b0 b1 h x hx
