set_option maxRecDepth 4000 in
theorem l_Law_worth_L9 (Γ : AG) : ∀ (n : Nat) (o0 : Nat) (n1 : Nat) (o1 : Nat) (v2 : Int32) (v3 : Int32) (h : AH) (x : Int32 × AH), Law_worth_L9 n o0 n1 o1 v2 v3 h = some x → ∀ (r : Option AV) (h' : AH), r = some (vi x.1) ∧ h' = x.2 → Ev Γ m_Law_worth 9 [some (vr 5 0 o0), some (vr 20 n1 o1), some (vi v2), some (vi v3), none] [] h r h' := by
  intro n
  induction n with
  | zero => intro o0 n1 o1 v2 v3 h x hx; cases hx
  | succ n ih =>
    intro o0 n1 o1 v2 v3 h x hx r h' hP
    replace hx : Law_worth_L9_b (Law_worth_L9 n) o0 n1 o1 v2 v3 h = some x := hx
    unfold Law_worth_L9_b at hx
    refine Ev.blk (pc' := 14) (lv' := [some (vr 5 0 o0), some (vr 20 n1 o1), some (vi v2), some (vi v3), none]) (st' := [vi (h.1 o0 2), vi v3]) (h' := h) 7 3 (Nat.le_of_ble_eq_true rfl) tk_Law_worth rfl rfl ⟨trivial, trivial, trivial, trivial⟩ ?_
    refine Ev.icmp_ge 10 95 tk_Law_worth rfl (by decide) (fun hc1 => ?_) (fun hc1 => ?_)
    · replace hx := ip hc1 hx
      refine Ev.blk (pc' := 96) (lv' := [some (vr 5 0 o0), some (vr 20 n1 o1), some (vi v2), some (vi v3), none]) (st' := [vi (ii 0)]) (h' := h) 51 1 (Nat.le_of_ble_eq_true rfl) tk_Law_worth rfl rfl ⟨trivial, trivial⟩ ?_
      obtain rfl := Option.some.inj hx
      obtain ⟨rfl, rfl⟩ := hP
      exact Ev.iret 52 tk_Law_worth rfl rfl
    · replace hx := ia hc1 hx
      refine Ev.blk (pc' := 23) (lv' := [some (vr 5 0 o0), some (vr 20 n1 o1), some (vi v2), some (vi v3), none]) (st' := [vi (ii (240 : Int)), vi v3]) (h' := h) 11 4 (Nat.le_of_ble_eq_true rfl) tk_Law_worth rfl rfl ⟨trivial, trivial, trivial, trivial, trivial⟩ ?_
      refine Ev.icmp_ge 15 95 tk_Law_worth rfl (by decide) (fun hc2 => ?_) (fun hc2 => ?_)
      · replace hx := ip hc2 hx
        refine Ev.blk (pc' := 96) (lv' := [some (vr 5 0 o0), some (vr 20 n1 o1), some (vi v2), some (vi v3), none]) (st' := [vi (ii 0)]) (h' := h) 51 1 (Nat.le_of_ble_eq_true rfl) tk_Law_worth rfl rfl ⟨trivial, trivial⟩ ?_
        obtain rfl := Option.some.inj hx
        obtain ⟨rfl, rfl⟩ := hP
        exact Ev.iret 52 tk_Law_worth rfl rfl
      · replace hx := ia hc2 hx
        obtain ⟨hg3, hx⟩ := gd hx
        refine Ev.blk (pc' := 38) (lv' := [some (vr 5 0 o0), some (vr 20 n1 o1), some (vi v2), some (vi v3), some (vi (h.1 (o0 + 1) (v3).toNatClampNeg))]) (st' := [vi (ii (-18)), vi (h.1 (o0 + 1) (v3).toNatClampNeg)]) (h' := h) 16 7 (Nat.le_of_ble_eq_true rfl) tk_Law_worth rfl rfl ⟨trivial, trivial, trivial, hg3, trivial, trivial, trivial, trivial⟩ ?_
        refine Ev.icmp_ne 23 55 tk_Law_worth rfl (by decide) (fun hc4 => ?_) (fun hc4 => ?_)
        · replace hx := ia hc4 hx
          refine Ev.blk (pc' := 59) (lv' := [some (vr 5 0 o0), some (vr 20 n1 o1), some (vi v2), some (vi v3), some (vi (h.1 (o0 + 1) (v3).toNatClampNeg))]) (st' := [vi (ii (-17)), vi (h.1 (o0 + 1) (v3).toNatClampNeg)]) (h' := h) 32 2 (Nat.le_of_ble_eq_true rfl) tk_Law_worth rfl rfl ⟨trivial, trivial, trivial⟩ ?_
          obtain ⟨q3, hq5, hx⟩ := bd hx
          have K6 : Ev Γ m_Law_worth 89 [some (vr 5 0 o0), some (vr 20 n1 o1), some (vi q3.1), some (vi v3), none] [] q3.2 r h' := by
            refine Ev.blk (pc' := 9) (lv' := [some (vr 5 0 o0), some (vr 20 n1 o1), some (vi q3.1), some (vi (v3 + ii 1)), none]) (st' := []) (h' := q3.2) 49 2 (Nat.le_of_ble_eq_true rfl) tk_Law_worth rfl rfl ⟨trivial, trivial, trivial⟩ ?_
            exact Ev.msk [true, true, true, true, false] (ih o0 n1 o1 q3.1 (v3 + ii 1) q3.2 _ hx r h' hP)
          clear hx
          refine Ev.icmp_ne 34 78 tk_Law_worth rfl (by decide) (fun hc7 => ?_) (fun hc7 => ?_)
          · replace hq5 := ia hc7 hq5
            refine Ev.blk (pc' := 79) (lv' := [some (vr 5 0 o0), some (vr 20 n1 o1), some (vi v2), some (vi v3), some (vi (h.1 (o0 + 1) (v3).toNatClampNeg))]) (st' := [vi v2]) (h' := h) 43 1 (Nat.le_of_ble_eq_true rfl) tk_Law_worth rfl rfl ⟨trivial, trivial⟩ ?_
            refine Ev.if_ne 44 89 tk_Law_worth rfl (by decide) (fun hc8 => ?_) (fun hc8 => ?_)
            · replace hq5 := ia hc8 hq5
              obtain rfl := Option.some.inj hq5
              exact Ev.msk [true, true, true, true, false] K6
            · replace hq5 := ip hc8 hq5
              refine Ev.blk (pc' := 86) (lv' := [some (vr 5 0 o0), some (vr 20 n1 o1), some (vi v2), some (vi v3), some (vi (h.1 (o0 + 1) (v3).toNatClampNeg))]) (st' := [vr 20 n1 o1, vi (h.1 (o0 + 1) (v3).toNatClampNeg), vr 5 0 o0]) (h' := h) 45 3 (Nat.le_of_ble_eq_true rfl) tk_Law_worth rfl rfl ⟨trivial, trivial, trivial, trivial⟩ ?_
              obtain ⟨q1, hq9, hq5⟩ := bd hq5
              refine Ev.callV (ν := m_Law_obey) (av := [vi (h.1 (o0 + 1) (v3).toNatClampNeg), vr 20 n1 o1]) (rest := []) (r1 := none) (h1 := q1) (ci := 5) (nn := 0) (o := o0) 48 2 tk_Law_worth rfl bb_Law_obey vv_Law_obey lk_5_29 (by decide) rfl rfl (Or.inl rfl) (Nat.le_of_ble_eq_true rfl) (s_Law_obey Γ o0 (h.1 (o0 + 1) (v3).toNatClampNeg) n1 o1 h _ hq9) ?_
              show Ev Γ m_Law_worth 89 [some (vr 5 0 o0), some (vr 20 n1 o1), some (vi v2), some (vi v3), some (vi (h.1 (o0 + 1) (v3).toNatClampNeg))] [] q1 r h'
              obtain rfl := Option.some.inj hq5
              exact Ev.msk [true, true, true, true, false] K6
          · replace hq5 := ip hc7 hq5
            refine Ev.blk (pc' := 63) (lv' := [some (vr 5 0 o0), some (vr 20 n1 o1), some (vi v2), some (vi v3), some (vi (h.1 (o0 + 1) (v3).toNatClampNeg))]) (st' := [vr 5 0 o0]) (h' := h) 35 1 (Nat.le_of_ble_eq_true rfl) tk_Law_worth rfl rfl ⟨trivial, trivial⟩ ?_
            obtain ⟨q2, hq10, hq5⟩ := bd hq5
            refine Ev.callV (ν := m_Law_pop) (av := []) (rest := []) (r1 := some (vi q2.1)) (h1 := q2.2) (ci := 5) (nn := 0) (o := o0) 36 0 tk_Law_worth rfl bb_Law_pop vv_Law_pop lk_5_25 (by decide) rfl rfl (Or.inl rfl) (Nat.le_of_ble_eq_true rfl) (s_Law_pop Γ o0 h _ hq10) ?_
            show Ev Γ m_Law_worth 66 [some (vr 5 0 o0), some (vr 20 n1 o1), some (vi v2), some (vi v3), some (vi (h.1 (o0 + 1) (v3).toNatClampNeg))] [vi q2.1] q2.2 r h'
            have K11 : ∀ v11_0 : Int32, v11_0 = (if q2.1 = 0 then (ii 1) else (ii 0)) → Ev Γ m_Law_worth 74 [some (vr 5 0 o0), some (vr 20 n1 o1), none, some (vi v3), none] [vi v11_0] q2.2 r h' := by
              intro v11_0 e12
              subst e12
              refine Ev.blk (pc' := 89) (lv' := [some (vr 5 0 o0), some (vr 20 n1 o1), some (vi (if q2.1 = 0 then (ii 1) else (ii 0))), some (vi v3), none]) (st' := []) (h' := q2.2) 41 2 (Nat.le_of_ble_eq_true rfl) tk_Law_worth rfl rfl ⟨trivial, trivial, trivial⟩ ?_
              obtain rfl := Option.some.inj hq5
              exact Ev.msk [true, true, true, true, false] K6
            refine Ev.if_ne 37 73 tk_Law_worth rfl (by decide) (fun hc13 => ?_) (fun hc13 => ?_)
            · refine Ev.blk (pc' := 74) (lv' := [some (vr 5 0 o0), some (vr 20 n1 o1), some (vi v2), some (vi v3), some (vi (h.1 (o0 + 1) (v3).toNatClampNeg))]) (st' := [vi (ii 0)]) (h' := q2.2) 40 1 (Nat.le_of_ble_eq_true rfl) tk_Law_worth rfl rfl ⟨trivial, trivial⟩ ?_
              exact Ev.msk [true, true, false, true, false] (K11 _ (by first | rfl | simp only [if_neg hc13]))
            · refine Ev.blk (pc' := 74) (lv' := [some (vr 5 0 o0), some (vr 20 n1 o1), some (vi v2), some (vi v3), some (vi (h.1 (o0 + 1) (v3).toNatClampNeg))]) (st' := [vi (ii 1)]) (h' := q2.2) 38 2 (Nat.le_of_ble_eq_true rfl) tk_Law_worth rfl rfl ⟨trivial, trivial, trivial⟩ ?_
              exact Ev.msk [true, true, false, true, false] (K11 _ (by first | rfl | simp only [if_pos hc13]))
        · replace hx := ip hc4 hx
          refine Ev.blk (pc' := 42) (lv' := [some (vr 5 0 o0), some (vr 20 n1 o1), some (vi v2), some (vi v3), some (vi (h.1 (o0 + 1) (v3).toNatClampNeg))]) (st' := [vi v2]) (h' := h) 24 1 (Nat.le_of_ble_eq_true rfl) tk_Law_worth rfl rfl ⟨trivial, trivial⟩ ?_
          refine Ev.if_ne 25 50 tk_Law_worth rfl (by decide) (fun hc14 => ?_) (fun hc14 => ?_)
          · replace hx := ia hc14 hx
            refine Ev.blk (pc' := 89) (lv' := [some (vr 5 0 o0), some (vr 20 n1 o1), some (vi (ii 0)), some (vi v3), some (vi (h.1 (o0 + 1) (v3).toNatClampNeg))]) (st' := []) (h' := h) 29 3 (Nat.le_of_ble_eq_true rfl) tk_Law_worth rfl rfl ⟨trivial, trivial, trivial, trivial⟩ ?_
            refine Ev.blk (pc' := 9) (lv' := [some (vr 5 0 o0), some (vr 20 n1 o1), some (vi (ii 0)), some (vi (v3 + ii 1)), some (vi (h.1 (o0 + 1) (v3).toNatClampNeg))]) (st' := []) (h' := h) 49 2 (Nat.le_of_ble_eq_true rfl) tk_Law_worth rfl rfl ⟨trivial, trivial, trivial⟩ ?_
            exact Ev.msk [true, true, true, true, false] (ih o0 n1 o1 (ii 0) (v3 + ii 1) h _ hx r h' hP)
          · replace hx := ip hc14 hx
            refine Ev.blk (pc' := 46) (lv' := [some (vr 5 0 o0), some (vr 20 n1 o1), some (vi v2), some (vi v3), some (vi (h.1 (o0 + 1) (v3).toNatClampNeg))]) (st' := [vr 5 0 o0]) (h' := h) 26 1 (Nat.le_of_ble_eq_true rfl) tk_Law_worth rfl rfl ⟨trivial, trivial⟩ ?_
            obtain ⟨q4, hq15, hx⟩ := bd hx
            refine Ev.callV (ν := m_Law_pop) (av := []) (rest := []) (r1 := some (vi q4.1)) (h1 := q4.2) (ci := 5) (nn := 0) (o := o0) 27 0 tk_Law_worth rfl bb_Law_pop vv_Law_pop lk_5_25 (by decide) rfl rfl (Or.inl rfl) (Nat.le_of_ble_eq_true rfl) (s_Law_pop Γ o0 h _ hq15) ?_
            show Ev Γ m_Law_worth 49 [some (vr 5 0 o0), some (vr 20 n1 o1), some (vi v2), some (vi v3), some (vi (h.1 (o0 + 1) (v3).toNatClampNeg))] [vi q4.1] q4.2 r h'
            obtain rfl := Option.some.inj hx
            obtain ⟨rfl, rfl⟩ := hP
            exact Ev.iret 28 tk_Law_worth rfl rfl
set_option maxRecDepth 4000 in
theorem s_Law_worth (Γ : AG) (o0 : Nat) (n1 : Nat) (o1 : Nat) (h : AH) (x : Int32 × AH) (hx : f_Law_worth o0 n1 o1 h = some x) : MetA Γ m_Law_worth [vr 5 0 o0, vr 20 n1 o1] h (some (vi x.1)) x.2 := by
  refine Ev.met rfl rfl (Nat.le_of_ble_eq_true rfl) ?_
  show Ev Γ m_Law_worth 0 [some (vr 5 0 o0), some (vr 20 n1 o1), none, none, none] [] h _ _
  obtain ⟨r, hr⟩ : ∃ r : Option AV, r = some (vi x.1) := ⟨_, rfl⟩
  obtain ⟨h', hh⟩ : ∃ h' : AH, h' = x.2 := ⟨_, rfl⟩
  have hP : r = some (vi x.1) ∧ h' = x.2 := ⟨hr, hh⟩
  suffices hS : Ev Γ m_Law_worth 0 [some (vr 5 0 o0), some (vr 20 n1 o1), none, none, none] [] h r h' by rw [hr, hh] at hS; exact hS
  clear hr hh
  unfold f_Law_worth at hx
  refine Ev.blk (pc' := 9) (lv' := [some (vr 5 0 o0), some (vr 20 n1 o1), some (vi (ii 0)), some (vi (ii 0)), none]) (st' := []) (h' := (wI h o0 3 (ii 0))) 0 7 (Nat.le_of_ble_eq_true rfl) tk_Law_worth rfl rfl ⟨trivial, trivial, trivial, trivial, trivial, trivial, trivial, trivial⟩ ?_
  refine Ev.msk [true, true, true, true, false] ?_
  show Ev Γ m_Law_worth 9 [some (vr 5 0 o0), some (vr 20 n1 o1), some (vi (ii 0)), some (vi (ii 0)), none] [] (wI h o0 3 (ii 0)) r h'
  exact l_Law_worth_L9 Γ FU o0 n1 o1 (ii 0) (ii 0) (wI h o0 3 (ii 0)) _ hx r h' hP
set_option maxRecDepth 4000 in
theorem s_HF_twitchIn (Γ : AG) (o1 : Nat) (a2 : Int32) (a3 : Int32) (h : AH) (x : Int32 × AH) (hx : f_HF_twitchIn o1 a2 a3 h = some x) : MetA Γ m_HF_twitchIn [vr 0 0 0, vr 8 0 o1, vi a2, vi a3] h (some (vi x.1)) x.2 := by
  refine Ev.met rfl rfl (Nat.le_of_ble_eq_true rfl) ?_
  show Ev Γ m_HF_twitchIn 0 [some (vr 0 0 0), some (vr 8 0 o1), some (vi a2), some (vi a3)] [] h _ _
  obtain ⟨r, hr⟩ : ∃ r : Option AV, r = some (vi x.1) := ⟨_, rfl⟩
  obtain ⟨h', hh⟩ : ∃ h' : AH, h' = x.2 := ⟨_, rfl⟩
  have hP : r = some (vi x.1) ∧ h' = x.2 := ⟨hr, hh⟩
  suffices hS : Ev Γ m_HF_twitchIn 0 [some (vr 0 0 0), some (vr 8 0 o1), some (vi a2), some (vi a3)] [] h r h' by rw [hr, hh] at hS; exact hS
  clear hr hh
  unfold f_HF_twitchIn at hx
  refine Ev.blk (pc' := 4) (lv' := [some (vr 0 0 0), some (vr 8 0 o1), some (vi a2), some (vi a3)]) (st' := [vi (h.1 0 16)]) (h' := h) 0 2 (Nat.le_of_ble_eq_true rfl) tk_HF_twitchIn rfl rfl ⟨trivial, trivial, trivial⟩ ?_
  refine Ev.if_lt 2 19 tk_HF_twitchIn rfl (by decide) (fun hc1 => ?_) (fun hc1 => ?_)
  · replace hx := ip hc1 hx
    refine Ev.blk (pc' := 23) (lv' := [some (vr 0 0 0), some (vr 8 0 o1), some (vi a2), some (vi a3)]) (st' := [vi a3, vi a2, vr 8 0 o1, vr 0 0 0]) (h' := h) 9 4 (Nat.le_of_ble_eq_true rfl) tk_HF_twitchIn rfl rfl ⟨trivial, trivial, trivial, trivial, trivial⟩ ?_
    obtain ⟨q1, hq2, hx⟩ := bd hx
    refine Ev.callV (ν := m_HF_plainTwitch) (av := [vr 8 0 o1, vi a2, vi a3]) (rest := []) (r1 := some (vi q1)) (h1 := h) (ci := 0) (nn := 0) (o := 0) 13 3 tk_HF_twitchIn rfl bb_HF_plainTwitch vv_HF_plainTwitch lk_0_432 (by decide) rfl rfl (Or.inl rfl) (Nat.le_of_ble_eq_true rfl) (s_HF_plainTwitch Γ o1 a2 a3 h _ hq2) ?_
    show Ev Γ m_HF_twitchIn 26 [some (vr 0 0 0), some (vr 8 0 o1), some (vi a2), some (vi a3)] [vi q1] h r h'
    obtain rfl := Option.some.inj hx
    obtain ⟨rfl, rfl⟩ := hP
    exact Ev.iret 14 tk_HF_twitchIn rfl rfl
  · replace hx := ia hc1 hx
    refine Ev.blk (pc' := 16) (lv' := [some (vr 0 0 0), some (vr 8 0 o1), some (vi a2), some (vi a3)]) (st' := [vi (ii (4 : Int)), vi (h.1 0 16)]) (h' := h) 3 5 (Nat.le_of_ble_eq_true rfl) tk_HF_twitchIn rfl rfl ⟨trivial, trivial, trivial, trivial, trivial, trivial⟩ ?_
    refine Ev.icmp_lt 8 27 tk_HF_twitchIn rfl (by decide) (fun hc3 => ?_) (fun hc3 => ?_)
    · replace hx := ip hc3 hx
      refine Ev.blk (pc' := 31) (lv' := [some (vr 0 0 0), some (vr 8 0 o1), some (vi a2), some (vi a3)]) (st' := [vi a3, vi a2, vr 8 0 o1, vr 0 0 0]) (h' := h) 15 4 (Nat.le_of_ble_eq_true rfl) tk_HF_twitchIn rfl rfl ⟨trivial, trivial, trivial, trivial, trivial⟩ ?_
      obtain ⟨q2, hq4, hx⟩ := bd hx
      refine Ev.callV (ν := m_HF_tellLetters) (av := [vr 8 0 o1, vi a2, vi a3]) (rest := []) (r1 := none) (h1 := q2) (ci := 0) (nn := 0) (o := 0) 19 3 tk_HF_twitchIn rfl bb_HF_tellLetters vv_HF_tellLetters lk_0_435 (by decide) rfl rfl (Or.inl rfl) (Nat.le_of_ble_eq_true rfl) (s_HF_tellLetters Γ o1 a2 a3 h _ hq4) ?_
      show Ev Γ m_HF_twitchIn 34 [some (vr 0 0 0), some (vr 8 0 o1), some (vi a2), some (vi a3)] [] q2 r h'
      obtain ⟨hg5, hx⟩ := gd hx
      refine Ev.blk (pc' := 47) (lv' := [some (vr 0 0 0), some (vr 8 0 o1), some (vi a2), some (vi a3)]) (st' := [vr 20 6 12, vr 5 0 (q2.2.2 10 (q2.1 0 16).toNatClampNeg)]) (h' := q2) 20 7 (Nat.le_of_ble_eq_true rfl) tk_HF_twitchIn rfl rfl ⟨trivial, trivial, trivial, trivial, hg5, trivial, trivial, trivial⟩ ?_
      obtain ⟨q3, hq6, hx⟩ := bd hx
      refine Ev.callV (ν := m_Law_worth) (av := [vr 20 6 12]) (rest := []) (r1 := some (vi q3.1)) (h1 := q3.2) (ci := 5) (nn := 0) (o := (q2.2.2 10 (q2.1 0 16).toNatClampNeg)) 27 1 tk_HF_twitchIn rfl bb_Law_worth vv_Law_worth lk_0_439 (by decide) rfl rfl (Or.inl rfl) (Nat.le_of_ble_eq_true rfl) (s_Law_worth Γ (q2.2.2 10 (q2.1 0 16).toNatClampNeg) 6 12 q2 _ hq6) ?_
      show Ev Γ m_HF_twitchIn 50 [some (vr 0 0 0), some (vr 8 0 o1), some (vi a2), some (vi a3)] [vi q3.1] q3.2 r h'
      refine Ev.blk (pc' := 54) (lv' := [some (vr 0 0 0), some (vr 8 0 o1), some (vi a2), some (vi a3)]) (st' := [vi (ii 99), vi (ii 0), vl q3.1.toInt64]) (h' := q3.2) 28 3 (Nat.le_of_ble_eq_true rfl) tk_HF_twitchIn rfl rfl ⟨trivial, trivial, trivial, trivial⟩ ?_
      refine Ev.callS (ν := m_HF_within) (av := [vl q3.1.toInt64, vi (ii 0), vi (ii 99)]) (rest := []) (r1 := some (vi (p_HF_within q3.1.toInt64 (ii 0) (ii 99)))) (h1 := q3.2) 31 3 tk_HF_twitchIn rfl bb_HF_within vv_HF_within lk_0_443 (by decide) rfl rfl (Nat.le_of_ble_eq_true rfl) (s_HF_within Γ q3.1.toInt64 (ii 0) (ii 99) q3.2) ?_
      show Ev Γ m_HF_twitchIn 57 [some (vr 0 0 0), some (vr 8 0 o1), some (vi a2), some (vi a3)] [vi (p_HF_within q3.1.toInt64 (ii 0) (ii 99))] q3.2 r h'
      obtain rfl := Option.some.inj hx
      obtain ⟨rfl, rfl⟩ := hP
      exact Ev.iret 32 tk_HF_twitchIn rfl rfl
    · replace hx := ia hc3 hx
      refine Ev.blk (pc' := 23) (lv' := [some (vr 0 0 0), some (vr 8 0 o1), some (vi a2), some (vi a3)]) (st' := [vi a3, vi a2, vr 8 0 o1, vr 0 0 0]) (h' := h) 9 4 (Nat.le_of_ble_eq_true rfl) tk_HF_twitchIn rfl rfl ⟨trivial, trivial, trivial, trivial, trivial⟩ ?_
      obtain ⟨q4, hq7, hx⟩ := bd hx
      refine Ev.callV (ν := m_HF_plainTwitch) (av := [vr 8 0 o1, vi a2, vi a3]) (rest := []) (r1 := some (vi q4)) (h1 := h) (ci := 0) (nn := 0) (o := 0) 13 3 tk_HF_twitchIn rfl bb_HF_plainTwitch vv_HF_plainTwitch lk_0_432 (by decide) rfl rfl (Or.inl rfl) (Nat.le_of_ble_eq_true rfl) (s_HF_plainTwitch Γ o1 a2 a3 h _ hq7) ?_
      show Ev Γ m_HF_twitchIn 26 [some (vr 0 0 0), some (vr 8 0 o1), some (vi a2), some (vi a3)] [vi q4] h r h'
      obtain rfl := Option.some.inj hx
      obtain ⟨rfl, rfl⟩ := hP
      exact Ev.iret 14 tk_HF_twitchIn rfl rfl
set_option maxRecDepth 4000 in
theorem s_HF_twitch (Γ : AG) (a1 : Int32) (a2 : Int32) (h : AH) (x : Int32 × AH) (hx : f_HF_twitch a1 a2 h = some x) : MetA Γ m_HF_twitch [vr 0 0 0, vi a1, vi a2] h (some (vi x.1)) x.2 := by
  refine Ev.met rfl rfl (Nat.le_of_ble_eq_true rfl) ?_
  show Ev Γ m_HF_twitch 0 [some (vr 0 0 0), some (vi a1), some (vi a2)] [] h _ _
  obtain ⟨r, hr⟩ : ∃ r : Option AV, r = some (vi x.1) := ⟨_, rfl⟩
  obtain ⟨h', hh⟩ : ∃ h' : AH, h' = x.2 := ⟨_, rfl⟩
  have hP : r = some (vi x.1) ∧ h' = x.2 := ⟨hr, hh⟩
  suffices hS : Ev Γ m_HF_twitch 0 [some (vr 0 0 0), some (vi a1), some (vi a2)] [] h r h' by rw [hr, hh] at hS; exact hS
  clear hr hh
  unfold f_HF_twitch at hx
  refine Ev.blk (pc' := 5) (lv' := [some (vr 0 0 0), some (vi a1), some (vi a2)]) (st' := [vi a1, vr 3 0 (h.2.2 0 13)]) (h' := h) 0 3 (Nat.le_of_ble_eq_true rfl) tk_HF_twitch rfl rfl ⟨trivial, trivial, trivial, trivial⟩ ?_
  refine Ev.callV (ν := m_Heath_isFork) (av := [vi a1]) (rest := []) (r1 := some (vi (p_Heath_isFork (h.2.2 0 13) a1 h))) (h1 := h) (ci := 3) (nn := 0) (o := (h.2.2 0 13)) 3 1 tk_HF_twitch rfl bb_Heath_isFork vv_Heath_isFork lk_0_180 (by decide) rfl rfl (Or.inl rfl) (Nat.le_of_ble_eq_true rfl) (s_Heath_isFork Γ (h.2.2 0 13) a1 h) ?_
  show Ev Γ m_HF_twitch 8 [some (vr 0 0 0), some (vi a1), some (vi a2)] [vi (p_Heath_isFork (h.2.2 0 13) a1 h)] h r h'
  refine Ev.if_eq 4 22 tk_HF_twitch rfl (by decide) (fun hc1 => ?_) (fun hc1 => ?_)
  · replace hx := ip hc1 hx
    refine Ev.blk (pc' := 23) (lv' := [some (vr 0 0 0), some (vi a1), some (vi a2)]) (st' := [vi (ii (-1))]) (h' := h) 10 1 (Nat.le_of_ble_eq_true rfl) tk_HF_twitch rfl rfl ⟨trivial, trivial⟩ ?_
    obtain rfl := Option.some.inj hx
    obtain ⟨rfl, rfl⟩ := hP
    exact Ev.iret 11 tk_HF_twitch rfl rfl
  · replace hx := ia hc1 hx
    refine Ev.blk (pc' := 16) (lv' := [some (vr 0 0 0), some (vi a1), some (vi a2)]) (st' := [vi a2, vr 3 0 (h.2.2 0 13)]) (h' := h) 5 3 (Nat.le_of_ble_eq_true rfl) tk_HF_twitch rfl rfl ⟨trivial, trivial, trivial, trivial⟩ ?_
    refine Ev.callV (ν := m_Heath_isCell) (av := [vi a2]) (rest := []) (r1 := some (vi (p_Heath_isCell (h.2.2 0 13) a2 h))) (h1 := h) (ci := 3) (nn := 0) (o := (h.2.2 0 13)) 8 1 tk_HF_twitch rfl bb_Heath_isCell vv_Heath_isCell lk_0_153 (by decide) rfl rfl (Or.inl rfl) (Nat.le_of_ble_eq_true rfl) (s_Heath_isCell Γ (h.2.2 0 13) a2 h) ?_
    show Ev Γ m_HF_twitch 19 [some (vr 0 0 0), some (vi a1), some (vi a2)] [vi (p_Heath_isCell (h.2.2 0 13) a2 h)] h r h'
    refine Ev.if_ne 9 24 tk_HF_twitch rfl (by decide) (fun hc2 => ?_) (fun hc2 => ?_)
    · replace hx := ia hc2 hx
      refine Ev.blk (pc' := 31) (lv' := [some (vr 0 0 0), some (vi a1), some (vi a2)]) (st' := [vi a2, vi a1, vr 8 0 13, vr 0 0 0]) (h' := h) 12 5 (Nat.le_of_ble_eq_true rfl) tk_HF_twitch rfl rfl ⟨trivial, trivial, trivial, trivial, trivial, trivial⟩ ?_
      obtain ⟨q1, hq3, hx⟩ := bd hx
      refine Ev.callV (ν := m_HF_twitchIn) (av := [vr 8 0 13, vi a1, vi a2]) (rest := []) (r1 := some (vi q1.1)) (h1 := q1.2) (ci := 0) (nn := 0) (o := 0) 17 3 tk_HF_twitch rfl bb_HF_twitchIn vv_HF_twitchIn lk_0_199 (by decide) rfl rfl (Or.inl rfl) (Nat.le_of_ble_eq_true rfl) (s_HF_twitchIn Γ 13 a1 a2 h _ hq3) ?_
      show Ev Γ m_HF_twitch 34 [some (vr 0 0 0), some (vi a1), some (vi a2)] [vi q1.1] q1.2 r h'
      obtain rfl := Option.some.inj hx
      obtain ⟨rfl, rfl⟩ := hP
      exact Ev.iret 18 tk_HF_twitch rfl rfl
    · replace hx := ip hc2 hx
      refine Ev.blk (pc' := 23) (lv' := [some (vr 0 0 0), some (vi a1), some (vi a2)]) (st' := [vi (ii (-1))]) (h' := h) 10 1 (Nat.le_of_ble_eq_true rfl) tk_HF_twitch rfl rfl ⟨trivial, trivial⟩ ?_
      obtain rfl := Option.some.inj hx
      obtain ⟨rfl, rfl⟩ := hP
      exact Ev.iret 11 tk_HF_twitch rfl rfl
set_option maxRecDepth 4000 in
theorem s_Moor_trailOf (Γ : AG) (o0 : Nat) (a1 : Int32) (h : AH) (x : Int32) (hx : f_Moor_trailOf o0 a1 h = some x) : MetA Γ m_Moor_trailOf [vr 8 0 o0, vi a1] h (some (vi x)) h := by
  refine Ev.met rfl rfl (Nat.le_of_ble_eq_true rfl) ?_
  show Ev Γ m_Moor_trailOf 0 [some (vr 8 0 o0), some (vi a1)] [] h _ _
  obtain ⟨r, hr⟩ : ∃ r : Option AV, r = some (vi x) := ⟨_, rfl⟩
  obtain ⟨h', hh⟩ : ∃ h' : AH, h' = h := ⟨_, rfl⟩
  have hP : r = some (vi x) ∧ h' = h := ⟨hr, hh⟩
  suffices hS : Ev Γ m_Moor_trailOf 0 [some (vr 8 0 o0), some (vi a1)] [] h r h' by rw [hr, hh] at hS; exact hS
  clear hr hh
  unfold f_Moor_trailOf at hx
  refine Ev.blk (pc' := 1) (lv' := [some (vr 8 0 o0), some (vi a1)]) (st' := [vi a1]) (h' := h) 0 1 (Nat.le_of_ble_eq_true rfl) tk_Moor_trailOf rfl rfl ⟨trivial, trivial⟩ ?_
  refine Ev.if_eq 1 9 tk_Moor_trailOf rfl (by decide) (fun hc1 => ?_) (fun hc1 => ?_)
  · replace hx := ip hc1 hx
    obtain ⟨hg2, hx⟩ := gd hx
    refine Ev.blk (pc' := 19) (lv' := [some (vr 8 0 o0), some (vi a1)]) (st' := [vi (h.1 (o0 + 3) (a1).toNatClampNeg)]) (h' := h) 5 5 (Nat.le_of_ble_eq_true rfl) tk_Moor_trailOf rfl rfl ⟨trivial, trivial, trivial, hg2, trivial, trivial⟩ ?_
    obtain rfl := Option.some.inj hx
    obtain ⟨rfl, rfl⟩ := hP
    exact Ev.iret 11 tk_Moor_trailOf rfl rfl
  · replace hx := ia hc1 hx
    refine Ev.blk (pc' := 6) (lv' := [some (vr 8 0 o0), some (vi a1)]) (st' := [vi (ii 1), vi a1]) (h' := h) 2 2 (Nat.le_of_ble_eq_true rfl) tk_Moor_trailOf rfl rfl ⟨trivial, trivial, trivial⟩ ?_
    refine Ev.icmp_ne 4 18 tk_Moor_trailOf rfl (by decide) (fun hc3 => ?_) (fun hc3 => ?_)
    · replace hx := ia hc3 hx
      refine Ev.blk (pc' := 19) (lv' := [some (vr 8 0 o0), some (vi a1)]) (st' := [vi (ii 0)]) (h' := h) 10 1 (Nat.le_of_ble_eq_true rfl) tk_Moor_trailOf rfl rfl ⟨trivial, trivial⟩ ?_
      obtain rfl := Option.some.inj hx
      obtain ⟨rfl, rfl⟩ := hP
      exact Ev.iret 11 tk_Moor_trailOf rfl rfl
    · replace hx := ip hc3 hx
      obtain ⟨hg4, hx⟩ := gd hx
      refine Ev.blk (pc' := 19) (lv' := [some (vr 8 0 o0), some (vi a1)]) (st' := [vi (h.1 (o0 + 3) (a1).toNatClampNeg)]) (h' := h) 5 5 (Nat.le_of_ble_eq_true rfl) tk_Moor_trailOf rfl rfl ⟨trivial, trivial, trivial, hg4, trivial, trivial⟩ ?_
      obtain rfl := Option.some.inj hx
      obtain ⟨rfl, rfl⟩ := hP
      exact Ev.iret 11 tk_Moor_trailOf rfl rfl
set_option maxRecDepth 4000 in
theorem s_HF_goal (Γ : AG) (o1 : Nat) (a2 : Int32) (a3 : Int32) (h : AH) (x : Int32) (hx : f_HF_goal o1 a2 a3 h = some x) : MetA Γ m_HF_goal [vr 0 0 0, vr 8 0 o1, vi a2, vi a3] h (some (vi x)) h := by
  refine Ev.met rfl rfl (Nat.le_of_ble_eq_true rfl) ?_
  show Ev Γ m_HF_goal 0 [some (vr 0 0 0), some (vr 8 0 o1), some (vi a2), some (vi a3), none] [] h _ _
  obtain ⟨r, hr⟩ : ∃ r : Option AV, r = some (vi x) := ⟨_, rfl⟩
  obtain ⟨h', hh⟩ : ∃ h' : AH, h' = h := ⟨_, rfl⟩
  have hP : r = some (vi x) ∧ h' = h := ⟨hr, hh⟩
  suffices hS : Ev Γ m_HF_goal 0 [some (vr 0 0 0), some (vr 8 0 o1), some (vi a2), some (vi a3), none] [] h r h' by rw [hr, hh] at hS; exact hS
  clear hr hh
  unfold f_HF_goal at hx
  refine Ev.blk (pc' := 5) (lv' := [some (vr 0 0 0), some (vr 8 0 o1), some (vi a2), some (vi a3), none]) (st' := [vi a2, vr 3 0 (h.2.2 0 13)]) (h' := h) 0 3 (Nat.le_of_ble_eq_true rfl) tk_HF_goal rfl rfl ⟨trivial, trivial, trivial, trivial⟩ ?_
  refine Ev.callV (ν := m_Heath_isFork) (av := [vi a2]) (rest := []) (r1 := some (vi (p_Heath_isFork (h.2.2 0 13) a2 h))) (h1 := h) (ci := 3) (nn := 0) (o := (h.2.2 0 13)) 3 1 tk_HF_goal rfl bb_Heath_isFork vv_Heath_isFork lk_0_180 (by decide) rfl rfl (Or.inl rfl) (Nat.le_of_ble_eq_true rfl) (s_Heath_isFork Γ (h.2.2 0 13) a2 h) ?_
  show Ev Γ m_HF_goal 8 [some (vr 0 0 0), some (vr 8 0 o1), some (vi a2), some (vi a3), none] [vi (p_Heath_isFork (h.2.2 0 13) a2 h)] h r h'
  refine Ev.if_ne 4 13 tk_HF_goal rfl (by decide) (fun hc1 => ?_) (fun hc1 => ?_)
  · replace hx := ia hc1 hx
    refine Ev.blk (pc' := 19) (lv' := [some (vr 0 0 0), some (vr 8 0 o1), some (vi a2), some (vi a3), none]) (st' := [vi a2, vr 8 0 o1, vr 3 0 (h.2.2 0 13)]) (h' := h) 7 4 (Nat.le_of_ble_eq_true rfl) tk_HF_goal rfl rfl ⟨trivial, trivial, trivial, trivial, trivial⟩ ?_
    obtain ⟨q1, hq2, hx⟩ := bd hx
    refine Ev.callV (ν := m_Moor_placeOf) (av := [vi a2]) (rest := [vr 3 0 (h.2.2 0 13)]) (r1 := some (vi q1)) (h1 := h) (ci := 8) (nn := 0) (o := o1) 11 1 tk_HF_goal rfl bb_Moor_placeOf vv_Moor_placeOf lk_0_190 (by decide) rfl rfl (Or.inl rfl) (Nat.le_of_ble_eq_true rfl) (s_Moor_placeOf Γ o1 a2 h _ hq2) ?_
    show Ev Γ m_HF_goal 22 [some (vr 0 0 0), some (vr 8 0 o1), some (vi a2), some (vi a3), none] [vi q1, vr 3 0 (h.2.2 0 13)] h r h'
    refine Ev.blk (pc' := 23) (lv' := [some (vr 0 0 0), some (vr 8 0 o1), some (vi a2), some (vi a3), none]) (st' := [vi a3, vi q1, vr 3 0 (h.2.2 0 13)]) (h' := h) 12 1 (Nat.le_of_ble_eq_true rfl) tk_HF_goal rfl rfl ⟨trivial, trivial⟩ ?_
    obtain ⟨q2, hq3, hx⟩ := bd hx
    refine Ev.callV (ν := m_Heath_beyond) (av := [vi q1, vi a3]) (rest := []) (r1 := some (vi q2)) (h1 := h) (ci := 3) (nn := 0) (o := (h.2.2 0 13)) 13 2 tk_HF_goal rfl bb_Heath_beyond vv_Heath_beyond lk_0_423 (by decide) rfl rfl (Or.inl rfl) (Nat.le_of_ble_eq_true rfl) (s_Heath_beyond Γ (h.2.2 0 13) q1 a3 h _ hq3) ?_
    show Ev Γ m_HF_goal 26 [some (vr 0 0 0), some (vr 8 0 o1), some (vi a2), some (vi a3), none] [vi q2] h r h'
    refine Ev.blk (pc' := 31) (lv' := [some (vr 0 0 0), some (vr 8 0 o1), some (vi a2), some (vi a3), some (vi q2)]) (st' := [vi (ii (-1)), vi q2]) (h' := h) 14 3 (Nat.le_of_ble_eq_true rfl) tk_HF_goal rfl rfl ⟨trivial, trivial, trivial, trivial⟩ ?_
    refine Ev.icmp_eq 17 57 tk_HF_goal rfl (by decide) (fun hc4 => ?_) (fun hc4 => ?_)
    · replace hx := ip hc4 hx
      refine Ev.blk (pc' := 58) (lv' := [some (vr 0 0 0), some (vr 8 0 o1), some (vi a2), some (vi a3), some (vi q2)]) (st' := [vi (ii (-1))]) (h' := h) 30 1 (Nat.le_of_ble_eq_true rfl) tk_HF_goal rfl rfl ⟨trivial, trivial⟩ ?_
      obtain rfl := Option.some.inj hx
      obtain ⟨rfl, rfl⟩ := hP
      exact Ev.iret 31 tk_HF_goal rfl rfl
    · replace hx := ia hc4 hx
      refine Ev.blk (pc' := 42) (lv' := [some (vr 0 0 0), some (vr 8 0 o1), some (vi a2), some (vi a3), some (vi q2)]) (st' := [vi (ii 5), vi a2, vr 3 0 (h.2.2 0 13), vi (ii 1), vr 8 0 o1]) (h' := h) 18 6 (Nat.le_of_ble_eq_true rfl) tk_HF_goal rfl rfl ⟨trivial, trivial, trivial, trivial, trivial, trivial, trivial⟩ ?_
      obtain ⟨q3, hq5, hx⟩ := bd hx
      refine Ev.callV (ν := m_Heath_trait) (av := [vi a2, vi (ii 5)]) (rest := [vi (ii 1), vr 8 0 o1]) (r1 := some (vi q3)) (h1 := h) (ci := 3) (nn := 0) (o := (h.2.2 0 13)) 24 2 tk_HF_goal rfl bb_Heath_trait vv_Heath_trait lk_0_196 (by decide) rfl rfl (Or.inl rfl) (Nat.le_of_ble_eq_true rfl) (s_Heath_trait Γ (h.2.2 0 13) a2 (ii 5) h _ hq5) ?_
      show Ev Γ m_HF_goal 45 [some (vr 0 0 0), some (vr 8 0 o1), some (vi a2), some (vi a3), some (vi q2)] [vi q3, vi (ii 1), vr 8 0 o1] h r h'
      refine Ev.blk (pc' := 46) (lv' := [some (vr 0 0 0), some (vr 8 0 o1), some (vi a2), some (vi a3), some (vi q2)]) (st' := [vi ((ii 1) - q3), vr 8 0 o1]) (h' := h) 25 1 (Nat.le_of_ble_eq_true rfl) tk_HF_goal rfl rfl ⟨trivial, trivial⟩ ?_
      obtain ⟨q4, hq6, hx⟩ := bd hx
      refine Ev.callV (ν := m_Moor_trailOf) (av := [vi ((ii 1) - q3)]) (rest := []) (r1 := some (vi q4)) (h1 := h) (ci := 8) (nn := 0) (o := o1) 26 1 tk_HF_goal rfl bb_Moor_trailOf vv_Moor_trailOf lk_0_336 (by decide) rfl rfl (Or.inl rfl) (Nat.le_of_ble_eq_true rfl) (s_Moor_trailOf Γ o1 ((ii 1) - q3) h _ hq6) ?_
      show Ev Γ m_HF_goal 49 [some (vr 0 0 0), some (vr 8 0 o1), some (vi a2), some (vi a3), some (vi q2)] [vi q4] h r h'
      refine Ev.blk (pc' := 51) (lv' := [some (vr 0 0 0), some (vr 8 0 o1), some (vi a2), some (vi a3), some (vi q2)]) (st' := [vi q2, vi q4]) (h' := h) 27 1 (Nat.le_of_ble_eq_true rfl) tk_HF_goal rfl rfl ⟨trivial, trivial⟩ ?_
      refine Ev.callS (ν := m_HF_holds) (av := [vi q4, vi q2]) (rest := []) (r1 := some (vi (p_HF_holds q4 q2))) (h1 := h) 28 2 tk_HF_goal rfl bb_HF_holds vv_HF_holds lk_0_173 (by decide) rfl rfl (Nat.le_of_ble_eq_true rfl) (s_HF_holds Γ q4 q2 h) ?_
      show Ev Γ m_HF_goal 54 [some (vr 0 0 0), some (vr 8 0 o1), some (vi a2), some (vi a3), some (vi q2)] [vi (p_HF_holds q4 q2)] h r h'
      refine Ev.if_eq 29 59 tk_HF_goal rfl (by decide) (fun hc7 => ?_) (fun hc7 => ?_)
      · replace hx := ip hc7 hx
        refine Ev.blk (pc' := 61) (lv' := [some (vr 0 0 0), some (vr 8 0 o1), some (vi a2), some (vi a3), some (vi q2)]) (st' := [vi q2]) (h' := h) 32 1 (Nat.le_of_ble_eq_true rfl) tk_HF_goal rfl rfl ⟨trivial, trivial⟩ ?_
        obtain rfl := Option.some.inj hx
        obtain ⟨rfl, rfl⟩ := hP
        exact Ev.iret 33 tk_HF_goal rfl rfl
      · replace hx := ia hc7 hx
        refine Ev.blk (pc' := 58) (lv' := [some (vr 0 0 0), some (vr 8 0 o1), some (vi a2), some (vi a3), some (vi q2)]) (st' := [vi (ii (-1))]) (h' := h) 30 1 (Nat.le_of_ble_eq_true rfl) tk_HF_goal rfl rfl ⟨trivial, trivial⟩ ?_
        obtain rfl := Option.some.inj hx
        obtain ⟨rfl, rfl⟩ := hP
        exact Ev.iret 31 tk_HF_goal rfl rfl
  · replace hx := ip hc1 hx
    refine Ev.blk (pc' := 12) (lv' := [some (vr 0 0 0), some (vr 8 0 o1), some (vi a2), some (vi a3), none]) (st' := [vi (ii (-1))]) (h' := h) 5 1 (Nat.le_of_ble_eq_true rfl) tk_HF_goal rfl rfl ⟨trivial, trivial⟩ ?_
    obtain rfl := Option.some.inj hx
    obtain ⟨rfl, rfl⟩ := hP
    exact Ev.iret 6 tk_HF_goal rfl rfl
set_option maxRecDepth 4000 in
theorem s_Acts_add (Γ : AG) (a1 : Int32) (a2 : Int32) (a3 : Int32) (a4 : Int32) (h : AH) (x : AH) (hx : f_Acts_add a1 a2 a3 a4 h = some x) : MetA Γ m_Acts_add [vr 9 0 31, vi a1, vi a2, vi a3, vi a4] h (none) x := by
  refine Ev.met rfl rfl (Nat.le_of_ble_eq_true rfl) ?_
  show Ev Γ m_Acts_add 0 [some (vr 9 0 31), some (vi a1), some (vi a2), some (vi a3), some (vi a4), none] [] h _ _
  obtain ⟨r, hr⟩ : ∃ r : Option AV, r = none := ⟨_, rfl⟩
  obtain ⟨h', hh⟩ : ∃ h' : AH, h' = x := ⟨_, rfl⟩
  have hP : r = none ∧ h' = x := ⟨hr, hh⟩
  suffices hS : Ev Γ m_Acts_add 0 [some (vr 9 0 31), some (vi a1), some (vi a2), some (vi a3), some (vi a4), none] [] h r h' by rw [hr, hh] at hS; exact hS
  clear hr hh
  unfold f_Acts_add at hx
  refine Ev.blk (pc' := 10) (lv' := [some (vr 9 0 31), some (vi a1), some (vi a2), some (vi a3), some (vi a4), some (vi ((h.1 31 2) * (ii 4)))]) (st' := [vi ((h.1 31 2) * (ii 4))]) (h' := h) 0 6 (Nat.le_of_ble_eq_true rfl) tk_Acts_add rfl rfl ⟨trivial, trivial, trivial, trivial, trivial, trivial, trivial⟩ ?_
  refine Ev.if_lt 6 94 tk_Acts_add rfl (by decide) (fun hc1 => ?_) (fun hc1 => ?_)
  · replace hx := ip hc1 hx
    obtain rfl := Option.some.inj hx
    obtain ⟨rfl, rfl⟩ := hP
    exact Ev.vret 58 tk_Acts_add rfl rfl
  · replace hx := ia hc1 hx
    refine Ev.blk (pc' := 22) (lv' := [some (vr 9 0 31), some (vi a1), some (vi a2), some (vi a3), some (vi a4), some (vi ((h.1 31 2) * (ii 4)))]) (st' := [vi (ii (160 : Int)), vi (((h.1 31 2) * (ii 4)) + (ii 3))]) (h' := h) 7 6 (Nat.le_of_ble_eq_true rfl) tk_Acts_add rfl rfl ⟨trivial, trivial, trivial, trivial, trivial, trivial, trivial⟩ ?_
    refine Ev.icmp_ge 13 94 tk_Acts_add rfl (by decide) (fun hc2 => ?_) (fun hc2 => ?_)
    · replace hx := ip hc2 hx
      obtain rfl := Option.some.inj hx
      obtain ⟨rfl, rfl⟩ := hP
      exact Ev.vret 58 tk_Acts_add rfl rfl
    · replace hx := ia hc2 hx
      obtain ⟨hg3, hx⟩ := gd hx
      obtain ⟨hg4, hx⟩ := gd hx
      obtain ⟨hg5, hx⟩ := gd hx
      obtain ⟨hg6, hx⟩ := gd hx
      obtain ⟨hg7, hx⟩ := gd hx
      refine Ev.blk (pc' := 79) (lv' := [some (vr 9 0 31), some (vi a1), some (vi a2), some (vi a3), some (vi a4), some (vi ((h.1 31 2) * (ii 4)))]) (st' := []) (h' := (wI (wI (wI (wI (wI h 32 (((h.1 31 2) * (ii 4)) + (ii 0)).toNatClampNeg a1) 32 (((h.1 31 2) * (ii 4)) + (ii 1)).toNatClampNeg a2) 32 (((h.1 31 2) * (ii 4)) + (ii 2)).toNatClampNeg a3) 32 (((h.1 31 2) * (ii 4)) + (ii 3)).toNatClampNeg a4) 31 2 (remI (((wI (wI (wI (wI h 32 (((h.1 31 2) * (ii 4)) + (ii 0)).toNatClampNeg a1) 32 (((h.1 31 2) * (ii 4)) + (ii 1)).toNatClampNeg a2) 32 (((h.1 31 2) * (ii 4)) + (ii 2)).toNatClampNeg a3) 32 (((h.1 31 2) * (ii 4)) + (ii 3)).toNatClampNeg a4).1 31 2) + (ii 1)) (ii 40)))) 14 36 (Nat.le_of_ble_eq_true rfl) tk_Acts_add rfl rfl ⟨trivial, trivial, trivial, trivial, trivial, trivial, hg3, trivial, trivial, trivial, trivial, trivial, trivial, hg4, trivial, trivial, trivial, trivial, trivial, trivial, hg5, trivial, trivial, trivial, trivial, trivial, trivial, hg6, trivial, trivial, trivial, trivial, trivial, trivial, hg7, trivial, trivial⟩ ?_
      obtain ⟨q1, hq8, hx⟩ := bd hx
      rw [Option.some.inj hq8]
      show Ev Γ m_Acts_add 79 [some (vr 9 0 31), some (vi a1), some (vi a2), some (vi a3), some (vi a4), some (vi ((h.1 31 2) * (ii 4)))] [] q1 r h'
      refine Ev.blk (pc' := 88) (lv' := [some (vr 9 0 31), some (vi a1), some (vi a2), some (vi a3), some (vi a4), some (vi ((h.1 31 2) * (ii 4)))]) (st' := [vi (ii 40), vi ((q1.1 31 1) + (ii 1)), vr 9 0 31]) (h' := q1) 50 6 (Nat.le_of_ble_eq_true rfl) tk_Acts_add rfl rfl ⟨trivial, trivial, trivial, trivial, trivial, trivial, trivial⟩ ?_
      refine Ev.mmin (rest := [vr 9 0 31]) 56 tk_Acts_add rfl lk_9_22 (by decide) (Nat.le_of_ble_eq_true rfl) ?_
      show Ev Γ m_Acts_add 91 [some (vr 9 0 31), some (vi a1), some (vi a2), some (vi a3), some (vi a4), some (vi ((h.1 31 2) * (ii 4)))] [vi (p_Math_min ((q1.1 31 1) + (ii 1)) (ii 40)), vr 9 0 31] q1 r h'
      refine Ev.blk (pc' := 94) (lv' := [some (vr 9 0 31), some (vi a1), some (vi a2), some (vi a3), some (vi a4), some (vi ((h.1 31 2) * (ii 4)))]) (st' := []) (h' := (wI q1 31 1 (p_Math_min ((q1.1 31 1) + (ii 1)) (ii 40)))) 57 1 (Nat.le_of_ble_eq_true rfl) tk_Acts_add rfl rfl ⟨trivial, trivial⟩ ?_
      obtain rfl := Option.some.inj hx
      obtain ⟨rfl, rfl⟩ := hP
      exact Ev.vret 58 tk_Acts_add rfl rfl
set_option maxRecDepth 4000 in
theorem s_Moor_write (Γ : AG) (o0 : Nat) (a1 : Int32) (a2 : Int32) (a3 : Int32) (h : AH) (x : AH) (hx : f_Moor_write o0 a1 a2 a3 h = some x) : MetA Γ m_Moor_write [vr 8 0 o0, vi a1, vi a2, vi a3] h (none) x := by
  refine Ev.met rfl rfl (Nat.le_of_ble_eq_true rfl) ?_
  show Ev Γ m_Moor_write 0 [some (vr 8 0 o0), some (vi a1), some (vi a2), some (vi a3), none] [] h _ _
  obtain ⟨r, hr⟩ : ∃ r : Option AV, r = none := ⟨_, rfl⟩
  obtain ⟨h', hh⟩ : ∃ h' : AH, h' = x := ⟨_, rfl⟩
  have hP : r = none ∧ h' = x := ⟨hr, hh⟩
  suffices hS : Ev Γ m_Moor_write 0 [some (vr 8 0 o0), some (vi a1), some (vi a2), some (vi a3), none] [] h r h' by rw [hr, hh] at hS; exact hS
  clear hr hh
  unfold f_Moor_write at hx
  obtain ⟨hg1, hx⟩ := gd hx
  refine Ev.blk (pc' := 11) (lv' := [some (vr 8 0 o0), some (vi a1), some (vi a2), some (vi a3), some (vi (remI (h.1 o0 5) (ii 100)))]) (st' := [vi (remI (h.1 o0 5) (ii 100))]) (h' := h) 0 6 (Nat.le_of_ble_eq_true rfl) tk_Moor_write rfl rfl ⟨trivial, trivial, trivial, hg1, trivial, trivial, trivial⟩ ?_
  refine Ev.if_lt 6 42 tk_Moor_write rfl (by decide) (fun hc2 => ?_) (fun hc2 => ?_)
  · replace hx := ip hc2 hx
    obtain rfl := Option.some.inj hx
    obtain ⟨rfl, rfl⟩ := hP
    exact Ev.vret 26 tk_Moor_write rfl rfl
  · replace hx := ia hc2 hx
    obtain ⟨hg3, hx⟩ := gd hx
    refine Ev.blk (pc' := 42) (lv' := [some (vr 8 0 o0), some (vi a1), some (vi a2), some (vi a3), some (vi (remI (h.1 o0 5) (ii 100)))]) (st' := []) (h' := (wI (wI h (o0 + 4) (remI (h.1 o0 5) (ii 100)).toNatClampNeg ((((a1 * (ii 100)) + a2) * (ii 100)) + a3)) o0 5 (((wI h (o0 + 4) (remI (h.1 o0 5) (ii 100)).toNatClampNeg ((((a1 * (ii 100)) + a2) * (ii 100)) + a3)).1 o0 5) + (ii 1)))) 7 19 (Nat.le_of_ble_eq_true rfl) tk_Moor_write rfl rfl ⟨trivial, trivial, trivial, trivial, trivial, trivial, trivial, trivial, trivial, trivial, trivial, trivial, hg3, trivial, trivial, trivial, trivial, trivial, trivial, trivial⟩ ?_
    obtain rfl := Option.some.inj hx
    obtain ⟨rfl, rfl⟩ := hP
    exact Ev.vret 26 tk_Moor_write rfl rfl
set_option maxRecDepth 4000 in
theorem s_HF_stepTo (Γ : AG) (a1 : Int32) (a2 : Int32) (a3 : Int32) (h : AH) (x : Int32 × AH) (hx : f_HF_stepTo a1 a2 a3 h = some x) : MetA Γ m_HF_stepTo [vr 0 0 0, vi a1, vi a2, vi a3] h (some (vi x.1)) x.2 := by
  refine Ev.met rfl rfl (Nat.le_of_ble_eq_true rfl) ?_
  show Ev Γ m_HF_stepTo 0 [some (vr 0 0 0), some (vi a1), some (vi a2), some (vi a3), none, none] [] h _ _
  obtain ⟨r, hr⟩ : ∃ r : Option AV, r = some (vi x.1) := ⟨_, rfl⟩
  obtain ⟨h', hh⟩ : ∃ h' : AH, h' = x.2 := ⟨_, rfl⟩
  have hP : r = some (vi x.1) ∧ h' = x.2 := ⟨hr, hh⟩
  suffices hS : Ev Γ m_HF_stepTo 0 [some (vr 0 0 0), some (vi a1), some (vi a2), some (vi a3), none, none] [] h r h' by rw [hr, hh] at hS; exact hS
  clear hr hh
  unfold f_HF_stepTo at hx
  refine Ev.blk (pc' := 6) (lv' := [some (vr 0 0 0), some (vi a1), some (vi a2), some (vi a3), none, none]) (st' := [vi (ii 5), vi a1, vr 3 0 (h.2.2 0 13)]) (h' := h) 0 4 (Nat.le_of_ble_eq_true rfl) tk_HF_stepTo rfl rfl ⟨trivial, trivial, trivial, trivial, trivial⟩ ?_
  obtain ⟨q1, hq1, hx⟩ := bd hx
  refine Ev.callV (ν := m_Heath_trait) (av := [vi a1, vi (ii 5)]) (rest := []) (r1 := some (vi q1)) (h1 := h) (ci := 3) (nn := 0) (o := (h.2.2 0 13)) 4 2 tk_HF_stepTo rfl bb_Heath_trait vv_Heath_trait lk_0_196 (by decide) rfl rfl (Or.inl rfl) (Nat.le_of_ble_eq_true rfl) (s_Heath_trait Γ (h.2.2 0 13) a1 (ii 5) h _ hq1) ?_
  show Ev Γ m_HF_stepTo 9 [some (vr 0 0 0), some (vi a1), some (vi a2), some (vi a3), none, none] [vi q1] h r h'
  refine Ev.blk (pc' := 22) (lv' := [some (vr 0 0 0), some (vi a1), some (vi a2), some (vi a3), some (vi q1), none]) (st' := [vi a1, vr 8 0 13, vi a1, vi (ii 0), vr 9 0 31]) (h' := h) 5 8 (Nat.le_of_ble_eq_true rfl) tk_HF_stepTo rfl rfl ⟨trivial, trivial, trivial, trivial, trivial, trivial, trivial, trivial, trivial⟩ ?_
  obtain ⟨q2, hq2, hx⟩ := bd hx
  refine Ev.callV (ν := m_Moor_placeOf) (av := [vi a1]) (rest := [vi a1, vi (ii 0), vr 9 0 31]) (r1 := some (vi q2)) (h1 := h) (ci := 8) (nn := 0) (o := 13) 13 1 tk_HF_stepTo rfl bb_Moor_placeOf vv_Moor_placeOf lk_0_190 (by decide) rfl rfl (Or.inl rfl) (Nat.le_of_ble_eq_true rfl) (s_Moor_placeOf Γ 13 a1 h _ hq2) ?_
  show Ev Γ m_HF_stepTo 25 [some (vr 0 0 0), some (vi a1), some (vi a2), some (vi a3), some (vi q1), none] [vi q2, vi a1, vi (ii 0), vr 9 0 31] h r h'
  refine Ev.blk (pc' := 31) (lv' := [some (vr 0 0 0), some (vi a1), some (vi a2), some (vi a3), some (vi q1), none]) (st' := [vi q1, vr 8 0 13, vi q2, vi a1, vi (ii 0), vr 9 0 31]) (h' := h) 14 3 (Nat.le_of_ble_eq_true rfl) tk_HF_stepTo rfl rfl ⟨trivial, trivial, trivial, trivial⟩ ?_
  obtain ⟨q3, hq3, hx⟩ := bd hx
  refine Ev.callV (ν := m_Moor_trailOf) (av := [vi q1]) (rest := [vi q2, vi a1, vi (ii 0), vr 9 0 31]) (r1 := some (vi q3)) (h1 := h) (ci := 8) (nn := 0) (o := 13) 17 1 tk_HF_stepTo rfl bb_Moor_trailOf vv_Moor_trailOf lk_0_336 (by decide) rfl rfl (Or.inl rfl) (Nat.le_of_ble_eq_true rfl) (s_Moor_trailOf Γ 13 q1 h _ hq3) ?_
  show Ev Γ m_HF_stepTo 34 [some (vr 0 0 0), some (vi a1), some (vi a2), some (vi a3), some (vi q1), none] [vi q3, vi q2, vi a1, vi (ii 0), vr 9 0 31] h r h'
  obtain ⟨q4, hq4, hx⟩ := bd hx
  refine Ev.callV (ν := m_Acts_add) (av := [vi (ii 0), vi a1, vi q2, vi q3]) (rest := []) (r1 := none) (h1 := q4) (ci := 9) (nn := 0) (o := 31) 18 4 tk_HF_stepTo rfl bb_Acts_add vv_Acts_add lk_0_227 (by decide) rfl rfl (Or.inl rfl) (Nat.le_of_ble_eq_true rfl) (s_Acts_add Γ (ii 0) a1 q2 q3 h _ hq4) ?_
  show Ev Γ m_HF_stepTo 37 [some (vr 0 0 0), some (vi a1), some (vi a2), some (vi a3), some (vi q1), none] [] q4 r h'
  refine Ev.blk (pc' := 45) (lv' := [some (vr 0 0 0), some (vi a1), some (vi a2), some (vi a3), some (vi q1), none]) (st' := [vi q1, vi a2, vi a1, vr 8 0 13]) (h' := q4) 19 5 (Nat.le_of_ble_eq_true rfl) tk_HF_stepTo rfl rfl ⟨trivial, trivial, trivial, trivial, trivial, trivial⟩ ?_
  obtain ⟨q5, hq5, hx⟩ := bd hx
  refine Ev.callV (ν := m_Moor_move) (av := [vi a1, vi a2, vi q1]) (rest := []) (r1 := none) (h1 := q5) (ci := 8) (nn := 0) (o := 13) 24 3 tk_HF_stepTo rfl bb_Moor_move vv_Moor_move lk_0_298 (by decide) rfl rfl (Or.inl rfl) (Nat.le_of_ble_eq_true rfl) (s_Moor_move Γ 13 a1 a2 q1 q4 _ hq5) ?_
  show Ev Γ m_HF_stepTo 48 [some (vr 0 0 0), some (vi a1), some (vi a2), some (vi a3), some (vi q1), none] [] q5 r h'
  refine Ev.blk (pc' := 55) (lv' := [some (vr 0 0 0), some (vi a1), some (vi a2), some (vi a3), some (vi q1), none]) (st' := [vi a2, vi a1, vr 8 0 13, vr 0 0 0]) (h' := q5) 25 5 (Nat.le_of_ble_eq_true rfl) tk_HF_stepTo rfl rfl ⟨trivial, trivial, trivial, trivial, trivial, trivial⟩ ?_
  obtain ⟨q6, hq6, hx⟩ := bd hx
  refine Ev.callV (ν := m_HF_twitchIn) (av := [vr 8 0 13, vi a1, vi a2]) (rest := []) (r1 := some (vi q6.1)) (h1 := q6.2) (ci := 0) (nn := 0) (o := 0) 30 3 tk_HF_stepTo rfl bb_HF_twitchIn vv_HF_twitchIn lk_0_199 (by decide) rfl rfl (Or.inl rfl) (Nat.le_of_ble_eq_true rfl) (s_HF_twitchIn Γ 13 a1 a2 q5 _ hq6) ?_
  show Ev Γ m_HF_stepTo 58 [some (vr 0 0 0), some (vi a1), some (vi a2), some (vi a3), some (vi q1), none] [vi q6.1] q6.2 r h'
  refine Ev.blk (pc' := 61) (lv' := [some (vr 0 0 0), some (vi a1), some (vi a2), some (vi a3), some (vi q1), some (vi q6.1)]) (st' := [vi a3]) (h' := q6.2) 31 2 (Nat.le_of_ble_eq_true rfl) tk_HF_stepTo rfl rfl ⟨trivial, trivial, trivial⟩ ?_
  obtain ⟨q7, hq7, hx⟩ := bd hx
  have K8 : Ev Γ m_HF_stepTo 76 [some (vr 0 0 0), some (vi a1), some (vi a2), none, none, some (vi q7)] [] q6.2 r h' := by
    refine Ev.blk (pc' := 84) (lv' := [some (vr 0 0 0), some (vi a1), some (vi a2), none, none, some (vi q7)]) (st' := [vi q7, vi a2, vi a1, vr 8 0 13]) (h' := q6.2) 40 5 (Nat.le_of_ble_eq_true rfl) tk_HF_stepTo rfl rfl ⟨trivial, trivial, trivial, trivial, trivial, trivial⟩ ?_
    obtain ⟨q8, hq9, hx⟩ := bd hx
    refine Ev.callV (ν := m_Moor_write) (av := [vi a1, vi a2, vi q7]) (rest := []) (r1 := none) (h1 := q8) (ci := 8) (nn := 0) (o := 13) 45 3 tk_HF_stepTo rfl bb_Moor_write vv_Moor_write lk_0_426 (by decide) rfl rfl (Or.inl rfl) (Nat.le_of_ble_eq_true rfl) (s_Moor_write Γ 13 a1 a2 q7 q6.2 _ hq9) ?_
    show Ev Γ m_HF_stepTo 87 [some (vr 0 0 0), some (vi a1), some (vi a2), none, none, some (vi q7)] [] q8 r h'
    refine Ev.blk (pc' := 89) (lv' := [some (vr 0 0 0), some (vi a1), some (vi a2), none, none, some (vi q7)]) (st' := [vi q7]) (h' := q8) 46 1 (Nat.le_of_ble_eq_true rfl) tk_HF_stepTo rfl rfl ⟨trivial, trivial⟩ ?_
    obtain rfl := Option.some.inj hx
    obtain ⟨rfl, rfl⟩ := hP
    exact Ev.iret 47 tk_HF_stepTo rfl rfl
  clear hx
  refine Ev.if_eq 33 76 tk_HF_stepTo rfl (by decide) (fun hc10 => ?_) (fun hc10 => ?_)
  · replace hq7 := ip hc10 hq7
    obtain rfl := Option.some.inj hq7
    exact Ev.msk [true, true, true, false, false, true] K8
  · replace hq7 := ia hc10 hq7
    refine Ev.blk (pc' := 66) (lv' := [some (vr 0 0 0), some (vi a1), some (vi a2), some (vi a3), some (vi q1), some (vi q6.1)]) (st' := [vi q6.1]) (h' := q6.2) 34 1 (Nat.le_of_ble_eq_true rfl) tk_HF_stepTo rfl rfl ⟨trivial, trivial⟩ ?_
    have K11 : ∀ v11_0 : Int32, v11_0 = (if q6.1 ≤ 0 then (ii 1) else (ii 0)) → Ev Γ m_HF_stepTo 74 [some (vr 0 0 0), some (vi a1), some (vi a2), none, none, none] [vi v11_0] q6.2 r h' := by
      intro v11_0 e12
      subst e12
      refine Ev.blk (pc' := 76) (lv' := [some (vr 0 0 0), some (vi a1), some (vi a2), none, none, some (vi (if q6.1 ≤ 0 then (ii 1) else (ii 0)))]) (st' := []) (h' := q6.2) 39 1 (Nat.le_of_ble_eq_true rfl) tk_HF_stepTo rfl rfl ⟨trivial, trivial⟩ ?_
      obtain rfl := Option.some.inj hq7
      exact Ev.msk [true, true, true, false, false, true] K8
    refine Ev.if_le 35 73 tk_HF_stepTo rfl (by decide) (fun hc13 => ?_) (fun hc13 => ?_)
    · refine Ev.blk (pc' := 74) (lv' := [some (vr 0 0 0), some (vi a1), some (vi a2), some (vi a3), some (vi q1), some (vi q6.1)]) (st' := [vi (ii 1)]) (h' := q6.2) 38 1 (Nat.le_of_ble_eq_true rfl) tk_HF_stepTo rfl rfl ⟨trivial, trivial⟩ ?_
      exact Ev.msk [true, true, true, false, false, false] (K11 _ (by first | rfl | simp only [if_pos hc13]))
    · refine Ev.blk (pc' := 74) (lv' := [some (vr 0 0 0), some (vi a1), some (vi a2), some (vi a3), some (vi q1), some (vi q6.1)]) (st' := [vi (ii 0)]) (h' := q6.2) 36 2 (Nat.le_of_ble_eq_true rfl) tk_HF_stepTo rfl rfl ⟨trivial, trivial, trivial⟩ ?_
      exact Ev.msk [true, true, true, false, false, false] (K11 _ (by first | rfl | simp only [if_neg hc13]))
set_option maxRecDepth 4000 in
theorem s_HF_go (Γ : AG) (a1 : Int32) (a2 : Int32) (h : AH) (x : Int32 × AH) (hx : f_HF_go a1 a2 h = some x) : MetA Γ m_HF_go [vr 0 0 0, vi a1, vi a2] h (some (vi x.1)) x.2 := by
  refine Ev.met rfl rfl (Nat.le_of_ble_eq_true rfl) ?_
  show Ev Γ m_HF_go 0 [some (vr 0 0 0), some (vi a1), some (vi a2), none] [] h _ _
  obtain ⟨r, hr⟩ : ∃ r : Option AV, r = some (vi x.1) := ⟨_, rfl⟩
  obtain ⟨h', hh⟩ : ∃ h' : AH, h' = x.2 := ⟨_, rfl⟩
  have hP : r = some (vi x.1) ∧ h' = x.2 := ⟨hr, hh⟩
  suffices hS : Ev Γ m_HF_go 0 [some (vr 0 0 0), some (vi a1), some (vi a2), none] [] h r h' by rw [hr, hh] at hS; exact hS
  clear hr hh
  unfold f_HF_go at hx
  refine Ev.blk (pc' := 7) (lv' := [some (vr 0 0 0), some (vi a1), some (vi a2), none]) (st' := [vi a2, vi a1, vr 8 0 13, vr 0 0 0]) (h' := h) 0 5 (Nat.le_of_ble_eq_true rfl) tk_HF_go rfl rfl ⟨trivial, trivial, trivial, trivial, trivial, trivial⟩ ?_
  obtain ⟨q1, hq1, hx⟩ := bd hx
  refine Ev.callV (ν := m_HF_goal) (av := [vr 8 0 13, vi a1, vi a2]) (rest := []) (r1 := some (vi q1)) (h1 := h) (ci := 0) (nn := 0) (o := 0) 5 3 tk_HF_go rfl bb_HF_goal vv_HF_goal lk_0_203 (by decide) rfl rfl (Or.inl rfl) (Nat.le_of_ble_eq_true rfl) (s_HF_goal Γ 13 a1 a2 h _ hq1) ?_
  show Ev Γ m_HF_go 10 [some (vr 0 0 0), some (vi a1), some (vi a2), none] [vi q1] h r h'
  refine Ev.blk (pc' := 13) (lv' := [some (vr 0 0 0), some (vi a1), some (vi a2), some (vi q1)]) (st' := [vi (ii (-1)), vi q1]) (h' := h) 6 3 (Nat.le_of_ble_eq_true rfl) tk_HF_go rfl rfl ⟨trivial, trivial, trivial, trivial⟩ ?_
  refine Ev.icmp_ne 9 20 tk_HF_go rfl (by decide) (fun hc2 => ?_) (fun hc2 => ?_)
  · replace hx := ia hc2 hx
    refine Ev.blk (pc' := 24) (lv' := [some (vr 0 0 0), some (vi a1), some (vi a2), some (vi q1)]) (st' := [vi (ii 0), vi q1, vi a1, vr 0 0 0]) (h' := h) 12 4 (Nat.le_of_ble_eq_true rfl) tk_HF_go rfl rfl ⟨trivial, trivial, trivial, trivial, trivial⟩ ?_
    obtain ⟨q2, hq3, hx⟩ := bd hx
    refine Ev.callV (ν := m_HF_stepTo) (av := [vi a1, vi q1, vi (ii 0)]) (rest := []) (r1 := some (vi q2.1)) (h1 := q2.2) (ci := 0) (nn := 0) (o := 0) 16 3 tk_HF_go rfl bb_HF_stepTo vv_HF_stepTo lk_0_206 (by decide) rfl rfl (Or.inl rfl) (Nat.le_of_ble_eq_true rfl) (s_HF_stepTo Γ a1 q1 (ii 0) h _ hq3) ?_
    show Ev Γ m_HF_go 27 [some (vr 0 0 0), some (vi a1), some (vi a2), some (vi q1)] [vi q2.1] q2.2 r h'
    obtain rfl := Option.some.inj hx
    obtain ⟨rfl, rfl⟩ := hP
    exact Ev.iret 17 tk_HF_go rfl rfl
  · replace hx := ip hc2 hx
    refine Ev.blk (pc' := 27) (lv' := [some (vr 0 0 0), some (vi a1), some (vi a2), some (vi q1)]) (st' := [vi (ii (-1))]) (h' := h) 10 2 (Nat.le_of_ble_eq_true rfl) tk_HF_go rfl rfl ⟨trivial, trivial, trivial⟩ ?_
    obtain rfl := Option.some.inj hx
    obtain ⟨rfl, rfl⟩ := hP
    exact Ev.iret 17 tk_HF_go rfl rfl
theorem s_HF_canSink (Γ : AG) (a1 : Int32) (h : AH) : MetA Γ m_HF_canSink [vr 0 0 0, vi a1] h (some (vi (p_HF_canSink a1 h))) h := by
  refine Ev.met rfl rfl (Nat.le_of_ble_eq_true rfl) ?_
  generalize hx : p_HF_canSink a1 h = x
  show Ev Γ m_HF_canSink 0 [some (vr 0 0 0), some (vi a1)] [] h _ _
  obtain ⟨r, hr⟩ : ∃ r : Option AV, r = some (vi x) := ⟨_, rfl⟩
  obtain ⟨h', hh⟩ : ∃ h' : AH, h' = h := ⟨_, rfl⟩
  have hP : r = some (vi x) ∧ h' = h := ⟨hr, hh⟩
  suffices hS : Ev Γ m_HF_canSink 0 [some (vr 0 0 0), some (vi a1)] [] h r h' by rw [hr, hh] at hS; exact hS
  clear hr hh
  unfold p_HF_canSink at hx
  refine Ev.blk (pc' := 5) (lv' := [some (vr 0 0 0), some (vi a1)]) (st' := [vi a1, vr 3 0 (h.2.2 0 13)]) (h' := h) 0 3 (Nat.le_of_ble_eq_true rfl) tk_HF_canSink rfl rfl ⟨trivial, trivial, trivial, trivial⟩ ?_
  refine Ev.callV (ν := m_Heath_isCell) (av := [vi a1]) (rest := []) (r1 := some (vi (p_Heath_isCell (h.2.2 0 13) a1 h))) (h1 := h) (ci := 3) (nn := 0) (o := (h.2.2 0 13)) 3 1 tk_HF_canSink rfl bb_Heath_isCell vv_Heath_isCell lk_0_153 (by decide) rfl rfl (Or.inl rfl) (Nat.le_of_ble_eq_true rfl) (s_Heath_isCell Γ (h.2.2 0 13) a1 h) ?_
  show Ev Γ m_HF_canSink 8 [some (vr 0 0 0), some (vi a1)] [vi (p_Heath_isCell (h.2.2 0 13) a1 h)] h r h'
  refine Ev.if_eq 4 29 tk_HF_canSink rfl (by decide) (fun hc1 => ?_) (fun hc1 => ?_)
  · replace hx := ip hc1 hx
    refine Ev.blk (pc' := 30) (lv' := [some (vr 0 0 0), some (vi a1)]) (st' := [vi (ii 0)]) (h' := h) 13 1 (Nat.le_of_ble_eq_true rfl) tk_HF_canSink rfl rfl ⟨trivial, trivial⟩ ?_
    subst hx
    obtain ⟨rfl, rfl⟩ := hP
    exact Ev.zret 14 tk_HF_canSink rfl rfl rfl
  · replace hx := ia hc1 hx
    refine Ev.blk (pc' := 19) (lv' := [some (vr 0 0 0), some (vi a1)]) (st' := [vi a1, vi (h.1 13 6)]) (h' := h) 5 4 (Nat.le_of_ble_eq_true rfl) tk_HF_canSink rfl rfl ⟨trivial, trivial, trivial, trivial, trivial⟩ ?_
    refine Ev.callS (ν := m_HF_holds) (av := [vi (h.1 13 6), vi a1]) (rest := []) (r1 := some (vi (p_HF_holds (h.1 13 6) a1))) (h1 := h) 9 2 tk_HF_canSink rfl bb_HF_holds vv_HF_holds lk_0_173 (by decide) rfl rfl (Nat.le_of_ble_eq_true rfl) (s_HF_holds Γ (h.1 13 6) a1 h) ?_
    show Ev Γ m_HF_canSink 22 [some (vr 0 0 0), some (vi a1)] [vi (p_HF_holds (h.1 13 6) a1)] h r h'
    refine Ev.if_ne 10 29 tk_HF_canSink rfl (by decide) (fun hc2 => ?_) (fun hc2 => ?_)
    · replace hx := ia hc2 hx
      refine Ev.blk (pc' := 30) (lv' := [some (vr 0 0 0), some (vi a1)]) (st' := [vi (ii 0)]) (h' := h) 13 1 (Nat.le_of_ble_eq_true rfl) tk_HF_canSink rfl rfl ⟨trivial, trivial⟩ ?_
      subst hx
      obtain ⟨rfl, rfl⟩ := hP
      exact Ev.zret 14 tk_HF_canSink rfl rfl rfl
    · replace hx := ip hc2 hx
      refine Ev.blk (pc' := 30) (lv' := [some (vr 0 0 0), some (vi a1)]) (st' := [vi (ii 1)]) (h' := h) 11 2 (Nat.le_of_ble_eq_true rfl) tk_HF_canSink rfl rfl ⟨trivial, trivial, trivial⟩ ?_
      subst hx
      obtain ⟨rfl, rfl⟩ := hP
      exact Ev.zret 14 tk_HF_canSink rfl rfl rfl
set_option maxRecDepth 4000 in
theorem s_HF_isWet (Γ : AG) (a1 : Int32) (h : AH) (x : Int32) (hx : f_HF_isWet a1 h = some x) : MetA Γ m_HF_isWet [vr 0 0 0, vi a1] h (some (vi x)) h := by
  refine Ev.met rfl rfl (Nat.le_of_ble_eq_true rfl) ?_
  show Ev Γ m_HF_isWet 0 [some (vr 0 0 0), some (vi a1), none] [] h _ _
  obtain ⟨r, hr⟩ : ∃ r : Option AV, r = some (vi x) := ⟨_, rfl⟩
  obtain ⟨h', hh⟩ : ∃ h' : AH, h' = h := ⟨_, rfl⟩
  have hP : r = some (vi x) ∧ h' = h := ⟨hr, hh⟩
  suffices hS : Ev Γ m_HF_isWet 0 [some (vr 0 0 0), some (vi a1), none] [] h r h' by rw [hr, hh] at hS; exact hS
  clear hr hh
  unfold f_HF_isWet at hx
  refine Ev.blk (pc' := 12) (lv' := [some (vr 0 0 0), some (vi a1), none]) (st' := [vi (h.1 13 8), vi a1, vr 3 0 (h.2.2 0 13)]) (h' := h) 0 6 (Nat.le_of_ble_eq_true rfl) tk_HF_isWet rfl rfl ⟨trivial, trivial, trivial, trivial, trivial, trivial, trivial⟩ ?_
  obtain ⟨q1, hq1, hx⟩ := bd hx
  refine Ev.callV (ν := m_Heath_waterIn) (av := [vi a1, vi (h.1 13 8)]) (rest := []) (r1 := some (vi q1)) (h1 := h) (ci := 3) (nn := 0) (o := (h.2.2 0 13)) 6 2 tk_HF_isWet rfl bb_Heath_waterIn vv_Heath_waterIn lk_0_160 (by decide) rfl rfl (Or.inl rfl) (Nat.le_of_ble_eq_true rfl) (s_Heath_waterIn Γ (h.2.2 0 13) a1 (h.1 13 8) h _ hq1) ?_
  show Ev Γ m_HF_isWet 15 [some (vr 0 0 0), some (vi a1), none] [vi q1] h r h'
  refine Ev.blk (pc' := 18) (lv' := [some (vr 0 0 0), some (vi a1), some (vi q1)]) (st' := [vi (ii (-1)), vi q1]) (h' := h) 7 3 (Nat.le_of_ble_eq_true rfl) tk_HF_isWet rfl rfl ⟨trivial, trivial, trivial, trivial⟩ ?_
  refine Ev.icmp_eq 10 31 tk_HF_isWet rfl (by decide) (fun hc2 => ?_) (fun hc2 => ?_)
  · replace hx := ip hc2 hx
    refine Ev.blk (pc' := 32) (lv' := [some (vr 0 0 0), some (vi a1), some (vi q1)]) (st' := [vi (ii 0)]) (h' := h) 16 1 (Nat.le_of_ble_eq_true rfl) tk_HF_isWet rfl rfl ⟨trivial, trivial⟩ ?_
    obtain rfl := Option.some.inj hx
    obtain ⟨rfl, rfl⟩ := hP
    exact Ev.zret 17 tk_HF_isWet rfl rfl rfl
  · replace hx := ia hc2 hx
    refine Ev.blk (pc' := 24) (lv' := [some (vr 0 0 0), some (vi a1), some (vi q1)]) (st' := [vi (ii 60), vi q1]) (h' := h) 11 2 (Nat.le_of_ble_eq_true rfl) tk_HF_isWet rfl rfl ⟨trivial, trivial, trivial⟩ ?_
    refine Ev.icmp_gt 13 31 tk_HF_isWet rfl (by decide) (fun hc3 => ?_) (fun hc3 => ?_)
    · replace hx := ip hc3 hx
      refine Ev.blk (pc' := 32) (lv' := [some (vr 0 0 0), some (vi a1), some (vi q1)]) (st' := [vi (ii 0)]) (h' := h) 16 1 (Nat.le_of_ble_eq_true rfl) tk_HF_isWet rfl rfl ⟨trivial, trivial⟩ ?_
      obtain rfl := Option.some.inj hx
      obtain ⟨rfl, rfl⟩ := hP
      exact Ev.zret 17 tk_HF_isWet rfl rfl rfl
    · replace hx := ia hc3 hx
      refine Ev.blk (pc' := 32) (lv' := [some (vr 0 0 0), some (vi a1), some (vi q1)]) (st' := [vi (ii 1)]) (h' := h) 14 2 (Nat.le_of_ble_eq_true rfl) tk_HF_isWet rfl rfl ⟨trivial, trivial, trivial⟩ ?_
      obtain rfl := Option.some.inj hx
      obtain ⟨rfl, rfl⟩ := hP
      exact Ev.zret 17 tk_HF_isWet rfl rfl rfl
set_option maxRecDepth 4000 in
theorem s_HF_wellDepth (Γ : AG) (a1 : Int32) (h : AH) (x : Int32) (hx : f_HF_wellDepth a1 h = some x) : MetA Γ m_HF_wellDepth [vr 0 0 0, vi a1] h (some (vi x)) h := by
  refine Ev.met rfl rfl (Nat.le_of_ble_eq_true rfl) ?_
  show Ev Γ m_HF_wellDepth 0 [some (vr 0 0 0), some (vi a1)] [] h _ _
  obtain ⟨r, hr⟩ : ∃ r : Option AV, r = some (vi x) := ⟨_, rfl⟩
  obtain ⟨h', hh⟩ : ∃ h' : AH, h' = h := ⟨_, rfl⟩
  have hP : r = some (vi x) ∧ h' = h := ⟨hr, hh⟩
  suffices hS : Ev Γ m_HF_wellDepth 0 [some (vr 0 0 0), some (vi a1)] [] h r h' by rw [hr, hh] at hS; exact hS
  clear hr hh
  unfold f_HF_wellDepth at hx
  refine Ev.blk (pc' := 2) (lv' := [some (vr 0 0 0), some (vi a1)]) (st' := [vi a1, vr 0 0 0]) (h' := h) 0 2 (Nat.le_of_ble_eq_true rfl) tk_HF_wellDepth rfl rfl ⟨trivial, trivial, trivial⟩ ?_
  obtain ⟨q1, hq1, hx⟩ := bd hx
  refine Ev.callV (ν := m_HF_isWet) (av := [vi a1]) (rest := []) (r1 := some (vi q1)) (h1 := h) (ci := 0) (nn := 0) (o := 0) 2 1 tk_HF_wellDepth rfl bb_HF_isWet vv_HF_isWet lk_0_216 (by decide) rfl rfl (Or.inl rfl) (Nat.le_of_ble_eq_true rfl) (s_HF_isWet Γ a1 h _ hq1) ?_
  show Ev Γ m_HF_wellDepth 5 [some (vr 0 0 0), some (vi a1)] [vi q1] h r h'
  refine Ev.if_eq 3 26 tk_HF_wellDepth rfl (by decide) (fun hc2 => ?_) (fun hc2 => ?_)
  · replace hx := ip hc2 hx
    refine Ev.blk (pc' := 28) (lv' := [some (vr 0 0 0), some (vi a1)]) (st' := [vi (ii 60)]) (h' := h) 12 1 (Nat.le_of_ble_eq_true rfl) tk_HF_wellDepth rfl rfl ⟨trivial, trivial⟩ ?_
    obtain rfl := Option.some.inj hx
    obtain ⟨rfl, rfl⟩ := hP
    exact Ev.iret 13 tk_HF_wellDepth rfl rfl
  · replace hx := ia hc2 hx
    refine Ev.blk (pc' := 20) (lv' := [some (vr 0 0 0), some (vi a1)]) (st' := [vi (h.1 13 8), vi a1, vr 3 0 (h.2.2 0 13)]) (h' := h) 4 6 (Nat.le_of_ble_eq_true rfl) tk_HF_wellDepth rfl rfl ⟨trivial, trivial, trivial, trivial, trivial, trivial, trivial⟩ ?_
    obtain ⟨q2, hq3, hx⟩ := bd hx
    refine Ev.callV (ν := m_Heath_waterIn) (av := [vi a1, vi (h.1 13 8)]) (rest := []) (r1 := some (vi q2)) (h1 := h) (ci := 3) (nn := 0) (o := (h.2.2 0 13)) 10 2 tk_HF_wellDepth rfl bb_Heath_waterIn vv_Heath_waterIn lk_0_160 (by decide) rfl rfl (Or.inl rfl) (Nat.le_of_ble_eq_true rfl) (s_Heath_waterIn Γ (h.2.2 0 13) a1 (h.1 13 8) h _ hq3) ?_
    show Ev Γ m_HF_wellDepth 23 [some (vr 0 0 0), some (vi a1)] [vi q2] h r h'
    refine Ev.blk (pc' := 28) (lv' := [some (vr 0 0 0), some (vi a1)]) (st' := [vi q2]) (h' := h) 11 1 (Nat.le_of_ble_eq_true rfl) tk_HF_wellDepth rfl rfl ⟨trivial, trivial⟩ ?_
    obtain rfl := Option.some.inj hx
    obtain ⟨rfl, rfl⟩ := hP
    exact Ev.iret 13 tk_HF_wellDepth rfl rfl
set_option maxRecDepth 4000 in
theorem s_HF_footPrice (Γ : AG) (a1 : Int32) (h : AH) (x : Int32) (hx : f_HF_footPrice a1 h = some x) : MetA Γ m_HF_footPrice [vr 0 0 0, vi a1] h (some (vi x)) h := by
  refine Ev.met rfl rfl (Nat.le_of_ble_eq_true rfl) ?_
  show Ev Γ m_HF_footPrice 0 [some (vr 0 0 0), some (vi a1)] [] h _ _
  obtain ⟨r, hr⟩ : ∃ r : Option AV, r = some (vi x) := ⟨_, rfl⟩
  obtain ⟨h', hh⟩ : ∃ h' : AH, h' = h := ⟨_, rfl⟩
  have hP : r = some (vi x) ∧ h' = h := ⟨hr, hh⟩
  suffices hS : Ev Γ m_HF_footPrice 0 [some (vr 0 0 0), some (vi a1)] [] h r h' by rw [hr, hh] at hS; exact hS
  clear hr hh
  unfold f_HF_footPrice at hx
  refine Ev.blk (pc' := 12) (lv' := [some (vr 0 0 0), some (vi a1)]) (st' := [vi a1, vr 3 0 (h.2.2 0 13), vi (h.1 (h.2.2 0 13) 8)]) (h' := h) 0 6 (Nat.le_of_ble_eq_true rfl) tk_HF_footPrice rfl rfl ⟨trivial, trivial, trivial, trivial, trivial, trivial, trivial⟩ ?_
  obtain ⟨q1, hq1, hx⟩ := bd hx
  refine Ev.callV (ν := m_Heath_rockIn) (av := [vi a1]) (rest := [vi (h.1 (h.2.2 0 13) 8)]) (r1 := some (vi q1)) (h1 := h) (ci := 3) (nn := 0) (o := (h.2.2 0 13)) 6 1 tk_HF_footPrice rfl bb_Heath_rockIn vv_Heath_rockIn lk_0_167 (by decide) rfl rfl (Or.inl rfl) (Nat.le_of_ble_eq_true rfl) (s_Heath_rockIn Γ (h.2.2 0 13) a1 h _ hq1) ?_
  show Ev Γ m_HF_footPrice 15 [some (vr 0 0 0), some (vi a1)] [vi q1, vi (h.1 (h.2.2 0 13) 8)] h r h'
  refine Ev.blk (pc' := 16) (lv' := [some (vr 0 0 0), some (vi a1)]) (st' := [vi ((h.1 (h.2.2 0 13) 8) + q1)]) (h' := h) 7 1 (Nat.le_of_ble_eq_true rfl) tk_HF_footPrice rfl rfl ⟨trivial, trivial⟩ ?_
  obtain rfl := Option.some.inj hx
  obtain ⟨rfl, rfl⟩ := hP
  exact Ev.iret 8 tk_HF_footPrice rfl rfl
set_option maxRecDepth 4000 in
theorem s_HF_priceNow (Γ : AG) (a1 : Int32) (h : AH) (x : Int32) (hx : f_HF_priceNow a1 h = some x) : MetA Γ m_HF_priceNow [vr 0 0 0, vi a1] h (some (vi x)) h := by
  refine Ev.met rfl rfl (Nat.le_of_ble_eq_true rfl) ?_
  show Ev Γ m_HF_priceNow 0 [some (vr 0 0 0), some (vi a1)] [] h _ _
  obtain ⟨r, hr⟩ : ∃ r : Option AV, r = some (vi x) := ⟨_, rfl⟩
  obtain ⟨h', hh⟩ : ∃ h' : AH, h' = h := ⟨_, rfl⟩
  have hP : r = some (vi x) ∧ h' = h := ⟨hr, hh⟩
  suffices hS : Ev Γ m_HF_priceNow 0 [some (vr 0 0 0), some (vi a1)] [] h r h' by rw [hr, hh] at hS; exact hS
  clear hr hh
  unfold f_HF_priceNow at hx
  refine Ev.blk (pc' := 2) (lv' := [some (vr 0 0 0), some (vi a1)]) (st' := [vi a1, vr 0 0 0]) (h' := h) 0 2 (Nat.le_of_ble_eq_true rfl) tk_HF_priceNow rfl rfl ⟨trivial, trivial, trivial⟩ ?_
  obtain ⟨q1, hq1, hx⟩ := bd hx
  refine Ev.callV (ν := m_HF_wellDepth) (av := [vi a1]) (rest := []) (r1 := some (vi q1)) (h1 := h) (ci := 0) (nn := 0) (o := 0) 2 1 tk_HF_priceNow rfl bb_HF_wellDepth vv_HF_wellDepth lk_0_231 (by decide) rfl rfl (Or.inl rfl) (Nat.le_of_ble_eq_true rfl) (s_HF_wellDepth Γ a1 h _ hq1) ?_
  show Ev Γ m_HF_priceNow 5 [some (vr 0 0 0), some (vi a1)] [vi q1] h r h'
  refine Ev.blk (pc' := 7) (lv' := [some (vr 0 0 0), some (vi a1)]) (st' := [vi a1, vr 0 0 0, vi q1]) (h' := h) 3 2 (Nat.le_of_ble_eq_true rfl) tk_HF_priceNow rfl rfl ⟨trivial, trivial, trivial⟩ ?_
  obtain ⟨q2, hq2, hx⟩ := bd hx
  refine Ev.callV (ν := m_HF_footPrice) (av := [vi a1]) (rest := [vi q1]) (r1 := some (vi q2)) (h1 := h) (ci := 0) (nn := 0) (o := 0) 5 1 tk_HF_priceNow rfl bb_HF_footPrice vv_HF_footPrice lk_0_265 (by decide) rfl rfl (Or.inl rfl) (Nat.le_of_ble_eq_true rfl) (s_HF_footPrice Γ a1 h _ hq2) ?_
  show Ev Γ m_HF_priceNow 10 [some (vr 0 0 0), some (vi a1)] [vi q2, vi q1] h r h'
  refine Ev.blk (pc' := 11) (lv' := [some (vr 0 0 0), some (vi a1)]) (st' := [vi (q1 * q2)]) (h' := h) 6 1 (Nat.le_of_ble_eq_true rfl) tk_HF_priceNow rfl rfl ⟨trivial, trivial⟩ ?_
  obtain rfl := Option.some.inj hx
  obtain ⟨rfl, rfl⟩ := hP
  exact Ev.iret 7 tk_HF_priceNow rfl rfl
theorem s_Moor_bookLength (Γ : AG) (o0 : Nat) (h : AH) : MetA Γ m_Moor_bookLength [vr 8 0 o0] h (some (vi (p_Moor_bookLength o0 h))) h := by
  refine Ev.met rfl rfl (Nat.le_of_ble_eq_true rfl) ?_
  generalize hx : p_Moor_bookLength o0 h = x
  show Ev Γ m_Moor_bookLength 0 [some (vr 8 0 o0)] [] h _ _
  obtain ⟨r, hr⟩ : ∃ r : Option AV, r = some (vi x) := ⟨_, rfl⟩
  obtain ⟨h', hh⟩ : ∃ h' : AH, h' = h := ⟨_, rfl⟩
  have hP : r = some (vi x) ∧ h' = h := ⟨hr, hh⟩
  suffices hS : Ev Γ m_Moor_bookLength 0 [some (vr 8 0 o0)] [] h r h' by rw [hr, hh] at hS; exact hS
  clear hr hh
  unfold p_Moor_bookLength at hx
  refine Ev.blk (pc' := 6) (lv' := [some (vr 8 0 o0)]) (st' := [vi (ii 60), vi (h.1 o0 5)]) (h' := h) 0 3 (Nat.le_of_ble_eq_true rfl) tk_Moor_bookLength rfl rfl ⟨trivial, trivial, trivial, trivial⟩ ?_
  refine Ev.mmin (rest := []) 3 tk_Moor_bookLength rfl lk_8_72 (by decide) (Nat.le_of_ble_eq_true rfl) ?_
  show Ev Γ m_Moor_bookLength 9 [some (vr 8 0 o0)] [vi (p_Math_min (h.1 o0 5) (ii 60))] h r h'
  subst hx
  obtain ⟨rfl, rfl⟩ := hP
  exact Ev.iret 4 tk_Moor_bookLength rfl rfl
set_option maxRecDepth 4000 in
theorem s_Moor_pageAt (Γ : AG) (o0 : Nat) (a1 : Int32) (h : AH) (x : Int32) (hx : f_Moor_pageAt o0 a1 h = some x) : MetA Γ m_Moor_pageAt [vr 8 0 o0, vi a1] h (some (vi x)) h := by
  refine Ev.met rfl rfl (Nat.le_of_ble_eq_true rfl) ?_
  show Ev Γ m_Moor_pageAt 0 [some (vr 8 0 o0), some (vi a1), none] [] h _ _
  obtain ⟨r, hr⟩ : ∃ r : Option AV, r = some (vi x) := ⟨_, rfl⟩
  obtain ⟨h', hh⟩ : ∃ h' : AH, h' = h := ⟨_, rfl⟩
  have hP : r = some (vi x) ∧ h' = h := ⟨hr, hh⟩
  suffices hS : Ev Γ m_Moor_pageAt 0 [some (vr 8 0 o0), some (vi a1), none] [] h r h' by rw [hr, hh] at hS; exact hS
  clear hr hh
  unfold f_Moor_pageAt at hx
  obtain ⟨hg1, hx⟩ := gd hx
  refine Ev.blk (pc' := 13) (lv' := [some (vr 8 0 o0), some (vi a1), some (vi (remI (((h.1 o0 5) - (ii 1)) - a1) (ii 100)))]) (st' := [vi (remI (((h.1 o0 5) - (ii 1)) - a1) (ii 100))]) (h' := h) 0 10 (Nat.le_of_ble_eq_true rfl) tk_Moor_pageAt rfl rfl ⟨trivial, trivial, trivial, trivial, trivial, trivial, trivial, hg1, trivial, trivial, trivial⟩ ?_
  refine Ev.if_lt 10 25 tk_Moor_pageAt rfl (by decide) (fun hc2 => ?_) (fun hc2 => ?_)
  · replace hx := ip hc2 hx
    refine Ev.blk (pc' := 26) (lv' := [some (vr 8 0 o0), some (vi a1), some (vi (remI (((h.1 o0 5) - (ii 1)) - a1) (ii 100)))]) (st' := [vi (ii 0)]) (h' := h) 16 1 (Nat.le_of_ble_eq_true rfl) tk_Moor_pageAt rfl rfl ⟨trivial, trivial⟩ ?_
    obtain rfl := Option.some.inj hx
    obtain ⟨rfl, rfl⟩ := hP
    exact Ev.iret 17 tk_Moor_pageAt rfl rfl
  · replace hx := ia hc2 hx
    obtain ⟨hg3, hx⟩ := gd hx
    refine Ev.blk (pc' := 26) (lv' := [some (vr 8 0 o0), some (vi a1), some (vi (remI (((h.1 o0 5) - (ii 1)) - a1) (ii 100)))]) (st' := [vi (h.1 (o0 + 4) (remI (((h.1 o0 5) - (ii 1)) - a1) (ii 100)).toNatClampNeg)]) (h' := h) 11 5 (Nat.le_of_ble_eq_true rfl) tk_Moor_pageAt rfl rfl ⟨trivial, trivial, trivial, hg3, trivial, trivial⟩ ?_
    obtain rfl := Option.some.inj hx
    obtain ⟨rfl, rfl⟩ := hP
    exact Ev.iret 17 tk_Moor_pageAt rfl rfl
set_option maxRecDepth 4000 in
theorem s_Moor_cellOn (Γ : AG) (o0 : Nat) (a1 : Int32) (h : AH) (x : Int32) (hx : f_Moor_cellOn o0 a1 h = some x) : MetA Γ m_Moor_cellOn [vr 8 0 o0, vi a1] h (some (vi x)) h := by
  refine Ev.met rfl rfl (Nat.le_of_ble_eq_true rfl) ?_
  show Ev Γ m_Moor_cellOn 0 [some (vr 8 0 o0), some (vi a1)] [] h _ _
  obtain ⟨r, hr⟩ : ∃ r : Option AV, r = some (vi x) := ⟨_, rfl⟩
  obtain ⟨h', hh⟩ : ∃ h' : AH, h' = h := ⟨_, rfl⟩
  have hP : r = some (vi x) ∧ h' = h := ⟨hr, hh⟩
  suffices hS : Ev Γ m_Moor_cellOn 0 [some (vr 8 0 o0), some (vi a1)] [] h r h' by rw [hr, hh] at hS; exact hS
  clear hr hh
  unfold f_Moor_cellOn at hx
  refine Ev.blk (pc' := 2) (lv' := [some (vr 8 0 o0), some (vi a1)]) (st' := [vi a1, vr 8 0 o0]) (h' := h) 0 2 (Nat.le_of_ble_eq_true rfl) tk_Moor_cellOn rfl rfl ⟨trivial, trivial, trivial⟩ ?_
  obtain ⟨q1, hq1, hx⟩ := bd hx
  refine Ev.callV (ν := m_Moor_pageAt) (av := [vi a1]) (rest := []) (r1 := some (vi q1)) (h1 := h) (ci := 8) (nn := 0) (o := o0) 2 1 tk_Moor_cellOn rfl bb_Moor_pageAt vv_Moor_pageAt lk_8_75 (by decide) rfl rfl (Or.inl rfl) (Nat.le_of_ble_eq_true rfl) (s_Moor_pageAt Γ o0 a1 h _ hq1) ?_
  show Ev Γ m_Moor_cellOn 5 [some (vr 8 0 o0), some (vi a1)] [vi q1] h r h'
  obtain ⟨hg2, hx⟩ := gd hx
  obtain ⟨hg3, hx⟩ := gd hx
  refine Ev.blk (pc' := 11) (lv' := [some (vr 8 0 o0), some (vi a1)]) (st' := [vi (remI (q1 / (ii 100)) (ii 100))]) (h' := h) 3 4 (Nat.le_of_ble_eq_true rfl) tk_Moor_cellOn rfl rfl ⟨trivial, hg2, trivial, hg3, trivial⟩ ?_
  obtain rfl := Option.some.inj hx
  obtain ⟨rfl, rfl⟩ := hP
  exact Ev.iret 7 tk_Moor_cellOn rfl rfl
set_option maxRecDepth 4000 in
theorem s_Moor_twitchOn (Γ : AG) (o0 : Nat) (a1 : Int32) (h : AH) (x : Int32) (hx : f_Moor_twitchOn o0 a1 h = some x) : MetA Γ m_Moor_twitchOn [vr 8 0 o0, vi a1] h (some (vi x)) h := by
  refine Ev.met rfl rfl (Nat.le_of_ble_eq_true rfl) ?_
  show Ev Γ m_Moor_twitchOn 0 [some (vr 8 0 o0), some (vi a1)] [] h _ _
  obtain ⟨r, hr⟩ : ∃ r : Option AV, r = some (vi x) := ⟨_, rfl⟩
  obtain ⟨h', hh⟩ : ∃ h' : AH, h' = h := ⟨_, rfl⟩
  have hP : r = some (vi x) ∧ h' = h := ⟨hr, hh⟩
  suffices hS : Ev Γ m_Moor_twitchOn 0 [some (vr 8 0 o0), some (vi a1)] [] h r h' by rw [hr, hh] at hS; exact hS
  clear hr hh
  unfold f_Moor_twitchOn at hx
  refine Ev.blk (pc' := 2) (lv' := [some (vr 8 0 o0), some (vi a1)]) (st' := [vi a1, vr 8 0 o0]) (h' := h) 0 2 (Nat.le_of_ble_eq_true rfl) tk_Moor_twitchOn rfl rfl ⟨trivial, trivial, trivial⟩ ?_
  obtain ⟨q1, hq1, hx⟩ := bd hx
  refine Ev.callV (ν := m_Moor_pageAt) (av := [vi a1]) (rest := []) (r1 := some (vi q1)) (h1 := h) (ci := 8) (nn := 0) (o := o0) 2 1 tk_Moor_twitchOn rfl bb_Moor_pageAt vv_Moor_pageAt lk_8_75 (by decide) rfl rfl (Or.inl rfl) (Nat.le_of_ble_eq_true rfl) (s_Moor_pageAt Γ o0 a1 h _ hq1) ?_
  show Ev Γ m_Moor_twitchOn 5 [some (vr 8 0 o0), some (vi a1)] [vi q1] h r h'
  obtain ⟨hg2, hx⟩ := gd hx
  refine Ev.blk (pc' := 8) (lv' := [some (vr 8 0 o0), some (vi a1)]) (st' := [vi (remI q1 (ii 100))]) (h' := h) 3 2 (Nat.le_of_ble_eq_true rfl) tk_Moor_twitchOn rfl rfl ⟨trivial, hg2, trivial⟩ ?_
  obtain rfl := Option.some.inj hx
  obtain ⟨rfl, rfl⟩ := hP
  exact Ev.iret 5 tk_Moor_twitchOn rfl rfl
set_option maxRecDepth 4000 in
theorem s_Moor_forkOn (Γ : AG) (o0 : Nat) (a1 : Int32) (h : AH) (x : Int32) (hx : f_Moor_forkOn o0 a1 h = some x) : MetA Γ m_Moor_forkOn [vr 8 0 o0, vi a1] h (some (vi x)) h := by
  refine Ev.met rfl rfl (Nat.le_of_ble_eq_true rfl) ?_
  show Ev Γ m_Moor_forkOn 0 [some (vr 8 0 o0), some (vi a1)] [] h _ _
  obtain ⟨r, hr⟩ : ∃ r : Option AV, r = some (vi x) := ⟨_, rfl⟩
  obtain ⟨h', hh⟩ : ∃ h' : AH, h' = h := ⟨_, rfl⟩
  have hP : r = some (vi x) ∧ h' = h := ⟨hr, hh⟩
  suffices hS : Ev Γ m_Moor_forkOn 0 [some (vr 8 0 o0), some (vi a1)] [] h r h' by rw [hr, hh] at hS; exact hS
  clear hr hh
  unfold f_Moor_forkOn at hx
  refine Ev.blk (pc' := 2) (lv' := [some (vr 8 0 o0), some (vi a1)]) (st' := [vi a1, vr 8 0 o0]) (h' := h) 0 2 (Nat.le_of_ble_eq_true rfl) tk_Moor_forkOn rfl rfl ⟨trivial, trivial, trivial⟩ ?_
  obtain ⟨q1, hq1, hx⟩ := bd hx
  refine Ev.callV (ν := m_Moor_pageAt) (av := [vi a1]) (rest := []) (r1 := some (vi q1)) (h1 := h) (ci := 8) (nn := 0) (o := o0) 2 1 tk_Moor_forkOn rfl bb_Moor_pageAt vv_Moor_pageAt lk_8_75 (by decide) rfl rfl (Or.inl rfl) (Nat.le_of_ble_eq_true rfl) (s_Moor_pageAt Γ o0 a1 h _ hq1) ?_
  show Ev Γ m_Moor_forkOn 5 [some (vr 8 0 o0), some (vi a1)] [vi q1] h r h'
  obtain ⟨hg2, hx⟩ := gd hx
  refine Ev.blk (pc' := 9) (lv' := [some (vr 8 0 o0), some (vi a1)]) (st' := [vi (q1 / (ii 10000))]) (h' := h) 3 2 (Nat.le_of_ble_eq_true rfl) tk_Moor_forkOn rfl rfl ⟨trivial, hg2, trivial⟩ ?_
  obtain rfl := Option.some.inj hx
  obtain ⟨rfl, rfl⟩ := hP
  exact Ev.iret 5 tk_Moor_forkOn rfl rfl
set_option maxRecDepth 4000 in
theorem l_Moor_twitchersIn_L4 (Γ : AG) : ∀ (n : Nat) (o0 : Nat) (v1 : Int32) (v2 : Int32) (v3 : Int32) (h : AH) (x : Int32), Moor_twitchersIn_L4 n o0 v1 v2 v3 h = some x → ∀ (r : Option AV) (h' : AH), r = some (vi x) ∧ h' = h → Ev Γ m_Moor_twitchersIn 4 [some (vr 8 0 o0), some (vi v1), some (vi v2), some (vi v3)] [] h r h' := by
  intro n
  induction n with
  | zero => intro o0 v1 v2 v3 h x hx; cases hx
  | succ n ih =>
    intro o0 v1 v2 v3 h x hx r h' hP
    replace hx : Moor_twitchersIn_L4_b (Moor_twitchersIn_L4 n) o0 v1 v2 v3 h = some x := hx
    unfold Moor_twitchersIn_L4_b at hx
    refine Ev.blk (pc' := 6) (lv' := [some (vr 8 0 o0), some (vi v1), some (vi v2), some (vi v3)]) (st' := [vr 8 0 o0, vi v3]) (h' := h) 4 2 (Nat.le_of_ble_eq_true rfl) tk_Moor_twitchersIn rfl rfl ⟨trivial, trivial, trivial⟩ ?_
    refine Ev.callV (ν := m_Moor_bookLength) (av := []) (rest := [vi v3]) (r1 := some (vi (p_Moor_bookLength o0 h))) (h1 := h) (ci := 8) (nn := 0) (o := o0) 6 0 tk_Moor_twitchersIn rfl bb_Moor_bookLength vv_Moor_bookLength lk_8_78 (by decide) rfl rfl (Or.inl rfl) (Nat.le_of_ble_eq_true rfl) (s_Moor_bookLength Γ o0 h) ?_
    show Ev Γ m_Moor_twitchersIn 9 [some (vr 8 0 o0), some (vi v1), some (vi v2), some (vi v3)] [vi (p_Moor_bookLength o0 h), vi v3] h r h'
    refine Ev.icmp_ge 7 46 tk_Moor_twitchersIn rfl (by decide) (fun hc1 => ?_) (fun hc1 => ?_)
    · replace hx := ip hc1 hx
      refine Ev.blk (pc' := 47) (lv' := [some (vr 8 0 o0), some (vi v1), some (vi v2), some (vi v3)]) (st' := [vi v2]) (h' := h) 26 1 (Nat.le_of_ble_eq_true rfl) tk_Moor_twitchersIn rfl rfl ⟨trivial, trivial⟩ ?_
      obtain rfl := Option.some.inj hx
      obtain ⟨rfl, rfl⟩ := hP
      exact Ev.iret 27 tk_Moor_twitchersIn rfl rfl
    · replace hx := ia hc1 hx
      refine Ev.blk (pc' := 14) (lv' := [some (vr 8 0 o0), some (vi v1), some (vi v2), some (vi v3)]) (st' := [vi v3, vr 8 0 o0]) (h' := h) 8 2 (Nat.le_of_ble_eq_true rfl) tk_Moor_twitchersIn rfl rfl ⟨trivial, trivial, trivial⟩ ?_
      obtain ⟨q1, hq2, hx⟩ := bd hx
      refine Ev.callV (ν := m_Moor_cellOn) (av := [vi v3]) (rest := []) (r1 := some (vi q1)) (h1 := h) (ci := 8) (nn := 0) (o := o0) 10 1 tk_Moor_twitchersIn rfl bb_Moor_cellOn vv_Moor_cellOn lk_8_82 (by decide) rfl rfl (Or.inl rfl) (Nat.le_of_ble_eq_true rfl) (s_Moor_cellOn Γ o0 v3 h _ hq2) ?_
      show Ev Γ m_Moor_twitchersIn 17 [some (vr 8 0 o0), some (vi v1), some (vi v2), some (vi v3)] [vi q1] h r h'
      refine Ev.blk (pc' := 18) (lv' := [some (vr 8 0 o0), some (vi v1), some (vi v2), some (vi v3)]) (st' := [vi v1, vi q1]) (h' := h) 11 1 (Nat.le_of_ble_eq_true rfl) tk_Moor_twitchersIn rfl rfl ⟨trivial, trivial⟩ ?_
      obtain ⟨q4, hq3, hx⟩ := bd hx
      have K4 : Ev Γ m_Moor_twitchersIn 40 [some (vr 8 0 o0), some (vi v1), some (vi q4), some (vi v3)] [] h r h' := by
        refine Ev.blk (pc' := 4) (lv' := [some (vr 8 0 o0), some (vi v1), some (vi q4), some (vi (v3 + ii 1))]) (st' := []) (h' := h) 24 2 (Nat.le_of_ble_eq_true rfl) tk_Moor_twitchersIn rfl rfl ⟨trivial, trivial, trivial⟩ ?_
        exact Ev.msk [true, true, true, true] (ih o0 v1 q4 (v3 + ii 1) h _ hx r h' hP)
      clear hx
      refine Ev.icmp_ne 12 40 tk_Moor_twitchersIn rfl (by decide) (fun hc5 => ?_) (fun hc5 => ?_)
      · replace hq3 := ia hc5 hq3
        obtain rfl := Option.some.inj hq3
        exact Ev.msk [true, true, true, true] K4
      · replace hq3 := ip hc5 hq3
        refine Ev.blk (pc' := 23) (lv' := [some (vr 8 0 o0), some (vi v1), some (vi v2), some (vi v3)]) (st' := [vi v3, vr 8 0 o0]) (h' := h) 13 2 (Nat.le_of_ble_eq_true rfl) tk_Moor_twitchersIn rfl rfl ⟨trivial, trivial, trivial⟩ ?_
        obtain ⟨q2, hq6, hq3⟩ := bd hq3
        refine Ev.callV (ν := m_Moor_twitchOn) (av := [vi v3]) (rest := []) (r1 := some (vi q2)) (h1 := h) (ci := 8) (nn := 0) (o := o0) 15 1 tk_Moor_twitchersIn rfl bb_Moor_twitchOn vv_Moor_twitchOn lk_8_85 (by decide) rfl rfl (Or.inl rfl) (Nat.le_of_ble_eq_true rfl) (s_Moor_twitchOn Γ o0 v3 h _ hq6) ?_
        show Ev Γ m_Moor_twitchersIn 26 [some (vr 8 0 o0), some (vi v1), some (vi v2), some (vi v3)] [vi q2] h r h'
        refine Ev.if_le 16 40 tk_Moor_twitchersIn rfl (by decide) (fun hc7 => ?_) (fun hc7 => ?_)
        · replace hq3 := ip hc7 hq3
          obtain rfl := Option.some.inj hq3
          exact Ev.msk [true, true, true, true] K4
        · replace hq3 := ia hc7 hq3
          refine Ev.blk (pc' := 32) (lv' := [some (vr 8 0 o0), some (vi v1), some (vi v2), some (vi v3)]) (st' := [vi v3, vr 8 0 o0, vi v2]) (h' := h) 17 3 (Nat.le_of_ble_eq_true rfl) tk_Moor_twitchersIn rfl rfl ⟨trivial, trivial, trivial, trivial⟩ ?_
          obtain ⟨q3, hq8, hq3⟩ := bd hq3
          refine Ev.callV (ν := m_Moor_forkOn) (av := [vi v3]) (rest := [vi v2]) (r1 := some (vi q3)) (h1 := h) (ci := 8) (nn := 0) (o := o0) 20 1 tk_Moor_twitchersIn rfl bb_Moor_forkOn vv_Moor_forkOn lk_8_88 (by decide) rfl rfl (Or.inl rfl) (Nat.le_of_ble_eq_true rfl) (s_Moor_forkOn Γ o0 v3 h _ hq8) ?_
          show Ev Γ m_Moor_twitchersIn 35 [some (vr 8 0 o0), some (vi v1), some (vi v2), some (vi v3)] [vi q3, vi v2] h r h'
          refine Ev.callSN (ν := m_HF_bit) (av := [vi q3]) (rest := [vi v2]) (r1 := some (vi (p_HF_bit q3))) (h1 := h) 21 1 tk_Moor_twitchersIn rfl bb_HF_bit vv_HF_bit lk_8_64 (by decide) rfl rfl (Nat.le_of_ble_eq_true rfl) (s_HF_bit Γ q3 h) ?_
          show Ev Γ m_Moor_twitchersIn 38 [some (vr 8 0 o0), some (vi v1), some (vi v2), some (vi v3)] [vi (p_HF_bit q3), vi v2] h r h'
          refine Ev.blk (pc' := 40) (lv' := [some (vr 8 0 o0), some (vi v1), some (vi (v2 ||| (p_HF_bit q3))), some (vi v3)]) (st' := []) (h' := h) 22 2 (Nat.le_of_ble_eq_true rfl) tk_Moor_twitchersIn rfl rfl ⟨trivial, trivial, trivial⟩ ?_
          obtain rfl := Option.some.inj hq3
          exact Ev.msk [true, true, true, true] K4
set_option maxRecDepth 4000 in
theorem s_Moor_twitchersIn (Γ : AG) (o0 : Nat) (a1 : Int32) (h : AH) (x : Int32) (hx : f_Moor_twitchersIn o0 a1 h = some x) : MetA Γ m_Moor_twitchersIn [vr 8 0 o0, vi a1] h (some (vi x)) h := by
  refine Ev.met rfl rfl (Nat.le_of_ble_eq_true rfl) ?_
  show Ev Γ m_Moor_twitchersIn 0 [some (vr 8 0 o0), some (vi a1), none, none] [] h _ _
  obtain ⟨r, hr⟩ : ∃ r : Option AV, r = some (vi x) := ⟨_, rfl⟩
  obtain ⟨h', hh⟩ : ∃ h' : AH, h' = h := ⟨_, rfl⟩
  have hP : r = some (vi x) ∧ h' = h := ⟨hr, hh⟩
  suffices hS : Ev Γ m_Moor_twitchersIn 0 [some (vr 8 0 o0), some (vi a1), none, none] [] h r h' by rw [hr, hh] at hS; exact hS
  clear hr hh
  unfold f_Moor_twitchersIn at hx
  refine Ev.blk (pc' := 4) (lv' := [some (vr 8 0 o0), some (vi a1), some (vi (ii 0)), some (vi (ii 0))]) (st' := []) (h' := h) 0 4 (Nat.le_of_ble_eq_true rfl) tk_Moor_twitchersIn rfl rfl ⟨trivial, trivial, trivial, trivial, trivial⟩ ?_
  refine Ev.msk [true, true, true, true] ?_
  show Ev Γ m_Moor_twitchersIn 4 [some (vr 8 0 o0), some (vi a1), some (vi (ii 0)), some (vi (ii 0))] [] h r h'
  exact l_Moor_twitchersIn_L4 Γ FU o0 a1 (ii 0) (ii 0) h _ hx r h' hP
theorem s_Int_bitCount (Γ : AG) (a0 : Int32) (h : AH) : MetA Γ m_Int_bitCount [vi a0] h (some (vi (p_Int_bitCount a0))) h := by
  refine Ev.met rfl rfl (Nat.le_of_ble_eq_true rfl) ?_
  generalize hx : p_Int_bitCount a0 = x
  show Ev Γ m_Int_bitCount 0 [some (vi a0)] [] h _ _
  obtain ⟨r, hr⟩ : ∃ r : Option AV, r = some (vi x) := ⟨_, rfl⟩
  obtain ⟨h', hh⟩ : ∃ h' : AH, h' = h := ⟨_, rfl⟩
  have hP : r = some (vi x) ∧ h' = h := ⟨hr, hh⟩
  suffices hS : Ev Γ m_Int_bitCount 0 [some (vi a0)] [] h r h' by rw [hr, hh] at hS; exact hS
  clear hr hh
  unfold p_Int_bitCount at hx
  refine Ev.blk (pc' := 52) (lv' := [some (vi (((((((a0 - ((ushI a0 (ii 1)) &&& (ii 1431655765))) &&& (ii 858993459)) + ((ushI (a0 - ((ushI a0 (ii 1)) &&& (ii 1431655765))) (ii 2)) &&& (ii 858993459))) + (ushI (((a0 - ((ushI a0 (ii 1)) &&& (ii 1431655765))) &&& (ii 858993459)) + ((ushI (a0 - ((ushI a0 (ii 1)) &&& (ii 1431655765))) (ii 2)) &&& (ii 858993459))) (ii 4))) &&& (ii 252645135)) + (ushI (((((a0 - ((ushI a0 (ii 1)) &&& (ii 1431655765))) &&& (ii 858993459)) + ((ushI (a0 - ((ushI a0 (ii 1)) &&& (ii 1431655765))) (ii 2)) &&& (ii 858993459))) + (ushI (((a0 - ((ushI a0 (ii 1)) &&& (ii 1431655765))) &&& (ii 858993459)) + ((ushI (a0 - ((ushI a0 (ii 1)) &&& (ii 1431655765))) (ii 2)) &&& (ii 858993459))) (ii 4))) &&& (ii 252645135)) (ii 8))) + (ushI ((((((a0 - ((ushI a0 (ii 1)) &&& (ii 1431655765))) &&& (ii 858993459)) + ((ushI (a0 - ((ushI a0 (ii 1)) &&& (ii 1431655765))) (ii 2)) &&& (ii 858993459))) + (ushI (((a0 - ((ushI a0 (ii 1)) &&& (ii 1431655765))) &&& (ii 858993459)) + ((ushI (a0 - ((ushI a0 (ii 1)) &&& (ii 1431655765))) (ii 2)) &&& (ii 858993459))) (ii 4))) &&& (ii 252645135)) + (ushI (((((a0 - ((ushI a0 (ii 1)) &&& (ii 1431655765))) &&& (ii 858993459)) + ((ushI (a0 - ((ushI a0 (ii 1)) &&& (ii 1431655765))) (ii 2)) &&& (ii 858993459))) + (ushI (((a0 - ((ushI a0 (ii 1)) &&& (ii 1431655765))) &&& (ii 858993459)) + ((ushI (a0 - ((ushI a0 (ii 1)) &&& (ii 1431655765))) (ii 2)) &&& (ii 858993459))) (ii 4))) &&& (ii 252645135)) (ii 8))) (ii 16))))]) (st' := [vi ((((((((a0 - ((ushI a0 (ii 1)) &&& (ii 1431655765))) &&& (ii 858993459)) + ((ushI (a0 - ((ushI a0 (ii 1)) &&& (ii 1431655765))) (ii 2)) &&& (ii 858993459))) + (ushI (((a0 - ((ushI a0 (ii 1)) &&& (ii 1431655765))) &&& (ii 858993459)) + ((ushI (a0 - ((ushI a0 (ii 1)) &&& (ii 1431655765))) (ii 2)) &&& (ii 858993459))) (ii 4))) &&& (ii 252645135)) + (ushI (((((a0 - ((ushI a0 (ii 1)) &&& (ii 1431655765))) &&& (ii 858993459)) + ((ushI (a0 - ((ushI a0 (ii 1)) &&& (ii 1431655765))) (ii 2)) &&& (ii 858993459))) + (ushI (((a0 - ((ushI a0 (ii 1)) &&& (ii 1431655765))) &&& (ii 858993459)) + ((ushI (a0 - ((ushI a0 (ii 1)) &&& (ii 1431655765))) (ii 2)) &&& (ii 858993459))) (ii 4))) &&& (ii 252645135)) (ii 8))) + (ushI ((((((a0 - ((ushI a0 (ii 1)) &&& (ii 1431655765))) &&& (ii 858993459)) + ((ushI (a0 - ((ushI a0 (ii 1)) &&& (ii 1431655765))) (ii 2)) &&& (ii 858993459))) + (ushI (((a0 - ((ushI a0 (ii 1)) &&& (ii 1431655765))) &&& (ii 858993459)) + ((ushI (a0 - ((ushI a0 (ii 1)) &&& (ii 1431655765))) (ii 2)) &&& (ii 858993459))) (ii 4))) &&& (ii 252645135)) + (ushI (((((a0 - ((ushI a0 (ii 1)) &&& (ii 1431655765))) &&& (ii 858993459)) + ((ushI (a0 - ((ushI a0 (ii 1)) &&& (ii 1431655765))) (ii 2)) &&& (ii 858993459))) + (ushI (((a0 - ((ushI a0 (ii 1)) &&& (ii 1431655765))) &&& (ii 858993459)) + ((ushI (a0 - ((ushI a0 (ii 1)) &&& (ii 1431655765))) (ii 2)) &&& (ii 858993459))) (ii 4))) &&& (ii 252645135)) (ii 8))) (ii 16))) &&& (ii 63))]) (h' := h) 0 41 (Nat.le_of_ble_eq_true rfl) tk_Int_bitCount rfl rfl ⟨trivial, trivial, trivial, trivial, trivial, trivial, trivial, trivial, trivial, trivial, trivial, trivial, trivial, trivial, trivial, trivial, trivial, trivial, trivial, trivial, trivial, trivial, trivial, trivial, trivial, trivial, trivial, trivial, trivial, trivial, trivial, trivial, trivial, trivial, trivial, trivial, trivial, trivial, trivial, trivial, trivial, trivial⟩ ?_
  subst hx
  obtain ⟨rfl, rfl⟩ := hP
  exact Ev.iret 41 tk_Int_bitCount rfl rfl
set_option maxRecDepth 4000 in
theorem s_Moor_addWell (Γ : AG) (o0 : Nat) (a1 : Int32) (a2 : Int32) (a3 : Int32) (h : AH) (x : AH) (hx : f_Moor_addWell o0 a1 a2 a3 h = some x) : MetA Γ m_Moor_addWell [vr 8 0 o0, vi a1, vi a2, vi a3] h (none) x := by
  refine Ev.met rfl rfl (Nat.le_of_ble_eq_true rfl) ?_
  show Ev Γ m_Moor_addWell 0 [some (vr 8 0 o0), some (vi a1), some (vi a2), some (vi a3)] [] h _ _
  obtain ⟨r, hr⟩ : ∃ r : Option AV, r = none := ⟨_, rfl⟩
  obtain ⟨h', hh⟩ : ∃ h' : AH, h' = x := ⟨_, rfl⟩
  have hP : r = none ∧ h' = x := ⟨hr, hh⟩
  suffices hS : Ev Γ m_Moor_addWell 0 [some (vr 8 0 o0), some (vi a1), some (vi a2), some (vi a3)] [] h r h' by rw [hr, hh] at hS; exact hS
  clear hr hh
  unfold f_Moor_addWell at hx
  refine Ev.blk (pc' := 1) (lv' := [some (vr 8 0 o0), some (vi a1), some (vi a2), some (vi a3)]) (st' := [vi a1]) (h' := h) 0 1 (Nat.le_of_ble_eq_true rfl) tk_Moor_addWell rfl rfl ⟨trivial, trivial⟩ ?_
  refine Ev.if_lt 1 40 tk_Moor_addWell rfl (by decide) (fun hc1 => ?_) (fun hc1 => ?_)
  · replace hx := ip hc1 hx
    obtain rfl := Option.some.inj hx
    obtain ⟨rfl, rfl⟩ := hP
    exact Ev.vret 23 tk_Moor_addWell rfl rfl
  · replace hx := ia hc1 hx
    refine Ev.blk (pc' := 7) (lv' := [some (vr 8 0 o0), some (vi a1), some (vi a2), some (vi a3)]) (st' := [vi (ii 30), vi a1]) (h' := h) 2 2 (Nat.le_of_ble_eq_true rfl) tk_Moor_addWell rfl rfl ⟨trivial, trivial, trivial⟩ ?_
    refine Ev.icmp_ge 4 40 tk_Moor_addWell rfl (by decide) (fun hc2 => ?_) (fun hc2 => ?_)
    · replace hx := ip hc2 hx
      obtain rfl := Option.some.inj hx
      obtain ⟨rfl, rfl⟩ := hP
      exact Ev.vret 23 tk_Moor_addWell rfl rfl
    · replace hx := ia hc2 hx
      obtain ⟨hg3, hx⟩ := gd hx
      refine Ev.blk (pc' := 23) (lv' := [some (vr 8 0 o0), some (vi a1), some (vi a2), some (vi a3)]) (st' := [vi a1, vi ((wI h (o0 + 5) a1.toNatClampNeg a2).1 o0 6), vr 8 0 o0]) (h' := (wI h (o0 + 5) a1.toNatClampNeg a2)) 5 9 (Nat.le_of_ble_eq_true rfl) tk_Moor_addWell rfl rfl ⟨trivial, trivial, trivial, trivial, hg3, trivial, trivial, trivial, trivial, trivial⟩ ?_
      refine Ev.callSN (ν := m_HF_bit) (av := [vi a1]) (rest := [vi ((wI h (o0 + 5) a1.toNatClampNeg a2).1 o0 6), vr 8 0 o0]) (r1 := some (vi (p_HF_bit a1))) (h1 := (wI h (o0 + 5) a1.toNatClampNeg a2)) 14 1 tk_Moor_addWell rfl bb_HF_bit vv_HF_bit lk_8_64 (by decide) rfl rfl (Nat.le_of_ble_eq_true rfl) (s_HF_bit Γ a1 (wI h (o0 + 5) a1.toNatClampNeg a2)) ?_
      show Ev Γ m_Moor_addWell 26 [some (vr 8 0 o0), some (vi a1), some (vi a2), some (vi a3)] [vi (p_HF_bit a1), vi ((wI h (o0 + 5) a1.toNatClampNeg a2).1 o0 6), vr 8 0 o0] (wI h (o0 + 5) a1.toNatClampNeg a2) r h'
      refine Ev.blk (pc' := 40) (lv' := [some (vr 8 0 o0), some (vi a1), some (vi a2), some (vi a3)]) (st' := []) (h' := (wI (wI (wI h (o0 + 5) a1.toNatClampNeg a2) o0 6 (((wI h (o0 + 5) a1.toNatClampNeg a2).1 o0 6) ||| (p_HF_bit a1))) o0 7 (((wI (wI h (o0 + 5) a1.toNatClampNeg a2) o0 6 (((wI h (o0 + 5) a1.toNatClampNeg a2).1 o0 6) ||| (p_HF_bit a1))).1 o0 7) + a3))) 15 8 (Nat.le_of_ble_eq_true rfl) tk_Moor_addWell rfl rfl ⟨trivial, trivial, trivial, trivial, trivial, trivial, trivial, trivial, trivial⟩ ?_
      obtain rfl := Option.some.inj hx
      obtain ⟨rfl, rfl⟩ := hP
      exact Ev.vret 23 tk_Moor_addWell rfl rfl
set_option maxRecDepth 4000 in
theorem l_Moor_addPay_L2 (Γ : AG) : ∀ (n : Nat) (o0 : Nat) (v1 : Int32) (v2 : Int32) (v3 : Int32) (h : AH) (x : AH), Moor_addPay_L2 n o0 v1 v2 v3 h = some x → ∀ (r : Option AV) (h' : AH), r = none ∧ h' = x → Ev Γ m_Moor_addPay 2 [some (vr 8 0 o0), some (vi v1), some (vi v2), some (vi v3)] [] h r h' := by
  intro n
  induction n with
  | zero => intro o0 v1 v2 v3 h x hx; cases hx
  | succ n ih =>
    intro o0 v1 v2 v3 h x hx r h' hP
    replace hx : Moor_addPay_L2_b (Moor_addPay_L2 n) o0 v1 v2 v3 h = some x := hx
    unfold Moor_addPay_L2_b at hx
    refine Ev.blk (pc' := 5) (lv' := [some (vr 8 0 o0), some (vi v1), some (vi v2), some (vi v3)]) (st' := [vi (ii 6), vi v3]) (h' := h) 2 2 (Nat.le_of_ble_eq_true rfl) tk_Moor_addPay rfl rfl ⟨trivial, trivial, trivial⟩ ?_
    refine Ev.icmp_ge 4 36 tk_Moor_addPay rfl (by decide) (fun hc1 => ?_) (fun hc1 => ?_)
    · replace hx := ip hc1 hx
      obtain rfl := Option.some.inj hx
      obtain ⟨rfl, rfl⟩ := hP
      exact Ev.vret 21 tk_Moor_addPay rfl rfl
    · replace hx := ia hc1 hx
      obtain ⟨hg2, hx⟩ := gd hx
      refine Ev.blk (pc' := 17) (lv' := [some (vr 8 0 o0), some (vi v1), some (vi v2), some (vi v3)]) (st' := [vi v3, vi v1, vi (h.1 (o0 + 2) (v3).toNatClampNeg), vi v3, vr 20 6 (o0 + 2)]) (h' := h) 5 7 (Nat.le_of_ble_eq_true rfl) tk_Moor_addPay rfl rfl ⟨trivial, trivial, trivial, trivial, hg2, trivial, trivial, trivial⟩ ?_
      refine Ev.callSN (ν := m_HF_holds) (av := [vi v1, vi v3]) (rest := [vi (h.1 (o0 + 2) (v3).toNatClampNeg), vi v3, vr 20 6 (o0 + 2)]) (r1 := some (vi (p_HF_holds v1 v3))) (h1 := h) 12 2 tk_Moor_addPay rfl bb_HF_holds vv_HF_holds lk_8_91 (by decide) rfl rfl (Nat.le_of_ble_eq_true rfl) (s_HF_holds Γ v1 v3 h) ?_
      show Ev Γ m_Moor_addPay 20 [some (vr 8 0 o0), some (vi v1), some (vi v2), some (vi v3)] [vi (p_HF_holds v1 v3), vi (h.1 (o0 + 2) (v3).toNatClampNeg), vi v3, vr 20 6 (o0 + 2)] h r h'
      have K3 : ∀ v3_0 : Int32, v3_0 = (if (p_HF_holds v1 v3) = 0 then (ii 0) else v2) → Ev Γ m_Moor_addPay 28 [some (vr 8 0 o0), some (vi v1), some (vi v2), some (vi v3)] [vi v3_0, vi (h.1 (o0 + 2) (v3).toNatClampNeg), vi v3, vr 20 6 (o0 + 2)] h r h' := by
        intro v3_0 e4
        subst e4
        obtain ⟨hg5, hx⟩ := gd hx
        refine Ev.blk (pc' := 2) (lv' := [some (vr 8 0 o0), some (vi v1), some (vi v2), some (vi (v3 + ii 1))]) (st' := []) (h' := (wI h (o0 + 2) v3.toNatClampNeg ((h.1 (o0 + 2) (v3).toNatClampNeg) + (if (p_HF_holds v1 v3) = 0 then (ii 0) else v2)))) 17 4 (Nat.le_of_ble_eq_true rfl) tk_Moor_addPay rfl rfl ⟨trivial, hg5, trivial, trivial, trivial⟩ ?_
        exact Ev.msk [true, true, true, true] (ih o0 v1 v2 (v3 + ii 1) (wI h (o0 + 2) v3.toNatClampNeg ((h.1 (o0 + 2) (v3).toNatClampNeg) + (if (p_HF_holds v1 v3) = 0 then (ii 0) else v2))) _ hx r h' hP)
      refine Ev.if_eq 13 27 tk_Moor_addPay rfl (by decide) (fun hc6 => ?_) (fun hc6 => ?_)
      · refine Ev.blk (pc' := 28) (lv' := [some (vr 8 0 o0), some (vi v1), some (vi v2), some (vi v3)]) (st' := [vi (ii 0), vi (h.1 (o0 + 2) (v3).toNatClampNeg), vi v3, vr 20 6 (o0 + 2)]) (h' := h) 16 1 (Nat.le_of_ble_eq_true rfl) tk_Moor_addPay rfl rfl ⟨trivial, trivial⟩ ?_
        exact Ev.msk [true, true, true, true] (K3 _ (by first | rfl | simp only [if_pos hc6]))
      · refine Ev.blk (pc' := 28) (lv' := [some (vr 8 0 o0), some (vi v1), some (vi v2), some (vi v3)]) (st' := [vi v2, vi (h.1 (o0 + 2) (v3).toNatClampNeg), vi v3, vr 20 6 (o0 + 2)]) (h' := h) 14 2 (Nat.le_of_ble_eq_true rfl) tk_Moor_addPay rfl rfl ⟨trivial, trivial, trivial⟩ ?_
        exact Ev.msk [true, true, true, true] (K3 _ (by first | rfl | simp only [if_neg hc6]))
set_option maxRecDepth 4000 in
theorem s_Moor_addPay (Γ : AG) (o0 : Nat) (a1 : Int32) (a2 : Int32) (h : AH) (x : AH) (hx : f_Moor_addPay o0 a1 a2 h = some x) : MetA Γ m_Moor_addPay [vr 8 0 o0, vi a1, vi a2] h (none) x := by
  refine Ev.met rfl rfl (Nat.le_of_ble_eq_true rfl) ?_
  show Ev Γ m_Moor_addPay 0 [some (vr 8 0 o0), some (vi a1), some (vi a2), none] [] h _ _
  obtain ⟨r, hr⟩ : ∃ r : Option AV, r = none := ⟨_, rfl⟩
  obtain ⟨h', hh⟩ : ∃ h' : AH, h' = x := ⟨_, rfl⟩
  have hP : r = none ∧ h' = x := ⟨hr, hh⟩
  suffices hS : Ev Γ m_Moor_addPay 0 [some (vr 8 0 o0), some (vi a1), some (vi a2), none] [] h r h' by rw [hr, hh] at hS; exact hS
  clear hr hh
  unfold f_Moor_addPay at hx
  refine Ev.blk (pc' := 2) (lv' := [some (vr 8 0 o0), some (vi a1), some (vi a2), some (vi (ii 0))]) (st' := []) (h' := h) 0 2 (Nat.le_of_ble_eq_true rfl) tk_Moor_addPay rfl rfl ⟨trivial, trivial, trivial⟩ ?_
  refine Ev.msk [true, true, true, true] ?_
  show Ev Γ m_Moor_addPay 2 [some (vr 8 0 o0), some (vi a1), some (vi a2), some (vi (ii 0))] [] h r h'
  exact l_Moor_addPay_L2 Γ FU o0 a1 a2 (ii 0) h _ hx r h' hP
set_option maxRecDepth 4000 in
theorem s_HF_sink (Γ : AG) (a1 : Int32) (h : AH) (x : Int32 × AH) (hx : f_HF_sink a1 h = some x) : MetA Γ m_HF_sink [vr 0 0 0, vi a1] h (some (vi x.1)) x.2 := by
  refine Ev.met rfl rfl (Nat.le_of_ble_eq_true rfl) ?_
  show Ev Γ m_HF_sink 0 [some (vr 0 0 0), some (vi a1), none, none, none] [] h _ _
  obtain ⟨r, hr⟩ : ∃ r : Option AV, r = some (vi x.1) := ⟨_, rfl⟩
  obtain ⟨h', hh⟩ : ∃ h' : AH, h' = x.2 := ⟨_, rfl⟩
  have hP : r = some (vi x.1) ∧ h' = x.2 := ⟨hr, hh⟩
  suffices hS : Ev Γ m_HF_sink 0 [some (vr 0 0 0), some (vi a1), none, none, none] [] h r h' by rw [hr, hh] at hS; exact hS
  clear hr hh
  unfold f_HF_sink at hx
  refine Ev.blk (pc' := 2) (lv' := [some (vr 0 0 0), some (vi a1), none, none, none]) (st' := [vi a1, vr 0 0 0]) (h' := h) 0 2 (Nat.le_of_ble_eq_true rfl) tk_HF_sink rfl rfl ⟨trivial, trivial, trivial⟩ ?_
  refine Ev.callV (ν := m_HF_canSink) (av := [vi a1]) (rest := []) (r1 := some (vi (p_HF_canSink a1 h))) (h1 := h) (ci := 0) (nn := 0) (o := 0) 2 1 tk_HF_sink rfl bb_HF_canSink vv_HF_canSink lk_0_210 (by decide) rfl rfl (Or.inl rfl) (Nat.le_of_ble_eq_true rfl) (s_HF_canSink Γ a1 h) ?_
  show Ev Γ m_HF_sink 5 [some (vr 0 0 0), some (vi a1), none, none, none] [vi (p_HF_canSink a1 h)] h r h'
  refine Ev.if_ne 3 10 tk_HF_sink rfl (by decide) (fun hc1 => ?_) (fun hc1 => ?_)
  · replace hx := ia hc1 hx
    refine Ev.blk (pc' := 12) (lv' := [some (vr 0 0 0), some (vi a1), none, none, none]) (st' := [vi a1, vr 0 0 0]) (h' := h) 6 2 (Nat.le_of_ble_eq_true rfl) tk_HF_sink rfl rfl ⟨trivial, trivial, trivial⟩ ?_
    obtain ⟨q1, hq2, hx⟩ := bd hx
    refine Ev.callV (ν := m_HF_priceNow) (av := [vi a1]) (rest := []) (r1 := some (vi q1)) (h1 := h) (ci := 0) (nn := 0) (o := 0) 8 1 tk_HF_sink rfl bb_HF_priceNow vv_HF_priceNow lk_0_213 (by decide) rfl rfl (Or.inl rfl) (Nat.le_of_ble_eq_true rfl) (s_HF_priceNow Γ a1 h _ hq2) ?_
    show Ev Γ m_HF_sink 15 [some (vr 0 0 0), some (vi a1), none, none, none] [vi q1] h r h'
    refine Ev.blk (pc' := 18) (lv' := [some (vr 0 0 0), some (vi a1), some (vi q1), none, none]) (st' := [vi a1, vr 0 0 0]) (h' := h) 9 3 (Nat.le_of_ble_eq_true rfl) tk_HF_sink rfl rfl ⟨trivial, trivial, trivial, trivial⟩ ?_
    obtain ⟨q2, hq3, hx⟩ := bd hx
    refine Ev.callV (ν := m_HF_isWet) (av := [vi a1]) (rest := []) (r1 := some (vi q2)) (h1 := h) (ci := 0) (nn := 0) (o := 0) 12 1 tk_HF_sink rfl bb_HF_isWet vv_HF_isWet lk_0_216 (by decide) rfl rfl (Or.inl rfl) (Nat.le_of_ble_eq_true rfl) (s_HF_isWet Γ a1 h _ hq3) ?_
    show Ev Γ m_HF_sink 21 [some (vr 0 0 0), some (vi a1), some (vi q1), none, none] [vi q2] h r h'
    obtain ⟨q4, hq4, hx⟩ := bd hx
    have K5 : Ev Γ m_HF_sink 36 [some (vr 0 0 0), some (vi a1), some (vi q1), none, none] [vi q4] h r h' := by
      refine Ev.blk (pc' := 38) (lv' := [some (vr 0 0 0), some (vi a1), some (vi q1), some (vi q4), none]) (st' := [vi q4]) (h' := h) 20 2 (Nat.le_of_ble_eq_true rfl) tk_HF_sink rfl rfl ⟨trivial, trivial, trivial⟩ ?_
      obtain ⟨q5, hq6, hx⟩ := bd hx
      have K7 : Ev Γ m_HF_sink 54 [some (vr 0 0 0), some (vi a1), some (vi q1), some (vi q4), none] [vi q5] h r h' := by
        refine Ev.blk (pc' := 65) (lv' := [some (vr 0 0 0), some (vi a1), some (vi q1), some (vi q4), some (vi q5)]) (st' := [vi q5, vi q4, vi a1, vi (ii 1), vr 9 0 31]) (h' := h) 31 7 (Nat.le_of_ble_eq_true rfl) tk_HF_sink rfl rfl ⟨trivial, trivial, trivial, trivial, trivial, trivial, trivial, trivial⟩ ?_
        obtain ⟨q6, hq8, hx⟩ := bd hx
        refine Ev.callV (ν := m_Acts_add) (av := [vi (ii 1), vi a1, vi q4, vi q5]) (rest := []) (r1 := none) (h1 := q6) (ci := 9) (nn := 0) (o := 31) 38 4 tk_HF_sink rfl bb_Acts_add vv_Acts_add lk_0_227 (by decide) rfl rfl (Or.inl rfl) (Nat.le_of_ble_eq_true rfl) (s_Acts_add Γ (ii 1) a1 q4 q5 h _ hq8) ?_
        show Ev Γ m_HF_sink 68 [some (vr 0 0 0), some (vi a1), some (vi q1), some (vi q4), some (vi q5)] [] q6 r h'
        refine Ev.blk (pc' := 75) (lv' := [some (vr 0 0 0), some (vi a1), some (vi q1), some (vi q4), some (vi q5)]) (st' := [vi a1, vr 0 0 0, vi a1, vr 8 0 13]) (h' := q6) 39 5 (Nat.le_of_ble_eq_true rfl) tk_HF_sink rfl rfl ⟨trivial, trivial, trivial, trivial, trivial, trivial⟩ ?_
        obtain ⟨q7, hq9, hx⟩ := bd hx
        refine Ev.callV (ν := m_HF_wellDepth) (av := [vi a1]) (rest := [vi a1, vr 8 0 13]) (r1 := some (vi q7)) (h1 := q6) (ci := 0) (nn := 0) (o := 0) 44 1 tk_HF_sink rfl bb_HF_wellDepth vv_HF_wellDepth lk_0_231 (by decide) rfl rfl (Or.inl rfl) (Nat.le_of_ble_eq_true rfl) (s_HF_wellDepth Γ a1 q6 _ hq9) ?_
        show Ev Γ m_HF_sink 78 [some (vr 0 0 0), some (vi a1), some (vi q1), some (vi q4), some (vi q5)] [vi q7, vi a1, vr 8 0 13] q6 r h'
        refine Ev.blk (pc' := 79) (lv' := [some (vr 0 0 0), some (vi a1), some (vi q1), some (vi q4), some (vi q5)]) (st' := [vi q1, vi q7, vi a1, vr 8 0 13]) (h' := q6) 45 1 (Nat.le_of_ble_eq_true rfl) tk_HF_sink rfl rfl ⟨trivial, trivial⟩ ?_
        obtain ⟨q8, hq10, hx⟩ := bd hx
        refine Ev.callV (ν := m_Moor_addWell) (av := [vi a1, vi q7, vi q1]) (rest := []) (r1 := none) (h1 := q8) (ci := 8) (nn := 0) (o := 13) 46 3 tk_HF_sink rfl bb_Moor_addWell vv_Moor_addWell lk_0_234 (by decide) rfl rfl (Or.inl rfl) (Nat.le_of_ble_eq_true rfl) (s_Moor_addWell Γ 13 a1 q7 q1 q6 _ hq10) ?_
        show Ev Γ m_HF_sink 82 [some (vr 0 0 0), some (vi a1), some (vi q1), some (vi q4), some (vi q5)] [] q8 r h'
        refine Ev.blk (pc' := 89) (lv' := [some (vr 0 0 0), some (vi a1), some (vi q1), some (vi q4), some (vi q5)]) (st' := [vi q5, vi q4, vr 8 0 13]) (h' := q8) 47 4 (Nat.le_of_ble_eq_true rfl) tk_HF_sink rfl rfl ⟨trivial, trivial, trivial, trivial, trivial⟩ ?_
        obtain ⟨q9, hq11, hx⟩ := bd hx
        refine Ev.callV (ν := m_Moor_addPay) (av := [vi q4, vi q5]) (rest := []) (r1 := none) (h1 := q9) (ci := 8) (nn := 0) (o := 13) 51 2 tk_HF_sink rfl bb_Moor_addPay vv_Moor_addPay lk_0_238 (by decide) rfl rfl (Or.inl rfl) (Nat.le_of_ble_eq_true rfl) (s_Moor_addPay Γ 13 q4 q5 q8 _ hq11) ?_
        show Ev Γ m_HF_sink 92 [some (vr 0 0 0), some (vi a1), some (vi q1), some (vi q4), some (vi q5)] [] q9 r h'
        refine Ev.blk (pc' := 93) (lv' := [some (vr 0 0 0), some (vi a1), some (vi q1), some (vi q4), some (vi q5)]) (st' := [vi q1]) (h' := q9) 52 1 (Nat.le_of_ble_eq_true rfl) tk_HF_sink rfl rfl ⟨trivial, trivial⟩ ?_
        obtain rfl := Option.some.inj hx
        obtain ⟨rfl, rfl⟩ := hP
        exact Ev.iret 53 tk_HF_sink rfl rfl
      clear hx
      refine Ev.if_ne 22 45 tk_HF_sink rfl (by decide) (fun hc12 => ?_) (fun hc12 => ?_)
      · replace hq6 := ia hc12 hq6
        obtain ⟨hg13, hq6⟩ := gd hq6
        refine Ev.blk (pc' := 50) (lv' := [some (vr 0 0 0), some (vi a1), some (vi q1), some (vi q4), none]) (st' := [vi q4, vi (q1 / (ii 10))]) (h' := h) 25 4 (Nat.le_of_ble_eq_true rfl) tk_HF_sink rfl rfl ⟨trivial, trivial, hg13, trivial, trivial⟩ ?_
        refine Ev.callS (ν := m_Int_bitCount) (av := [vi q4]) (rest := [vi (q1 / (ii 10))]) (r1 := some (vi (p_Int_bitCount q4))) (h1 := h) 29 1 tk_HF_sink rfl bb_Int_bitCount vv_Int_bitCount lk_0_222 (by decide) rfl rfl (Nat.le_of_ble_eq_true rfl) (s_Int_bitCount Γ q4 h) ?_
        show Ev Γ m_HF_sink 53 [some (vr 0 0 0), some (vi a1), some (vi q1), some (vi q4), none] [vi (p_Int_bitCount q4), vi (q1 / (ii 10))] h r h'
        obtain ⟨hg14, hq6⟩ := gd hq6
        refine Ev.blk (pc' := 54) (lv' := [some (vr 0 0 0), some (vi a1), some (vi q1), some (vi q4), none]) (st' := [vi ((q1 / (ii 10)) / (p_Int_bitCount q4))]) (h' := h) 30 1 (Nat.le_of_ble_eq_true rfl) tk_HF_sink rfl rfl ⟨hg14, trivial⟩ ?_
        obtain rfl := Option.some.inj hq6
        exact Ev.msk [true, true, true, true, false] K7
      · replace hq6 := ip hc12 hq6
        refine Ev.blk (pc' := 54) (lv' := [some (vr 0 0 0), some (vi a1), some (vi q1), some (vi q4), none]) (st' := [vi (ii 0)]) (h' := h) 23 2 (Nat.le_of_ble_eq_true rfl) tk_HF_sink rfl rfl ⟨trivial, trivial, trivial⟩ ?_
        obtain rfl := Option.some.inj hq6
        exact Ev.msk [true, true, true, true, false] K7
    clear hx
    refine Ev.if_eq 13 35 tk_HF_sink rfl (by decide) (fun hc15 => ?_) (fun hc15 => ?_)
    · replace hq4 := ip hc15 hq4
      refine Ev.blk (pc' := 36) (lv' := [some (vr 0 0 0), some (vi a1), some (vi q1), none, none]) (st' := [vi (ii 0)]) (h' := h) 19 1 (Nat.le_of_ble_eq_true rfl) tk_HF_sink rfl rfl ⟨trivial, trivial⟩ ?_
      obtain rfl := Option.some.inj hq4
      exact Ev.msk [true, true, true, false, false] K5
    · replace hq4 := ia hc15 hq4
      refine Ev.blk (pc' := 29) (lv' := [some (vr 0 0 0), some (vi a1), some (vi q1), none, none]) (st' := [vi a1, vr 8 0 13]) (h' := h) 14 3 (Nat.le_of_ble_eq_true rfl) tk_HF_sink rfl rfl ⟨trivial, trivial, trivial, trivial⟩ ?_
      obtain ⟨q3, hq16, hq4⟩ := bd hq4
      refine Ev.callV (ν := m_Moor_twitchersIn) (av := [vi a1]) (rest := []) (r1 := some (vi q3)) (h1 := h) (ci := 8) (nn := 0) (o := 13) 17 1 tk_HF_sink rfl bb_Moor_twitchersIn vv_Moor_twitchersIn lk_0_219 (by decide) rfl rfl (Or.inl rfl) (Nat.le_of_ble_eq_true rfl) (s_Moor_twitchersIn Γ 13 a1 h _ hq16) ?_
      show Ev Γ m_HF_sink 32 [some (vr 0 0 0), some (vi a1), some (vi q1), none, none] [vi q3] h r h'
      refine Ev.blk (pc' := 36) (lv' := [some (vr 0 0 0), some (vi a1), some (vi q1), none, none]) (st' := [vi q3]) (h' := h) 18 1 (Nat.le_of_ble_eq_true rfl) tk_HF_sink rfl rfl ⟨trivial, trivial⟩ ?_
      obtain rfl := Option.some.inj hq4
      exact Ev.msk [true, true, true, false, false] K5
  · replace hx := ip hc1 hx
    refine Ev.blk (pc' := 9) (lv' := [some (vr 0 0 0), some (vi a1), none, none, none]) (st' := [vi (ii (-1))]) (h' := h) 4 1 (Nat.le_of_ble_eq_true rfl) tk_HF_sink rfl rfl ⟨trivial, trivial⟩ ?_
    obtain rfl := Option.some.inj hx
    obtain ⟨rfl, rfl⟩ := hP
    exact Ev.iret 5 tk_HF_sink rfl rfl
set_option maxRecDepth 4000 in
theorem s_HF_season (Γ : AG) (h : AH) (x : Int32 × AH) (hx : f_HF_season  h = some x) : MetA Γ m_HF_season [vr 0 0 0] h (some (vi x.1)) x.2 := by
  refine Ev.met rfl rfl (Nat.le_of_ble_eq_true rfl) ?_
  show Ev Γ m_HF_season 0 [some (vr 0 0 0)] [] h _ _
  obtain ⟨r, hr⟩ : ∃ r : Option AV, r = some (vi x.1) := ⟨_, rfl⟩
  obtain ⟨h', hh⟩ : ∃ h' : AH, h' = x.2 := ⟨_, rfl⟩
  have hP : r = some (vi x.1) ∧ h' = x.2 := ⟨hr, hh⟩
  suffices hS : Ev Γ m_HF_season 0 [some (vr 0 0 0)] [] h r h' by rw [hr, hh] at hS; exact hS
  clear hr hh
  unfold f_HF_season at hx
  refine Ev.blk (pc' := 1) (lv' := [some (vr 0 0 0)]) (st' := [vr 0 0 0]) (h' := h) 0 1 (Nat.le_of_ble_eq_true rfl) tk_HF_season rfl rfl ⟨trivial, trivial⟩ ?_
  refine Ev.callV (ν := m_HF_hasHeath) (av := []) (rest := []) (r1 := some (vi (p_HF_hasHeath h))) (h1 := h) (ci := 0) (nn := 0) (o := 0) 1 0 tk_HF_season rfl bb_HF_hasHeath vv_HF_hasHeath lk_0_137 (by decide) rfl rfl (Or.inl rfl) (Nat.le_of_ble_eq_true rfl) (s_HF_hasHeath Γ h) ?_
  show Ev Γ m_HF_season 4 [some (vr 0 0 0)] [vi (p_HF_hasHeath h)] h r h'
  refine Ev.if_ne 2 9 tk_HF_season rfl (by decide) (fun hc1 => ?_) (fun hc1 => ?_)
  · replace hx := ia hc1 hx
    refine Ev.blk (pc' := 17) (lv' := [some (vr 0 0 0)]) (st' := [vi (ii 0), vi (ii 0), vi (ii 0), vi (ii 2), vr 9 0 31]) (h' := h) 5 6 (Nat.le_of_ble_eq_true rfl) tk_HF_season rfl rfl ⟨trivial, trivial, trivial, trivial, trivial, trivial, trivial⟩ ?_
    obtain ⟨q1, hq2, hx⟩ := bd hx
    refine Ev.callV (ν := m_Acts_add) (av := [vi (ii 2), vi (ii 0), vi (ii 0), vi (ii 0)]) (rest := []) (r1 := none) (h1 := q1) (ci := 9) (nn := 0) (o := 31) 11 4 tk_HF_season rfl bb_Acts_add vv_Acts_add lk_0_227 (by decide) rfl rfl (Or.inl rfl) (Nat.le_of_ble_eq_true rfl) (s_Acts_add Γ (ii 2) (ii 0) (ii 0) (ii 0) h _ hq2) ?_
    show Ev Γ m_HF_season 20 [some (vr 0 0 0)] [] q1 r h'
    obtain ⟨hg3, hx⟩ := gd hx
    refine Ev.blk (pc' := 45) (lv' := [some (vr 0 0 0)]) (st' := [vi ((wI q1 13 8 (remI ((q1.1 13 8) + (ii 1)) (ii 4))).1 13 8)]) (h' := (wI q1 13 8 (remI ((q1.1 13 8) + (ii 1)) (ii 4)))) 12 13 (Nat.le_of_ble_eq_true rfl) tk_HF_season rfl rfl ⟨trivial, trivial, trivial, trivial, trivial, trivial, trivial, trivial, hg3, trivial, trivial, trivial, trivial, trivial⟩ ?_
    obtain rfl := Option.some.inj hx
    obtain ⟨rfl, rfl⟩ := hP
    exact Ev.iret 25 tk_HF_season rfl rfl
  · replace hx := ip hc1 hx
    refine Ev.blk (pc' := 8) (lv' := [some (vr 0 0 0)]) (st' := [vi (ii (-1))]) (h' := h) 3 1 (Nat.le_of_ble_eq_true rfl) tk_HF_season rfl rfl ⟨trivial, trivial⟩ ?_
    obtain rfl := Option.some.inj hx
    obtain ⟨rfl, rfl⟩ := hP
    exact Ev.iret 4 tk_HF_season rfl rfl
