set_option maxRecDepth 4000 in
theorem l_R_sure_L47 (Γ : AG) : ∀ (n : Nat) (v1 : Int32) (v2 : Int32) (v3 : Int32) (v4 : Int32) (h : AH) (x : Int32), R_sure_L47 n v1 v2 v3 v4 h = some x → ∀ (r : Option AV) (h' : AH), Ev Γ m_R_sure 94 [some (vr 12 0 80), some (vi v1), some (vi x), some (vi v3), none, none] [] h r h' → Ev Γ m_R_sure 47 [some (vr 12 0 80), some (vi v1), some (vi v2), some (vi v3), some (vi v4), none] [] h r h' := by
  intro n
  induction n with
  | zero => intro v1 v2 v3 v4 h x hx; cases hx
  | succ n ih =>
    intro v1 v2 v3 v4 h x hx r h' hP
    replace hx : R_sure_L47_b (R_sure_L47 n) v1 v2 v3 v4 h = some x := hx
    unfold R_sure_L47_b at hx
    refine Ev.blk (pc' := 54) (lv' := [some (vr 12 0 80), some (vi v1), some (vi v2), some (vi v3), some (vi v4), none]) (st' := [vi (shlI (ii 1) (v1 - (ii 1))), vi v4]) (h' := h) 30 6 (Nat.le_of_ble_eq_true rfl) tk_R_sure rfl rfl ⟨trivial, trivial, trivial, trivial, trivial, trivial, trivial⟩ ?_
    refine Ev.icmp_ge 36 94 tk_R_sure rfl (by decide) (fun hc1 => ?_) (fun hc1 => ?_)
    · replace hx := ip hc1 hx
      obtain rfl := Option.some.inj hx
      exact Ev.msk [true, true, true, true, false, false] hP
    · replace hx := ia hc1 hx
      refine Ev.blk (pc' := 62) (lv' := [some (vr 12 0 80), some (vi v1), some (vi v2), some (vi v3), some (vi v4), none]) (st' := [vi v1, vi v4, vi v3, vr 12 0 80]) (h' := h) 37 4 (Nat.le_of_ble_eq_true rfl) tk_R_sure rfl rfl ⟨trivial, trivial, trivial, trivial, trivial⟩ ?_
      obtain ⟨q1, hq2, hx⟩ := bd hx
      refine Ev.callV (ν := m_R_lineOf) (av := [vi v3, vi v4, vi v1]) (rest := []) (r1 := some (vi q1)) (h1 := h) (ci := 12) (nn := 0) (o := 80) 41 3 tk_R_sure rfl bb_R_lineOf vv_R_lineOf lk_12_455 (by decide) rfl rfl (Or.inl rfl) (Nat.le_of_ble_eq_true rfl) (s_R_lineOf Γ v3 v4 v1 h _ hq2) ?_
      show Ev Γ m_R_sure 65 [some (vr 12 0 80), some (vi v1), some (vi v2), some (vi v3), some (vi v4), none] [vi q1] h r h'
      refine Ev.blk (pc' := 70) (lv' := [some (vr 12 0 80), some (vi v1), some (vi v2), some (vi v3), some (vi v4), some (vi q1)]) (st' := [vi (ii (-1)), vi q1]) (h' := h) 42 3 (Nat.le_of_ble_eq_true rfl) tk_R_sure rfl rfl ⟨trivial, trivial, trivial, trivial⟩ ?_
      obtain ⟨q3, hq3, hx⟩ := bd hx
      have K4 : Ev Γ m_R_sure 88 [some (vr 12 0 80), some (vi v1), some (vi q3), some (vi v3), some (vi v4), none] [] h r h' := by
        refine Ev.blk (pc' := 47) (lv' := [some (vr 12 0 80), some (vi v1), some (vi q3), some (vi v3), some (vi (v4 + ii 1)), none]) (st' := []) (h' := h) 55 2 (Nat.le_of_ble_eq_true rfl) tk_R_sure rfl rfl ⟨trivial, trivial, trivial⟩ ?_
        exact Ev.msk [true, true, true, true, true, false] (ih v1 q3 v3 (v4 + ii 1) h _ hx r h' hP)
      clear hx
      refine Ev.icmp_eq 45 88 tk_R_sure rfl (by decide) (fun hc5 => ?_) (fun hc5 => ?_)
      · replace hq3 := ip hc5 hq3
        obtain rfl := Option.some.inj hq3
        exact Ev.msk [true, true, true, true, true, false] K4
      · replace hq3 := ia hc5 hq3
        refine Ev.blk (pc' := 77) (lv' := [some (vr 12 0 80), some (vi v1), some (vi v2), some (vi v3), some (vi v4), some (vi q1)]) (st' := [vi (ii (-1)), vi q1, vr 12 0 80]) (h' := h) 46 3 (Nat.le_of_ble_eq_true rfl) tk_R_sure rfl rfl ⟨trivial, trivial, trivial, trivial⟩ ?_
        obtain ⟨q2, hq6, hq3⟩ := bd hq3
        refine Ev.callV (ν := m_R_isSo) (av := [vi q1, vi (ii (-1))]) (rest := []) (r1 := some (vi q2)) (h1 := h) (ci := 12) (nn := 0) (o := 80) 49 2 tk_R_sure rfl bb_R_isSo vv_R_isSo lk_12_459 (by decide) rfl rfl (Or.inl rfl) (Nat.le_of_ble_eq_true rfl) (s_R_isSo Γ q1 (ii (-1)) h _ hq6) ?_
        show Ev Γ m_R_sure 80 [some (vr 12 0 80), some (vi v1), some (vi v2), some (vi v3), some (vi v4), some (vi q1)] [vi q2] h r h'
        refine Ev.if_eq 50 88 tk_R_sure rfl (by decide) (fun hc7 => ?_) (fun hc7 => ?_)
        · replace hq3 := ip hc7 hq3
          obtain rfl := Option.some.inj hq3
          exact Ev.msk [true, true, true, true, true, false] K4
        · replace hq3 := ia hc7 hq3
          refine Ev.blk (pc' := 88) (lv' := [some (vr 12 0 80), some (vi v1), some (vi (v2 &&& q1)), some (vi v3), some (vi v4), some (vi q1)]) (st' := []) (h' := h) 51 4 (Nat.le_of_ble_eq_true rfl) tk_R_sure rfl rfl ⟨trivial, trivial, trivial, trivial, trivial⟩ ?_
          obtain rfl := Option.some.inj hq3
          exact Ev.msk [true, true, true, true, true, false] K4
set_option maxRecDepth 4000 in
theorem l_R_sure_L36 (Γ : AG) : ∀ (n : Nat) (v1 : Int32) (v2 : Int32) (v3 : Int32) (h : AH) (x : Int32 × AH), R_sure_L36 n v1 v2 v3 h = some x → ∀ (r : Option AV) (h' : AH), r = some (vi x.1) ∧ h' = x.2 → Ev Γ m_R_sure 36 [some (vr 12 0 80), some (vi v1), some (vi v2), some (vi v3), none, none] [] h r h' := by
  intro n
  induction n with
  | zero => intro v1 v2 v3 h x hx; cases hx
  | succ n ih =>
    intro v1 v2 v3 h x hx r h' hP
    replace hx : R_sure_L36_b (R_sure_L36 n) v1 v2 v3 h = some x := hx
    unfold R_sure_L36_b at hx
    refine Ev.blk (pc' := 41) (lv' := [some (vr 12 0 80), some (vi v1), some (vi v2), some (vi v3), none, none]) (st' := [vi (h.1 80 34), vi v3]) (h' := h) 24 3 (Nat.le_of_ble_eq_true rfl) tk_R_sure rfl rfl ⟨trivial, trivial, trivial, trivial⟩ ?_
    refine Ev.icmp_ge 27 100 tk_R_sure rfl (by decide) (fun hc1 => ?_) (fun hc1 => ?_)
    · replace hx := ip hc1 hx
      refine Ev.blk (pc' := 101) (lv' := [some (vr 12 0 80), some (vi v1), some (vi v2), some (vi v3), none, none]) (st' := [vi v2]) (h' := h) 59 1 (Nat.le_of_ble_eq_true rfl) tk_R_sure rfl rfl ⟨trivial, trivial⟩ ?_
      obtain rfl := Option.some.inj hx
      obtain ⟨rfl, rfl⟩ := hP
      exact Ev.iret 60 tk_R_sure rfl rfl
    · replace hx := ia hc1 hx
      refine Ev.blk (pc' := 47) (lv' := [some (vr 12 0 80), some (vi v1), some (vi v2), some (vi v3), some (vi (ii 0)), none]) (st' := []) (h' := h) 28 2 (Nat.le_of_ble_eq_true rfl) tk_R_sure rfl rfl ⟨trivial, trivial, trivial⟩ ?_
      obtain ⟨q1, hq2, hx⟩ := bd hx
      refine Ev.msk [true, true, true, true, true, false] ?_
      show Ev Γ m_R_sure 47 [some (vr 12 0 80), some (vi v1), some (vi v2), some (vi v3), some (vi (ii 0)), none] [] h r h'
      refine l_R_sure_L47 Γ FU v1 v2 v3 (ii 0) h _ hq2 r h' ?_
      show Ev Γ m_R_sure 94 [some (vr 12 0 80), some (vi v1), some (vi q1), some (vi v3), none, none] [] h r h'
      refine Ev.blk (pc' := 36) (lv' := [some (vr 12 0 80), some (vi v1), some (vi q1), some (vi (v3 + ii 1)), none, none]) (st' := []) (h' := h) 57 2 (Nat.le_of_ble_eq_true rfl) tk_R_sure rfl rfl ⟨trivial, trivial, trivial⟩ ?_
      exact Ev.msk [true, true, true, true, false, false] (ih v1 q1 (v3 + ii 1) h _ hx r h' hP)
set_option maxRecDepth 4000 in
theorem s_R_sure (Γ : AG) (a1 : Int32) (h : AH) (x : Int32 × AH) (hx : f_R_sure a1 h = some x) : MetA Γ m_R_sure [vr 12 0 80, vi a1] h (some (vi x.1)) x.2 := by
  refine Ev.met rfl rfl (Nat.le_of_ble_eq_true rfl) ?_
  show Ev Γ m_R_sure 0 [some (vr 12 0 80), some (vi a1), none, none, none, none] [] h _ _
  obtain ⟨r, hr⟩ : ∃ r : Option AV, r = some (vi x.1) := ⟨_, rfl⟩
  obtain ⟨h', hh⟩ : ∃ h' : AH, h' = x.2 := ⟨_, rfl⟩
  have hP : r = some (vi x.1) ∧ h' = x.2 := ⟨hr, hh⟩
  suffices hS : Ev Γ m_R_sure 0 [some (vr 12 0 80), some (vi a1), none, none, none, none] [] h r h' by rw [hr, hh] at hS; exact hS
  clear hr hh
  unfold f_R_sure at hx
  refine Ev.blk (pc' := 7) (lv' := [some (vr 12 0 80), some (vi a1), none, none, none, none]) (st' := [vi a1, vr 12 0 80]) (h' := (wI h 80 0 (ii 0))) 0 5 (Nat.le_of_ble_eq_true rfl) tk_R_sure rfl rfl ⟨trivial, trivial, trivial, trivial, trivial, trivial⟩ ?_
  refine Ev.callV (ν := m_R_isLong) (av := [vi a1]) (rest := []) (r1 := some (vi (p_R_isLong a1 (wI h 80 0 (ii 0))))) (h1 := (wI h 80 0 (ii 0))) (ci := 12) (nn := 0) (o := 80) 5 1 tk_R_sure rfl bb_R_isLong vv_R_isLong lk_12_462 (by decide) rfl rfl (Or.inl rfl) (Nat.le_of_ble_eq_true rfl) (s_R_isLong Γ a1 (wI h 80 0 (ii 0))) ?_
  show Ev Γ m_R_sure 10 [some (vr 12 0 80), some (vi a1), none, none, none, none] [vi (p_R_isLong a1 (wI h 80 0 (ii 0)))] (wI h 80 0 (ii 0)) r h'
  refine Ev.if_eq 6 23 tk_R_sure rfl (by decide) (fun hc1 => ?_) (fun hc1 => ?_)
  · replace hx := ip hc1 hx
    refine Ev.blk (pc' := 24) (lv' := [some (vr 12 0 80), some (vi a1), none, none, none, none]) (st' := [vi (ii (-1))]) (h' := (wI h 80 0 (ii 0))) 13 1 (Nat.le_of_ble_eq_true rfl) tk_R_sure rfl rfl ⟨trivial, trivial⟩ ?_
    obtain rfl := Option.some.inj hx
    obtain ⟨rfl, rfl⟩ := hP
    exact Ev.iret 14 tk_R_sure rfl rfl
  · replace hx := ia hc1 hx
    refine Ev.blk (pc' := 17) (lv' := [some (vr 12 0 80), some (vi a1), none, none, none, none]) (st' := [vi (ii (-1)), vi (ii (-1)), vi a1, vr 12 0 80]) (h' := (wI h 80 0 (ii 0))) 7 4 (Nat.le_of_ble_eq_true rfl) tk_R_sure rfl rfl ⟨trivial, trivial, trivial, trivial, trivial⟩ ?_
    obtain ⟨q1, hq2, hx⟩ := bd hx
    refine Ev.callV (ν := m_R_fitsBy) (av := [vi a1, vi (ii (-1)), vi (ii (-1))]) (rest := []) (r1 := some (vi q1)) (h1 := (wI h 80 0 (ii 0))) (ci := 12) (nn := 0) (o := 80) 11 3 tk_R_sure rfl bb_R_fitsBy vv_R_fitsBy lk_12_465 (by decide) rfl rfl (Or.inl rfl) (Nat.le_of_ble_eq_true rfl) (s_R_fitsBy Γ a1 (ii (-1)) (ii (-1)) (wI h 80 0 (ii 0)) _ hq2) ?_
    show Ev Γ m_R_sure 20 [some (vr 12 0 80), some (vi a1), none, none, none, none] [vi q1] (wI h 80 0 (ii 0)) r h'
    refine Ev.if_ne 12 25 tk_R_sure rfl (by decide) (fun hc3 => ?_) (fun hc3 => ?_)
    · replace hx := ia hc3 hx
      refine Ev.blk (pc' := 36) (lv' := [some (vr 12 0 80), some (vi a1), some (vi ((shlI (ii 1) ((wI h 80 0 (ii 0)).1 80 34)) - (ii 1))), some (vi (ii 0)), none, none]) (st' := []) (h' := (wI h 80 0 (ii 0))) 15 9 (Nat.le_of_ble_eq_true rfl) tk_R_sure rfl rfl ⟨trivial, trivial, trivial, trivial, trivial, trivial, trivial, trivial, trivial, trivial⟩ ?_
      refine Ev.msk [true, true, true, true, false, false] ?_
      show Ev Γ m_R_sure 36 [some (vr 12 0 80), some (vi a1), some (vi ((shlI (ii 1) ((wI h 80 0 (ii 0)).1 80 34)) - (ii 1))), some (vi (ii 0)), none, none] [] (wI h 80 0 (ii 0)) r h'
      exact l_R_sure_L36 Γ FU a1 ((shlI (ii 1) ((wI h 80 0 (ii 0)).1 80 34)) - (ii 1)) (ii 0) (wI h 80 0 (ii 0)) _ hx r h' hP
    · replace hx := ip hc3 hx
      refine Ev.blk (pc' := 24) (lv' := [some (vr 12 0 80), some (vi a1), none, none, none, none]) (st' := [vi (ii (-1))]) (h' := (wI h 80 0 (ii 0))) 13 1 (Nat.le_of_ble_eq_true rfl) tk_R_sure rfl rfl ⟨trivial, trivial⟩ ?_
      obtain rfl := Option.some.inj hx
      obtain ⟨rfl, rfl⟩ := hP
      exact Ev.iret 14 tk_R_sure rfl rfl
set_option maxRecDepth 4000 in
theorem l_R_ask_L27 (Γ : AG) : ∀ (n : Nat) (v1 : Int32) (v2 : Int32) (h : AH) (x : AH), R_ask_L27 n v1 v2 h = some x → ∀ (r : Option AV) (h' : AH), Ev Γ m_R_ask 46 [some (vr 12 0 80), some (vi v1), none, none, none, none] [] x r h' → Ev Γ m_R_ask 27 [some (vr 12 0 80), some (vi v1), some (vi v2), none, none, none] [] h r h' := by
  intro n
  induction n with
  | zero => intro v1 v2 h x hx; cases hx
  | succ n ih =>
    intro v1 v2 h x hx r h' hP
    replace hx : R_ask_L27_b (R_ask_L27 n) v1 v2 h = some x := hx
    unfold R_ask_L27_b at hx
    refine Ev.blk (pc' := 30) (lv' := [some (vr 12 0 80), some (vi v1), some (vi v2), none, none, none]) (st' := [vi (ii 30), vi v2]) (h' := h) 17 2 (Nat.le_of_ble_eq_true rfl) tk_R_ask rfl rfl ⟨trivial, trivial, trivial⟩ ?_
    refine Ev.icmp_ge 19 46 tk_R_ask rfl (by decide) (fun hc1 => ?_) (fun hc1 => ?_)
    · replace hx := ip hc1 hx
      obtain rfl := Option.some.inj hx
      exact Ev.msk [true, true, false, false, false, false] hP
    · replace hx := ia hc1 hx
      obtain ⟨hg2, hx⟩ := gd hx
      refine Ev.blk (pc' := 27) (lv' := [some (vr 12 0 80), some (vi v1), some (vi (v2 + ii 1)), none, none, none]) (st' := []) (h' := (wI h 103 v2.toNatClampNeg (ii 0))) 20 7 (Nat.le_of_ble_eq_true rfl) tk_R_ask rfl rfl ⟨trivial, trivial, trivial, trivial, hg2, trivial, trivial, trivial⟩ ?_
      exact Ev.msk [true, true, true, false, false, false] (ih v1 (v2 + ii 1) (wI h 103 v2.toNatClampNeg (ii 0)) _ hx r h' hP)
set_option maxRecDepth 4000 in
theorem l_R_ask_L154 (Γ : AG) : ∀ (n : Nat) (v2 : Int32) (v3 : Int32) (h : AH) (x : Int32 × AH), R_ask_L154 n v2 v3 h = some x → ∀ (r : Option AV) (h' : AH), r = some (vi x.1) ∧ h' = x.2 → Ev Γ m_R_ask 154 [some (vr 12 0 80), none, some (vi v2), some (vi v3), none, none] [] h r h' := by
  intro n
  induction n with
  | zero => intro v2 v3 h x hx; cases hx
  | succ n ih =>
    intro v2 v3 h x hx r h' hP
    replace hx : R_ask_L154_b (R_ask_L154 n) v2 v3 h = some x := hx
    unfold R_ask_L154_b at hx
    refine Ev.blk (pc' := 159) (lv' := [some (vr 12 0 80), none, some (vi v2), some (vi v3), none, none]) (st' := [vi (h.1 80 34), vi v3]) (h' := h) 87 3 (Nat.le_of_ble_eq_true rfl) tk_R_ask rfl rfl ⟨trivial, trivial, trivial, trivial⟩ ?_
    refine Ev.icmp_ge 90 191 tk_R_ask rfl (by decide) (fun hc1 => ?_) (fun hc1 => ?_)
    · replace hx := ip hc1 hx
      refine Ev.blk (pc' := 192) (lv' := [some (vr 12 0 80), none, some (vi v2), some (vi v3), none, none]) (st' := [vi v2]) (h' := h) 106 1 (Nat.le_of_ble_eq_true rfl) tk_R_ask rfl rfl ⟨trivial, trivial⟩ ?_
      obtain rfl := Option.some.inj hx
      obtain ⟨rfl, rfl⟩ := hP
      exact Ev.iret 107 tk_R_ask rfl rfl
    · replace hx := ia hc1 hx
      obtain ⟨hg2, hx⟩ := gd hx
      refine Ev.blk (pc' := 168) (lv' := [some (vr 12 0 80), none, some (vi v2), some (vi v3), none, none]) (st' := [vi (h.1 103 (v3).toNatClampNeg)]) (h' := h) 91 4 (Nat.le_of_ble_eq_true rfl) tk_R_ask rfl rfl ⟨trivial, trivial, trivial, hg2, trivial⟩ ?_
      refine Ev.mabs (rest := []) 95 tk_R_ask rfl lk_12_468 (by decide) (Nat.le_of_ble_eq_true rfl) ?_
      show Ev Γ m_R_ask 171 [some (vr 12 0 80), none, some (vi v2), some (vi v3), none, none] [vi (p_Math_abs (h.1 103 (v3).toNatClampNeg))] h r h'
      obtain ⟨hg3, hx⟩ := gd hx
      refine Ev.blk (pc' := 177) (lv' := [some (vr 12 0 80), none, some (vi v2), some (vi v3), none, none]) (st' := [vi (h.1 103 (v2).toNatClampNeg), vi (p_Math_abs (h.1 103 (v3).toNatClampNeg))]) (h' := h) 96 4 (Nat.le_of_ble_eq_true rfl) tk_R_ask rfl rfl ⟨trivial, trivial, trivial, hg3, trivial⟩ ?_
      refine Ev.mabs (rest := [vi (p_Math_abs (h.1 103 (v3).toNatClampNeg))]) 100 tk_R_ask rfl lk_12_468 (by decide) (Nat.le_of_ble_eq_true rfl) ?_
      show Ev Γ m_R_ask 180 [some (vr 12 0 80), none, some (vi v2), some (vi v3), none, none] [vi (p_Math_abs (h.1 103 (v2).toNatClampNeg)), vi (p_Math_abs (h.1 103 (v3).toNatClampNeg))] h r h'
      have K4 : ∀ v4_0 : Int32, v4_0 = (if (p_Math_abs (h.1 103 (v2).toNatClampNeg)) ≤ (p_Math_abs (h.1 103 (v3).toNatClampNeg)) then v2 else v3) → Ev Γ m_R_ask 185 [some (vr 12 0 80), none, some (vi v4_0), some (vi v3), none, none] [] h r h' := by
        intro v4_0 e5
        subst e5
        refine Ev.blk (pc' := 154) (lv' := [some (vr 12 0 80), none, some (vi (if (p_Math_abs (h.1 103 (v2).toNatClampNeg)) ≤ (p_Math_abs (h.1 103 (v3).toNatClampNeg)) then v2 else v3)), some (vi (v3 + ii 1)), none, none]) (st' := []) (h' := h) 104 2 (Nat.le_of_ble_eq_true rfl) tk_R_ask rfl rfl ⟨trivial, trivial, trivial⟩ ?_
        exact Ev.msk [true, false, true, true, false, false] (ih (if (p_Math_abs (h.1 103 (v2).toNatClampNeg)) ≤ (p_Math_abs (h.1 103 (v3).toNatClampNeg)) then v2 else v3) (v3 + ii 1) h _ hx r h' hP)
      refine Ev.icmp_ge 101 185 tk_R_ask rfl (by decide) (fun hc6 => ?_) (fun hc6 => ?_)
      · exact Ev.msk [true, false, true, true, false, false] (K4 _ (by first | rfl | simp only [if_pos hc6]))
      · refine Ev.blk (pc' := 185) (lv' := [some (vr 12 0 80), none, some (vi v3), some (vi v3), none, none]) (st' := []) (h' := h) 102 2 (Nat.le_of_ble_eq_true rfl) tk_R_ask rfl rfl ⟨trivial, trivial, trivial⟩ ?_
        exact Ev.msk [true, false, true, true, false, false] (K4 _ (by first | rfl | simp only [if_neg hc6]))
set_option maxRecDepth 4000 in
theorem l_R_ask_L98 (Γ : AG) : ∀ (n : Nat) (v1 : Int32) (v2 : Int32) (v3 : Int32) (v4 : Int32) (v5 : Int32) (h : AH) (x : AH), R_ask_L98 n v1 v2 v3 v4 v5 h = some x → ∀ (r : Option AV) (h' : AH), Ev Γ m_R_ask 138 [some (vr 12 0 80), some (vi v1), some (vi v2), some (vi v3), none, none] [] x r h' → Ev Γ m_R_ask 98 [some (vr 12 0 80), some (vi v1), some (vi v2), some (vi v3), some (vi v4), some (vi v5)] [] h r h' := by
  intro n
  induction n with
  | zero => intro v1 v2 v3 v4 v5 h x hx; cases hx
  | succ n ih =>
    intro v1 v2 v3 v4 v5 h x hx r h' hP
    replace hx : R_ask_L98_b (R_ask_L98 n) v1 v2 v3 v4 v5 h = some x := hx
    unfold R_ask_L98_b at hx
    refine Ev.blk (pc' := 104) (lv' := [some (vr 12 0 80), some (vi v1), some (vi v2), some (vi v3), some (vi v4), some (vi v5)]) (st' := [vi (h.1 80 34), vi v5]) (h' := h) 59 3 (Nat.le_of_ble_eq_true rfl) tk_R_ask rfl rfl ⟨trivial, trivial, trivial, trivial⟩ ?_
    refine Ev.icmp_ge 62 138 tk_R_ask rfl (by decide) (fun hc1 => ?_) (fun hc1 => ?_)
    · replace hx := ip hc1 hx
      obtain rfl := Option.some.inj hx
      exact Ev.msk [true, true, true, true, false, false] hP
    · replace hx := ia hc1 hx
      obtain ⟨hg2, hx⟩ := gd hx
      refine Ev.blk (pc' := 119) (lv' := [some (vr 12 0 80), some (vi v1), some (vi v2), some (vi v3), some (vi v4), some (vi v5)]) (st' := [vi v5, vi v4, vi (h.1 103 (v5).toNatClampNeg), vi v5, vr 20 30 103]) (h' := h) 63 7 (Nat.le_of_ble_eq_true rfl) tk_R_ask rfl rfl ⟨trivial, trivial, trivial, trivial, hg2, trivial, trivial, trivial⟩ ?_
      refine Ev.callS (ν := m_R_has) (av := [vi v4, vi v5]) (rest := [vi (h.1 103 (v5).toNatClampNeg), vi v5, vr 20 30 103]) (r1 := some (vi (p_R_has v4 v5))) (h1 := h) 70 2 tk_R_ask rfl bb_R_has vv_R_has lk_12_235 (by decide) rfl rfl (Nat.le_of_ble_eq_true rfl) (s_R_has Γ v4 v5 h) ?_
      show Ev Γ m_R_ask 122 [some (vr 12 0 80), some (vi v1), some (vi v2), some (vi v3), some (vi v4), some (vi v5)] [vi (p_R_has v4 v5), vi (h.1 103 (v5).toNatClampNeg), vi v5, vr 20 30 103] h r h'
      have K3 : ∀ v3_0 : Int32, v3_0 = (if (p_R_has v4 v5) = 0 then (ii (-1)) else (ii 1)) → Ev Γ m_R_ask 130 [some (vr 12 0 80), some (vi v1), some (vi v2), some (vi v3), some (vi v4), some (vi v5)] [vi v3_0, vi (h.1 103 (v5).toNatClampNeg), vi v5, vr 20 30 103] h r h' := by
        intro v3_0 e4
        subst e4
        obtain ⟨hg5, hx⟩ := gd hx
        refine Ev.blk (pc' := 98) (lv' := [some (vr 12 0 80), some (vi v1), some (vi v2), some (vi v3), some (vi v4), some (vi (v5 + ii 1))]) (st' := []) (h' := (wI h 103 v5.toNatClampNeg ((h.1 103 (v5).toNatClampNeg) + (if (p_R_has v4 v5) = 0 then (ii (-1)) else (ii 1))))) 75 4 (Nat.le_of_ble_eq_true rfl) tk_R_ask rfl rfl ⟨trivial, hg5, trivial, trivial, trivial⟩ ?_
        exact Ev.msk [true, true, true, true, true, true] (ih v1 v2 v3 v4 (v5 + ii 1) (wI h 103 v5.toNatClampNeg ((h.1 103 (v5).toNatClampNeg) + (if (p_R_has v4 v5) = 0 then (ii (-1)) else (ii 1)))) _ hx r h' hP)
      refine Ev.if_eq 71 129 tk_R_ask rfl (by decide) (fun hc6 => ?_) (fun hc6 => ?_)
      · refine Ev.blk (pc' := 130) (lv' := [some (vr 12 0 80), some (vi v1), some (vi v2), some (vi v3), some (vi v4), some (vi v5)]) (st' := [vi (ii (-1)), vi (h.1 103 (v5).toNatClampNeg), vi v5, vr 20 30 103]) (h' := h) 74 1 (Nat.le_of_ble_eq_true rfl) tk_R_ask rfl rfl ⟨trivial, trivial⟩ ?_
        exact Ev.msk [true, true, true, true, true, true] (K3 _ (by first | rfl | simp only [if_pos hc6]))
      · refine Ev.blk (pc' := 130) (lv' := [some (vr 12 0 80), some (vi v1), some (vi v2), some (vi v3), some (vi v4), some (vi v5)]) (st' := [vi (ii 1), vi (h.1 103 (v5).toNatClampNeg), vi v5, vr 20 30 103]) (h' := h) 72 2 (Nat.le_of_ble_eq_true rfl) tk_R_ask rfl rfl ⟨trivial, trivial, trivial⟩ ?_
        exact Ev.msk [true, true, true, true, true, true] (K3 _ (by first | rfl | simp only [if_neg hc6]))
set_option maxRecDepth 4000 in
theorem l_R_ask_L58 (Γ : AG) : ∀ (n : Nat) (v1 : Int32) (v2 : Int32) (v3 : Int32) (h : AH) (x : AH), R_ask_L58 n v1 v2 v3 h = some x → ∀ (r : Option AV) (h' : AH), Ev Γ m_R_ask 144 [some (vr 12 0 80), some (vi v1), some (vi v2), none, none, none] [] x r h' → Ev Γ m_R_ask 58 [some (vr 12 0 80), some (vi v1), some (vi v2), some (vi v3), none, none] [] h r h' := by
  intro n
  induction n with
  | zero => intro v1 v2 v3 h x hx; cases hx
  | succ n ih =>
    intro v1 v2 v3 h x hx r h' hP
    replace hx : R_ask_L58_b (R_ask_L58 n) v1 v2 v3 h = some x := hx
    unfold R_ask_L58_b at hx
    refine Ev.blk (pc' := 64) (lv' := [some (vr 12 0 80), some (vi v1), some (vi v2), some (vi v3), none, none]) (st' := [vi (shlI (ii 1) (v1 - (ii 1))), vi v3]) (h' := h) 35 6 (Nat.le_of_ble_eq_true rfl) tk_R_ask rfl rfl ⟨trivial, trivial, trivial, trivial, trivial, trivial, trivial⟩ ?_
    refine Ev.icmp_ge 41 144 tk_R_ask rfl (by decide) (fun hc1 => ?_) (fun hc1 => ?_)
    · replace hx := ip hc1 hx
      obtain rfl := Option.some.inj hx
      exact Ev.msk [true, true, true, false, false, false] hP
    · replace hx := ia hc1 hx
      refine Ev.blk (pc' := 71) (lv' := [some (vr 12 0 80), some (vi v1), some (vi v2), some (vi v3), none, none]) (st' := [vi v1, vi v3, vi v2, vr 12 0 80]) (h' := h) 42 4 (Nat.le_of_ble_eq_true rfl) tk_R_ask rfl rfl ⟨trivial, trivial, trivial, trivial, trivial⟩ ?_
      obtain ⟨q1, hq2, hx⟩ := bd hx
      refine Ev.callV (ν := m_R_lineOf) (av := [vi v2, vi v3, vi v1]) (rest := []) (r1 := some (vi q1)) (h1 := h) (ci := 12) (nn := 0) (o := 80) 46 3 tk_R_ask rfl bb_R_lineOf vv_R_lineOf lk_12_455 (by decide) rfl rfl (Or.inl rfl) (Nat.le_of_ble_eq_true rfl) (s_R_lineOf Γ v2 v3 v1 h _ hq2) ?_
      show Ev Γ m_R_ask 74 [some (vr 12 0 80), some (vi v1), some (vi v2), some (vi v3), none, none] [vi q1] h r h'
      refine Ev.blk (pc' := 79) (lv' := [some (vr 12 0 80), some (vi v1), some (vi v2), some (vi v3), some (vi q1), none]) (st' := [vi (ii (-1)), vi q1]) (h' := h) 47 3 (Nat.le_of_ble_eq_true rfl) tk_R_ask rfl rfl ⟨trivial, trivial, trivial, trivial⟩ ?_
      obtain ⟨q4, hq3, hx⟩ := bd hx
      have K4 : Ev Γ m_R_ask 138 [some (vr 12 0 80), some (vi v1), some (vi v2), some (vi v3), none, none] [] q4 r h' := by
        refine Ev.blk (pc' := 58) (lv' := [some (vr 12 0 80), some (vi v1), some (vi v2), some (vi (v3 + ii 1)), none, none]) (st' := []) (h' := q4) 79 2 (Nat.le_of_ble_eq_true rfl) tk_R_ask rfl rfl ⟨trivial, trivial, trivial⟩ ?_
        exact Ev.msk [true, true, true, true, false, false] (ih v1 v2 (v3 + ii 1) q4 _ hx r h' hP)
      clear hx
      refine Ev.icmp_eq 50 138 tk_R_ask rfl (by decide) (fun hc5 => ?_) (fun hc5 => ?_)
      · replace hq3 := ip hc5 hq3
        obtain rfl := Option.some.inj hq3
        exact Ev.msk [true, true, true, true, false, false] K4
      · replace hq3 := ia hc5 hq3
        refine Ev.blk (pc' := 86) (lv' := [some (vr 12 0 80), some (vi v1), some (vi v2), some (vi v3), some (vi q1), none]) (st' := [vi (ii (-1)), vi q1, vr 12 0 80]) (h' := h) 51 3 (Nat.le_of_ble_eq_true rfl) tk_R_ask rfl rfl ⟨trivial, trivial, trivial, trivial⟩ ?_
        obtain ⟨q2, hq6, hq3⟩ := bd hq3
        refine Ev.callV (ν := m_R_isSo) (av := [vi q1, vi (ii (-1))]) (rest := []) (r1 := some (vi q2)) (h1 := h) (ci := 12) (nn := 0) (o := 80) 54 2 tk_R_ask rfl bb_R_isSo vv_R_isSo lk_12_459 (by decide) rfl rfl (Or.inl rfl) (Nat.le_of_ble_eq_true rfl) (s_R_isSo Γ q1 (ii (-1)) h _ hq6) ?_
        show Ev Γ m_R_ask 89 [some (vr 12 0 80), some (vi v1), some (vi v2), some (vi v3), some (vi q1), none] [vi q2] h r h'
        refine Ev.if_ne 55 95 tk_R_ask rfl (by decide) (fun hc7 => ?_) (fun hc7 => ?_)
        · replace hq3 := ia hc7 hq3
          refine Ev.blk (pc' := 98) (lv' := [some (vr 12 0 80), some (vi v1), some (vi v2), some (vi v3), some (vi q1), some (vi (ii 0))]) (st' := []) (h' := h) 57 2 (Nat.le_of_ble_eq_true rfl) tk_R_ask rfl rfl ⟨trivial, trivial, trivial⟩ ?_
          obtain ⟨q3, hq8, hq3⟩ := bd hq3
          refine Ev.msk [true, true, true, true, true, true] ?_
          show Ev Γ m_R_ask 98 [some (vr 12 0 80), some (vi v1), some (vi v2), some (vi v3), some (vi q1), some (vi (ii 0))] [] h r h'
          refine l_R_ask_L98 Γ FU v1 v2 v3 q1 (ii 0) h _ hq8 r h' ?_
          show Ev Γ m_R_ask 138 [some (vr 12 0 80), some (vi v1), some (vi v2), some (vi v3), none, none] [] q3 r h'
          obtain rfl := Option.some.inj hq3
          exact Ev.msk [true, true, true, true, false, false] K4
        · replace hq3 := ip hc7 hq3
          refine Ev.blk (pc' := 138) (lv' := [some (vr 12 0 80), some (vi v1), some (vi v2), some (vi v3), some (vi q1), none]) (st' := []) (h' := h) 56 1 (Nat.le_of_ble_eq_true rfl) tk_R_ask rfl rfl ⟨trivial, trivial⟩ ?_
          obtain rfl := Option.some.inj hq3
          exact Ev.msk [true, true, true, true, false, false] K4
set_option maxRecDepth 4000 in
theorem l_R_ask_L48 (Γ : AG) : ∀ (n : Nat) (v1 : Int32) (v2 : Int32) (h : AH) (x : AH), R_ask_L48 n v1 v2 h = some x → ∀ (r : Option AV) (h' : AH), Ev Γ m_R_ask 150 [some (vr 12 0 80), none, none, none, none, none] [] x r h' → Ev Γ m_R_ask 48 [some (vr 12 0 80), some (vi v1), some (vi v2), none, none, none] [] h r h' := by
  intro n
  induction n with
  | zero => intro v1 v2 h x hx; cases hx
  | succ n ih =>
    intro v1 v2 h x hx r h' hP
    replace hx : R_ask_L48_b (R_ask_L48 n) v1 v2 h = some x := hx
    unfold R_ask_L48_b at hx
    refine Ev.blk (pc' := 53) (lv' := [some (vr 12 0 80), some (vi v1), some (vi v2), none, none, none]) (st' := [vi (h.1 80 34), vi v2]) (h' := h) 29 3 (Nat.le_of_ble_eq_true rfl) tk_R_ask rfl rfl ⟨trivial, trivial, trivial, trivial⟩ ?_
    refine Ev.icmp_ge 32 150 tk_R_ask rfl (by decide) (fun hc1 => ?_) (fun hc1 => ?_)
    · replace hx := ip hc1 hx
      obtain rfl := Option.some.inj hx
      exact Ev.msk [true, false, false, false, false, false] hP
    · replace hx := ia hc1 hx
      refine Ev.blk (pc' := 58) (lv' := [some (vr 12 0 80), some (vi v1), some (vi v2), some (vi (ii 0)), none, none]) (st' := []) (h' := h) 33 2 (Nat.le_of_ble_eq_true rfl) tk_R_ask rfl rfl ⟨trivial, trivial, trivial⟩ ?_
      obtain ⟨q1, hq2, hx⟩ := bd hx
      refine Ev.msk [true, true, true, true, false, false] ?_
      show Ev Γ m_R_ask 58 [some (vr 12 0 80), some (vi v1), some (vi v2), some (vi (ii 0)), none, none] [] h r h'
      refine l_R_ask_L58 Γ FU v1 v2 (ii 0) h _ hq2 r h' ?_
      show Ev Γ m_R_ask 144 [some (vr 12 0 80), some (vi v1), some (vi v2), none, none, none] [] q1 r h'
      refine Ev.blk (pc' := 48) (lv' := [some (vr 12 0 80), some (vi v1), some (vi (v2 + ii 1)), none, none, none]) (st' := []) (h' := q1) 81 2 (Nat.le_of_ble_eq_true rfl) tk_R_ask rfl rfl ⟨trivial, trivial, trivial⟩ ?_
      exact Ev.msk [true, true, true, false, false, false] (ih v1 (v2 + ii 1) q1 _ hx r h' hP)
set_option maxRecDepth 4000 in
theorem s_R_ask (Γ : AG) (a1 : Int32) (h : AH) (x : Int32 × AH) (hx : f_R_ask a1 h = some x) : MetA Γ m_R_ask [vr 12 0 80, vi a1] h (some (vi x.1)) x.2 := by
  refine Ev.met rfl rfl (Nat.le_of_ble_eq_true rfl) ?_
  show Ev Γ m_R_ask 0 [some (vr 12 0 80), some (vi a1), none, none, none, none] [] h _ _
  obtain ⟨r, hr⟩ : ∃ r : Option AV, r = some (vi x.1) := ⟨_, rfl⟩
  obtain ⟨h', hh⟩ : ∃ h' : AH, h' = x.2 := ⟨_, rfl⟩
  have hP : r = some (vi x.1) ∧ h' = x.2 := ⟨hr, hh⟩
  suffices hS : Ev Γ m_R_ask 0 [some (vr 12 0 80), some (vi a1), none, none, none, none] [] h r h' by rw [hr, hh] at hS; exact hS
  clear hr hh
  unfold f_R_ask at hx
  refine Ev.blk (pc' := 7) (lv' := [some (vr 12 0 80), some (vi a1), none, none, none, none]) (st' := [vi a1, vr 12 0 80]) (h' := (wI h 80 0 (ii 0))) 0 5 (Nat.le_of_ble_eq_true rfl) tk_R_ask rfl rfl ⟨trivial, trivial, trivial, trivial, trivial, trivial⟩ ?_
  refine Ev.callV (ν := m_R_isLong) (av := [vi a1]) (rest := []) (r1 := some (vi (p_R_isLong a1 (wI h 80 0 (ii 0))))) (h1 := (wI h 80 0 (ii 0))) (ci := 12) (nn := 0) (o := 80) 5 1 tk_R_ask rfl bb_R_isLong vv_R_isLong lk_12_462 (by decide) rfl rfl (Or.inl rfl) (Nat.le_of_ble_eq_true rfl) (s_R_isLong Γ a1 (wI h 80 0 (ii 0))) ?_
  show Ev Γ m_R_ask 10 [some (vr 12 0 80), some (vi a1), none, none, none, none] [vi (p_R_isLong a1 (wI h 80 0 (ii 0)))] (wI h 80 0 (ii 0)) r h'
  refine Ev.if_eq 6 23 tk_R_ask rfl (by decide) (fun hc1 => ?_) (fun hc1 => ?_)
  · replace hx := ip hc1 hx
    refine Ev.blk (pc' := 24) (lv' := [some (vr 12 0 80), some (vi a1), none, none, none, none]) (st' := [vi (ii (-1))]) (h' := (wI h 80 0 (ii 0))) 13 1 (Nat.le_of_ble_eq_true rfl) tk_R_ask rfl rfl ⟨trivial, trivial⟩ ?_
    obtain rfl := Option.some.inj hx
    obtain ⟨rfl, rfl⟩ := hP
    exact Ev.iret 14 tk_R_ask rfl rfl
  · replace hx := ia hc1 hx
    refine Ev.blk (pc' := 17) (lv' := [some (vr 12 0 80), some (vi a1), none, none, none, none]) (st' := [vi (ii (-1)), vi (ii (-1)), vi a1, vr 12 0 80]) (h' := (wI h 80 0 (ii 0))) 7 4 (Nat.le_of_ble_eq_true rfl) tk_R_ask rfl rfl ⟨trivial, trivial, trivial, trivial, trivial⟩ ?_
    obtain ⟨q1, hq2, hx⟩ := bd hx
    refine Ev.callV (ν := m_R_fitsBy) (av := [vi a1, vi (ii (-1)), vi (ii (-1))]) (rest := []) (r1 := some (vi q1)) (h1 := (wI h 80 0 (ii 0))) (ci := 12) (nn := 0) (o := 80) 11 3 tk_R_ask rfl bb_R_fitsBy vv_R_fitsBy lk_12_465 (by decide) rfl rfl (Or.inl rfl) (Nat.le_of_ble_eq_true rfl) (s_R_fitsBy Γ a1 (ii (-1)) (ii (-1)) (wI h 80 0 (ii 0)) _ hq2) ?_
    show Ev Γ m_R_ask 20 [some (vr 12 0 80), some (vi a1), none, none, none, none] [vi q1] (wI h 80 0 (ii 0)) r h'
    refine Ev.if_ne 12 25 tk_R_ask rfl (by decide) (fun hc3 => ?_) (fun hc3 => ?_)
    · replace hx := ia hc3 hx
      refine Ev.blk (pc' := 27) (lv' := [some (vr 12 0 80), some (vi a1), some (vi (ii 0)), none, none, none]) (st' := []) (h' := (wI h 80 0 (ii 0))) 15 2 (Nat.le_of_ble_eq_true rfl) tk_R_ask rfl rfl ⟨trivial, trivial, trivial⟩ ?_
      obtain ⟨q2, hq4, hx⟩ := bd hx
      refine Ev.msk [true, true, true, false, false, false] ?_
      show Ev Γ m_R_ask 27 [some (vr 12 0 80), some (vi a1), some (vi (ii 0)), none, none, none] [] (wI h 80 0 (ii 0)) r h'
      refine l_R_ask_L27 Γ FU a1 (ii 0) (wI h 80 0 (ii 0)) _ hq4 r h' ?_
      show Ev Γ m_R_ask 46 [some (vr 12 0 80), some (vi a1), none, none, none, none] [] q2 r h'
      refine Ev.blk (pc' := 48) (lv' := [some (vr 12 0 80), some (vi a1), some (vi (ii 0)), none, none, none]) (st' := []) (h' := q2) 27 2 (Nat.le_of_ble_eq_true rfl) tk_R_ask rfl rfl ⟨trivial, trivial, trivial⟩ ?_
      obtain ⟨q3, hq5, hx⟩ := bd hx
      refine Ev.msk [true, true, true, false, false, false] ?_
      show Ev Γ m_R_ask 48 [some (vr 12 0 80), some (vi a1), some (vi (ii 0)), none, none, none] [] q2 r h'
      refine l_R_ask_L48 Γ FU a1 (ii 0) q2 _ hq5 r h' ?_
      show Ev Γ m_R_ask 150 [some (vr 12 0 80), none, none, none, none, none] [] q3 r h'
      refine Ev.blk (pc' := 154) (lv' := [some (vr 12 0 80), none, some (vi (ii 0)), some (vi (ii 1)), none, none]) (st' := []) (h' := q3) 83 4 (Nat.le_of_ble_eq_true rfl) tk_R_ask rfl rfl ⟨trivial, trivial, trivial, trivial, trivial⟩ ?_
      refine Ev.msk [true, false, true, true, false, false] ?_
      show Ev Γ m_R_ask 154 [some (vr 12 0 80), none, some (vi (ii 0)), some (vi (ii 1)), none, none] [] q3 r h'
      exact l_R_ask_L154 Γ FU (ii 0) (ii 1) q3 _ hx r h' hP
    · replace hx := ip hc3 hx
      refine Ev.blk (pc' := 24) (lv' := [some (vr 12 0 80), some (vi a1), none, none, none, none]) (st' := [vi (ii (-1))]) (h' := (wI h 80 0 (ii 0))) 13 1 (Nat.le_of_ble_eq_true rfl) tk_R_ask rfl rfl ⟨trivial, trivial⟩ ?_
      obtain rfl := Option.some.inj hx
      obtain ⟨rfl, rfl⟩ := hP
      exact Ev.iret 14 tk_R_ask rfl rfl
set_option maxRecDepth 4000 in
theorem l_R_wrong_L31 (Γ : AG) : ∀ (n : Nat) (v1 : Int32) (v2 : Int32) (v3 : Int32) (h : AH) (x : Int32 × AH), R_wrong_L31 n v1 v2 v3 h = some x → ∀ (r : Option AV) (h' : AH), r = some (vi x.1) ∧ h' = x.2 → Ev Γ m_R_wrong 31 [some (vr 12 0 80), some (vi v1), some (vi v2), some (vi v3)] [] h r h' := by
  intro n
  induction n with
  | zero => intro v1 v2 v3 h x hx; cases hx
  | succ n ih =>
    intro v1 v2 v3 h x hx r h' hP
    replace hx : R_wrong_L31_b (R_wrong_L31 n) v1 v2 v3 h = some x := hx
    unfold R_wrong_L31_b at hx
    refine Ev.blk (pc' := 36) (lv' := [some (vr 12 0 80), some (vi v1), some (vi v2), some (vi v3)]) (st' := [vi (h.1 80 33), vi v3]) (h' := h) 21 3 (Nat.le_of_ble_eq_true rfl) tk_R_wrong rfl rfl ⟨trivial, trivial, trivial, trivial⟩ ?_
    refine Ev.icmp_ge 24 65 tk_R_wrong rfl (by decide) (fun hc1 => ?_) (fun hc1 => ?_)
    · replace hx := ip hc1 hx
      refine Ev.blk (pc' := 66) (lv' := [some (vr 12 0 80), some (vi v1), some (vi v2), some (vi v3)]) (st' := [vi v2]) (h' := h) 41 1 (Nat.le_of_ble_eq_true rfl) tk_R_wrong rfl rfl ⟨trivial, trivial⟩ ?_
      obtain rfl := Option.some.inj hx
      obtain ⟨rfl, rfl⟩ := hP
      exact Ev.iret 42 tk_R_wrong rfl rfl
    · replace hx := ia hc1 hx
      refine Ev.blk (pc' := 44) (lv' := [some (vr 12 0 80), some (vi v1), some (vi v2), some (vi v3)]) (st' := [vi v3, vi (ii (-1)), vi v1, vr 12 0 80, vi v2]) (h' := h) 25 5 (Nat.le_of_ble_eq_true rfl) tk_R_wrong rfl rfl ⟨trivial, trivial, trivial, trivial, trivial, trivial⟩ ?_
      obtain ⟨q1, hq2, hx⟩ := bd hx
      refine Ev.callV (ν := m_R_fitsBy) (av := [vi v1, vi (ii (-1)), vi v3]) (rest := [vi v2]) (r1 := some (vi q1)) (h1 := h) (ci := 12) (nn := 0) (o := 80) 30 3 tk_R_wrong rfl bb_R_fitsBy vv_R_fitsBy lk_12_465 (by decide) rfl rfl (Or.inl rfl) (Nat.le_of_ble_eq_true rfl) (s_R_fitsBy Γ v1 (ii (-1)) v3 h _ hq2) ?_
      show Ev Γ m_R_wrong 47 [some (vr 12 0 80), some (vi v1), some (vi v2), some (vi v3)] [vi q1, vi v2] h r h'
      have K3 : ∀ v3_0 : Int32, v3_0 = (if q1 ≤ 0 then (ii 0) else (shlI (ii 1) v3)) → Ev Γ m_R_wrong 57 [some (vr 12 0 80), some (vi v1), none, some (vi v3)] [vi v3_0, vi v2] h r h' := by
        intro v3_0 e4
        subst e4
        refine Ev.blk (pc' := 31) (lv' := [some (vr 12 0 80), some (vi v1), some (vi (v2 ||| (if q1 ≤ 0 then (ii 0) else (shlI (ii 1) v3)))), some (vi (v3 + ii 1))]) (st' := []) (h' := h) 37 4 (Nat.le_of_ble_eq_true rfl) tk_R_wrong rfl rfl ⟨trivial, trivial, trivial, trivial, trivial⟩ ?_
        exact Ev.msk [true, true, true, true] (ih v1 (v2 ||| (if q1 ≤ 0 then (ii 0) else (shlI (ii 1) v3))) (v3 + ii 1) h _ hx r h' hP)
      refine Ev.if_le 31 56 tk_R_wrong rfl (by decide) (fun hc5 => ?_) (fun hc5 => ?_)
      · refine Ev.blk (pc' := 57) (lv' := [some (vr 12 0 80), some (vi v1), some (vi v2), some (vi v3)]) (st' := [vi (ii 0), vi v2]) (h' := h) 36 1 (Nat.le_of_ble_eq_true rfl) tk_R_wrong rfl rfl ⟨trivial, trivial⟩ ?_
        exact Ev.msk [true, true, false, true] (K3 _ (by first | rfl | simp only [if_pos hc5]))
      · refine Ev.blk (pc' := 57) (lv' := [some (vr 12 0 80), some (vi v1), some (vi v2), some (vi v3)]) (st' := [vi (shlI (ii 1) v3), vi v2]) (h' := h) 32 4 (Nat.le_of_ble_eq_true rfl) tk_R_wrong rfl rfl ⟨trivial, trivial, trivial, trivial, trivial⟩ ?_
        exact Ev.msk [true, true, false, true] (K3 _ (by first | rfl | simp only [if_neg hc5]))
set_option maxRecDepth 4000 in
theorem s_R_wrong (Γ : AG) (a1 : Int32) (h : AH) (x : Int32 × AH) (hx : f_R_wrong a1 h = some x) : MetA Γ m_R_wrong [vr 12 0 80, vi a1] h (some (vi x.1)) x.2 := by
  refine Ev.met rfl rfl (Nat.le_of_ble_eq_true rfl) ?_
  show Ev Γ m_R_wrong 0 [some (vr 12 0 80), some (vi a1), none, none] [] h _ _
  obtain ⟨r, hr⟩ : ∃ r : Option AV, r = some (vi x.1) := ⟨_, rfl⟩
  obtain ⟨h', hh⟩ : ∃ h' : AH, h' = x.2 := ⟨_, rfl⟩
  have hP : r = some (vi x.1) ∧ h' = x.2 := ⟨hr, hh⟩
  suffices hS : Ev Γ m_R_wrong 0 [some (vr 12 0 80), some (vi a1), none, none] [] h r h' by rw [hr, hh] at hS; exact hS
  clear hr hh
  unfold f_R_wrong at hx
  refine Ev.blk (pc' := 7) (lv' := [some (vr 12 0 80), some (vi a1), none, none]) (st' := [vi a1, vr 12 0 80]) (h' := (wI h 80 0 (ii 0))) 0 5 (Nat.le_of_ble_eq_true rfl) tk_R_wrong rfl rfl ⟨trivial, trivial, trivial, trivial, trivial, trivial⟩ ?_
  refine Ev.callV (ν := m_R_isLong) (av := [vi a1]) (rest := []) (r1 := some (vi (p_R_isLong a1 (wI h 80 0 (ii 0))))) (h1 := (wI h 80 0 (ii 0))) (ci := 12) (nn := 0) (o := 80) 5 1 tk_R_wrong rfl bb_R_isLong vv_R_isLong lk_12_462 (by decide) rfl rfl (Or.inl rfl) (Nat.le_of_ble_eq_true rfl) (s_R_isLong Γ a1 (wI h 80 0 (ii 0))) ?_
  show Ev Γ m_R_wrong 10 [some (vr 12 0 80), some (vi a1), none, none] [vi (p_R_isLong a1 (wI h 80 0 (ii 0)))] (wI h 80 0 (ii 0)) r h'
  refine Ev.if_ne 6 15 tk_R_wrong rfl (by decide) (fun hc1 => ?_) (fun hc1 => ?_)
  · replace hx := ia hc1 hx
    refine Ev.blk (pc' := 19) (lv' := [some (vr 12 0 80), some (vi a1), none, none]) (st' := [vi (ii (-1)), vi (ii (-1)), vi a1, vr 12 0 80]) (h' := (wI h 80 0 (ii 0))) 9 4 (Nat.le_of_ble_eq_true rfl) tk_R_wrong rfl rfl ⟨trivial, trivial, trivial, trivial, trivial⟩ ?_
    obtain ⟨q1, hq2, hx⟩ := bd hx
    refine Ev.callV (ν := m_R_fitsBy) (av := [vi a1, vi (ii (-1)), vi (ii (-1))]) (rest := []) (r1 := some (vi q1)) (h1 := (wI h 80 0 (ii 0))) (ci := 12) (nn := 0) (o := 80) 13 3 tk_R_wrong rfl bb_R_fitsBy vv_R_fitsBy lk_12_465 (by decide) rfl rfl (Or.inl rfl) (Nat.le_of_ble_eq_true rfl) (s_R_fitsBy Γ a1 (ii (-1)) (ii (-1)) (wI h 80 0 (ii 0)) _ hq2) ?_
    show Ev Γ m_R_wrong 22 [some (vr 12 0 80), some (vi a1), none, none] [vi q1] (wI h 80 0 (ii 0)) r h'
    refine Ev.if_le 14 27 tk_R_wrong rfl (by decide) (fun hc3 => ?_) (fun hc3 => ?_)
    · replace hx := ip hc3 hx
      refine Ev.blk (pc' := 31) (lv' := [some (vr 12 0 80), some (vi a1), some (vi (ii 0)), some (vi (ii 0))]) (st' := []) (h' := (wI h 80 0 (ii 0))) 17 4 (Nat.le_of_ble_eq_true rfl) tk_R_wrong rfl rfl ⟨trivial, trivial, trivial, trivial, trivial⟩ ?_
      refine Ev.msk [true, true, true, true] ?_
      show Ev Γ m_R_wrong 31 [some (vr 12 0 80), some (vi a1), some (vi (ii 0)), some (vi (ii 0))] [] (wI h 80 0 (ii 0)) r h'
      exact l_R_wrong_L31 Γ FU a1 (ii 0) (ii 0) (wI h 80 0 (ii 0)) _ hx r h' hP
    · replace hx := ia hc3 hx
      refine Ev.blk (pc' := 26) (lv' := [some (vr 12 0 80), some (vi a1), none, none]) (st' := [vi (ii 0)]) (h' := (wI h 80 0 (ii 0))) 15 1 (Nat.le_of_ble_eq_true rfl) tk_R_wrong rfl rfl ⟨trivial, trivial⟩ ?_
      obtain rfl := Option.some.inj hx
      obtain ⟨rfl, rfl⟩ := hP
      exact Ev.iret 16 tk_R_wrong rfl rfl
  · replace hx := ip hc1 hx
    refine Ev.blk (pc' := 14) (lv' := [some (vr 12 0 80), some (vi a1), none, none]) (st' := [vi (ii (-1))]) (h' := (wI h 80 0 (ii 0))) 7 1 (Nat.le_of_ble_eq_true rfl) tk_R_wrong rfl rfl ⟨trivial, trivial⟩ ?_
    obtain rfl := Option.some.inj hx
    obtain ⟨rfl, rfl⟩ := hP
    exact Ev.iret 8 tk_R_wrong rfl rfl
set_option maxRecDepth 4000 in
theorem l_R_latest_L10 (Γ : AG) : ∀ (n : Nat) (v1 : Int32) (v2 : Int32) (v3 : Int32) (h : AH) (x : Int32), R_latest_L10 n v1 v2 v3 h = some x → ∀ (r : Option AV) (h' : AH), r = some (vi x) ∧ h' = h → Ev Γ m_R_latest 10 [some (vr 12 0 80), some (vi v1), some (vi v2), some (vi v3)] [] h r h' := by
  intro n
  induction n with
  | zero => intro v1 v2 v3 h x hx; cases hx
  | succ n ih =>
    intro v1 v2 v3 h x hx r h' hP
    replace hx : R_latest_L10_b (R_latest_L10 n) v1 v2 v3 h = some x := hx
    unfold R_latest_L10_b at hx
    refine Ev.blk (pc' := 11) (lv' := [some (vr 12 0 80), some (vi v1), some (vi v2), some (vi v3)]) (st' := [vi v3]) (h' := h) 7 1 (Nat.le_of_ble_eq_true rfl) tk_R_latest rfl rfl ⟨trivial, trivial⟩ ?_
    refine Ev.if_lt 8 62 tk_R_latest rfl (by decide) (fun hc1 => ?_) (fun hc1 => ?_)
    · replace hx := ip hc1 hx
      refine Ev.blk (pc' := 63) (lv' := [some (vr 12 0 80), some (vi v1), some (vi v2), some (vi v3)]) (st' := [vi (ii (-1))]) (h' := h) 40 1 (Nat.le_of_ble_eq_true rfl) tk_R_latest rfl rfl ⟨trivial, trivial⟩ ?_
      obtain rfl := Option.some.inj hx
      obtain ⟨rfl, rfl⟩ := hP
      exact Ev.iret 41 tk_R_latest rfl rfl
    · replace hx := ia hc1 hx
      obtain ⟨hg2, hx⟩ := gd hx
      refine Ev.blk (pc' := 26) (lv' := [some (vr 12 0 80), some (vi v1), some (vi v2), some (vi v3)]) (st' := [vi v1, vi (h.1 97 ((ii 47) + ((ii 3) * v3)).toNatClampNeg)]) (h' := h) 9 9 (Nat.le_of_ble_eq_true rfl) tk_R_latest rfl rfl ⟨trivial, trivial, trivial, trivial, trivial, trivial, trivial, hg2, trivial, trivial⟩ ?_
      refine Ev.icmp_ne 18 56 tk_R_latest rfl (by decide) (fun hc3 => ?_) (fun hc3 => ?_)
      · replace hx := ia hc3 hx
        refine Ev.blk (pc' := 10) (lv' := [some (vr 12 0 80), some (vi v1), some (vi v2), some (vi (v3 + ii (-1)))]) (st' := []) (h' := h) 38 2 (Nat.le_of_ble_eq_true rfl) tk_R_latest rfl rfl ⟨trivial, trivial, trivial⟩ ?_
        exact Ev.msk [true, true, true, true] (ih v1 v2 (v3 + ii (-1)) h _ hx r h' hP)
      · replace hx := ip hc3 hx
        obtain ⟨hg4, hx⟩ := gd hx
        refine Ev.blk (pc' := 41) (lv' := [some (vr 12 0 80), some (vi v1), some (vi v2), some (vi v3)]) (st' := [vi v2, vi (h.1 97 ((ii 48) + ((ii 3) * v3)).toNatClampNeg)]) (h' := h) 19 9 (Nat.le_of_ble_eq_true rfl) tk_R_latest rfl rfl ⟨trivial, trivial, trivial, trivial, trivial, trivial, trivial, hg4, trivial, trivial⟩ ?_
        refine Ev.icmp_ne 28 56 tk_R_latest rfl (by decide) (fun hc5 => ?_) (fun hc5 => ?_)
        · replace hx := ia hc5 hx
          refine Ev.blk (pc' := 10) (lv' := [some (vr 12 0 80), some (vi v1), some (vi v2), some (vi (v3 + ii (-1)))]) (st' := []) (h' := h) 38 2 (Nat.le_of_ble_eq_true rfl) tk_R_latest rfl rfl ⟨trivial, trivial, trivial⟩ ?_
          exact Ev.msk [true, true, true, true] (ih v1 v2 (v3 + ii (-1)) h _ hx r h' hP)
        · replace hx := ip hc5 hx
          obtain ⟨hg6, hx⟩ := gd hx
          refine Ev.blk (pc' := 55) (lv' := [some (vr 12 0 80), some (vi v1), some (vi v2), some (vi v3)]) (st' := [vi (h.1 97 ((ii 49) + ((ii 3) * v3)).toNatClampNeg)]) (h' := h) 29 8 (Nat.le_of_ble_eq_true rfl) tk_R_latest rfl rfl ⟨trivial, trivial, trivial, trivial, trivial, trivial, trivial, hg6, trivial⟩ ?_
          obtain rfl := Option.some.inj hx
          obtain ⟨rfl, rfl⟩ := hP
          exact Ev.iret 37 tk_R_latest rfl rfl
set_option maxRecDepth 4000 in
theorem s_R_latest (Γ : AG) (a1 : Int32) (a2 : Int32) (h : AH) (x : Int32) (hx : f_R_latest a1 a2 h = some x) : MetA Γ m_R_latest [vr 12 0 80, vi a1, vi a2] h (some (vi x)) h := by
  refine Ev.met rfl rfl (Nat.le_of_ble_eq_true rfl) ?_
  show Ev Γ m_R_latest 0 [some (vr 12 0 80), some (vi a1), some (vi a2), none] [] h _ _
  obtain ⟨r, hr⟩ : ∃ r : Option AV, r = some (vi x) := ⟨_, rfl⟩
  obtain ⟨h', hh⟩ : ∃ h' : AH, h' = h := ⟨_, rfl⟩
  have hP : r = some (vi x) ∧ h' = h := ⟨hr, hh⟩
  suffices hS : Ev Γ m_R_latest 0 [some (vr 12 0 80), some (vi a1), some (vi a2), none] [] h r h' by rw [hr, hh] at hS; exact hS
  clear hr hh
  unfold f_R_latest at hx
  obtain ⟨hg1, hx⟩ := gd hx
  refine Ev.blk (pc' := 10) (lv' := [some (vr 12 0 80), some (vi a1), some (vi a2), some (vi ((h.1 97 (ii 46).toNatClampNeg) - (ii 1)))]) (st' := []) (h' := h) 0 7 (Nat.le_of_ble_eq_true rfl) tk_R_latest rfl rfl ⟨trivial, trivial, trivial, hg1, trivial, trivial, trivial, trivial⟩ ?_
  refine Ev.msk [true, true, true, true] ?_
  show Ev Γ m_R_latest 10 [some (vr 12 0 80), some (vi a1), some (vi a2), some (vi ((h.1 97 (ii 46).toNatClampNeg) - (ii 1)))] [] h r h'
  exact l_R_latest_L10 Γ FU a1 a2 ((h.1 97 (ii 46).toNatClampNeg) - (ii 1)) h _ hx r h' hP
set_option maxRecDepth 4000 in
theorem l_R_chance_L23 (Γ : AG) : ∀ (n : Nat) (v1 : Int32) (v2 : Int64) (v4 : Int64) (v6 : Int32) (h : AH) (x : Int32 × AH), R_chance_L23 n v1 v2 v4 v6 h = some x → ∀ (r : Option AV) (h' : AH), r = some (vi x.1) ∧ h' = x.2 → Ev Γ m_R_chance 23 [some (vr 12 0 80), some (vi v1), some (vl v2), none, some (vl v4), none, some (vi v6), none, none] [] h r h' := by
  intro n
  induction n with
  | zero => intro v1 v2 v4 v6 h x hx; cases hx
  | succ n ih =>
    intro v1 v2 v4 v6 h x hx r h' hP
    replace hx : R_chance_L23_b (R_chance_L23 n) v1 v2 v4 v6 h = some x := hx
    unfold R_chance_L23_b at hx
    refine Ev.blk (pc' := 29) (lv' := [some (vr 12 0 80), some (vi v1), some (vl v2), none, some (vl v4), none, some (vi v6), none, none]) (st' := [vi (h.1 80 33), vi v6]) (h' := h) 15 3 (Nat.le_of_ble_eq_true rfl) tk_R_chance rfl rfl ⟨trivial, trivial, trivial, trivial⟩ ?_
    refine Ev.icmp_ge 18 107 tk_R_chance rfl (by decide) (fun hc1 => ?_) (fun hc1 => ?_)
    · replace hx := ip hc1 hx
      refine Ev.blk (pc' := 113) (lv' := [some (vr 12 0 80), some (vi v1), some (vl v2), none, some (vl v4), none, some (vi v6), none, none]) (st' := [vi (lg_cmp (v2 + v4) (Int64.ofNat 0))]) (h' := h) 59 5 (Nat.le_of_ble_eq_true rfl) tk_R_chance rfl rfl ⟨trivial, trivial, trivial, trivial, trivial, trivial⟩ ?_
      refine Ev.if_ne 64 120 tk_R_chance rfl (by decide) (fun hc2 => ?_) (fun hc2 => ?_)
      · replace hx := ia hc2 hx
        obtain ⟨hg3, hx⟩ := gd hx
        refine Ev.blk (pc' := 131) (lv' := [some (vr 12 0 80), some (vi v1), some (vl v2), none, some (vl v4), none, some (vi v6), none, none]) (st' := [vi ((((Int64.ofInt 1000000) * v2) / (v2 + v4)).toInt32)]) (h' := h) 67 8 (Nat.le_of_ble_eq_true rfl) tk_R_chance rfl rfl ⟨trivial, trivial, trivial, trivial, trivial, trivial, hg3, trivial, trivial⟩ ?_
        obtain rfl := Option.some.inj hx
        obtain ⟨rfl, rfl⟩ := hP
        exact Ev.iret 75 tk_R_chance rfl rfl
      · replace hx := ip hc2 hx
        refine Ev.blk (pc' := 131) (lv' := [some (vr 12 0 80), some (vi v1), some (vl v2), none, some (vl v4), none, some (vi v6), none, none]) (st' := [vi (ii (-1))]) (h' := h) 65 2 (Nat.le_of_ble_eq_true rfl) tk_R_chance rfl rfl ⟨trivial, trivial, trivial⟩ ?_
        obtain rfl := Option.some.inj hx
        obtain ⟨rfl, rfl⟩ := hP
        exact Ev.iret 75 tk_R_chance rfl rfl
    · replace hx := ia hc1 hx
      refine Ev.blk (pc' := 36) (lv' := [some (vr 12 0 80), some (vi v1), some (vl v2), none, some (vl v4), none, some (vi v6), none, none]) (st' := [vi v1, vi v6, vr 12 0 80]) (h' := h) 19 3 (Nat.le_of_ble_eq_true rfl) tk_R_chance rfl rfl ⟨trivial, trivial, trivial, trivial⟩ ?_
      obtain ⟨q1, hq4, hx⟩ := bd hx
      refine Ev.callV (ν := m_R_latest) (av := [vi v6, vi v1]) (rest := []) (r1 := some (vi q1)) (h1 := h) (ci := 12) (nn := 0) (o := 80) 22 2 tk_R_chance rfl bb_R_latest vv_R_latest lk_12_471 (by decide) rfl rfl (Or.inl rfl) (Nat.le_of_ble_eq_true rfl) (s_R_latest Γ v6 v1 h _ hq4) ?_
      show Ev Γ m_R_chance 39 [some (vr 12 0 80), some (vi v1), some (vl v2), none, some (vl v4), none, some (vi v6), none, none] [vi q1] h r h'
      refine Ev.blk (pc' := 44) (lv' := [some (vr 12 0 80), some (vi v1), some (vl v2), none, some (vl v4), none, some (vi v6), some (vi q1), none]) (st' := [vi (ii (-1)), vi q1]) (h' := h) 23 3 (Nat.le_of_ble_eq_true rfl) tk_R_chance rfl rfl ⟨trivial, trivial, trivial, trivial⟩ ?_
      obtain ⟨q3, hq5, hx⟩ := bd hx
      have K6 : Ev Γ m_R_chance 101 [some (vr 12 0 80), some (vi v1), some (vl q3.1), none, some (vl q3.2), none, some (vi v6), none, none] [] h r h' := by
        refine Ev.blk (pc' := 23) (lv' := [some (vr 12 0 80), some (vi v1), some (vl q3.1), none, some (vl q3.2), none, some (vi (v6 + ii 1)), none, none]) (st' := []) (h' := h) 57 2 (Nat.le_of_ble_eq_true rfl) tk_R_chance rfl rfl ⟨trivial, trivial, trivial⟩ ?_
        exact Ev.msk [true, true, true, false, true, false, true, false, false] (ih v1 q3.1 q3.2 (v6 + ii 1) h _ hx r h' hP)
      clear hx
      refine Ev.icmp_ne 26 50 tk_R_chance rfl (by decide) (fun hc7 => ?_) (fun hc7 => ?_)
      · replace hq5 := ia hc7 hq5
        refine Ev.blk (pc' := 54) (lv' := [some (vr 12 0 80), some (vi v1), some (vl v2), none, some (vl v4), none, some (vi v6), some (vi q1), none]) (st' := [vi (ii 4), vi v6, vr 12 0 80]) (h' := h) 28 3 (Nat.le_of_ble_eq_true rfl) tk_R_chance rfl rfl ⟨trivial, trivial, trivial, trivial⟩ ?_
        obtain ⟨q2, hq8, hq5⟩ := bd hq5
        refine Ev.callV (ν := m_R_told) (av := [vi v6, vi (ii 4)]) (rest := []) (r1 := some (vi q2)) (h1 := h) (ci := 12) (nn := 0) (o := 80) 31 2 tk_R_chance rfl bb_R_told vv_R_told lk_12_338 (by decide) rfl rfl (Or.inl rfl) (Nat.le_of_ble_eq_true rfl) (s_R_told Γ v6 (ii 4) h _ hq8) ?_
        show Ev Γ m_R_chance 57 [some (vr 12 0 80), some (vi v1), some (vl v2), none, some (vl v4), none, some (vi v6), some (vi q1), none] [vi q2] h r h'
        refine Ev.blk (pc' := 62) (lv' := [some (vr 12 0 80), some (vi v1), some (vl v2), none, some (vl v4), none, some (vi v6), some (vi q1), some (vi q2)]) (st' := [vi q1, vl v2]) (h' := h) 32 3 (Nat.le_of_ble_eq_true rfl) tk_R_chance rfl rfl ⟨trivial, trivial, trivial, trivial⟩ ?_
        have K9 : ∀ v9_0 : Int64, v9_0 = (if q1 ≤ 0 then q2.toInt64 else ((ii 10) - q2).toInt64) → Ev Γ m_R_chance 77 [some (vr 12 0 80), some (vi v1), none, none, some (vl v4), none, some (vi v6), some (vi q1), some (vi q2)] [vl v9_0, vl v2] h r h' := by
          intro v9_0 e10
          subst e10
          refine Ev.blk (pc' := 83) (lv' := [some (vr 12 0 80), some (vi v1), some (vl (v2 * (if q1 ≤ 0 then q2.toInt64 else ((ii 10) - q2).toInt64))), none, some (vl v4), none, some (vi v6), some (vi q1), some (vi q2)]) (st' := [vi q1, vl v4]) (h' := h) 43 4 (Nat.le_of_ble_eq_true rfl) tk_R_chance rfl rfl ⟨trivial, trivial, trivial, trivial, trivial⟩ ?_
          have K11 : ∀ v11_0 : Int64, v11_0 = (if q1 ≤ 0 then ((ii 10) - q2).toInt64 else q2.toInt64) → Ev Γ m_R_chance 98 [some (vr 12 0 80), some (vi v1), some (vl (v2 * (if q1 ≤ 0 then q2.toInt64 else ((ii 10) - q2).toInt64))), none, none, none, some (vi v6), none, none] [vl v11_0, vl v4] h r h' := by
            intro v11_0 e12
            subst e12
            refine Ev.blk (pc' := 101) (lv' := [some (vr 12 0 80), some (vi v1), some (vl (v2 * (if q1 ≤ 0 then q2.toInt64 else ((ii 10) - q2).toInt64))), none, some (vl (v4 * (if q1 ≤ 0 then ((ii 10) - q2).toInt64 else q2.toInt64))), none, some (vi v6), none, none]) (st' := []) (h' := h) 55 2 (Nat.le_of_ble_eq_true rfl) tk_R_chance rfl rfl ⟨trivial, trivial, trivial⟩ ?_
            obtain rfl := Option.some.inj hq5
            exact Ev.msk [true, true, true, false, true, false, true, false, false] K6
          refine Ev.if_le 47 92 tk_R_chance rfl (by decide) (fun hc13 => ?_) (fun hc13 => ?_)
          · refine Ev.blk (pc' := 98) (lv' := [some (vr 12 0 80), some (vi v1), some (vl (v2 * (if q1 ≤ 0 then q2.toInt64 else ((ii 10) - q2).toInt64))), none, some (vl v4), none, some (vi v6), some (vi q1), some (vi q2)]) (st' := [vl (((ii 10) - q2).toInt64), vl v4]) (h' := h) 51 4 (Nat.le_of_ble_eq_true rfl) tk_R_chance rfl rfl ⟨trivial, trivial, trivial, trivial, trivial⟩ ?_
            exact Ev.msk [true, true, true, false, false, false, true, false, false] (K11 _ (by first | rfl | simp only [if_pos hc13]))
          · refine Ev.blk (pc' := 98) (lv' := [some (vr 12 0 80), some (vi v1), some (vl (v2 * (if q1 ≤ 0 then q2.toInt64 else ((ii 10) - q2).toInt64))), none, some (vl v4), none, some (vi v6), some (vi q1), some (vi q2)]) (st' := [vl q2.toInt64, vl v4]) (h' := h) 48 3 (Nat.le_of_ble_eq_true rfl) tk_R_chance rfl rfl ⟨trivial, trivial, trivial, trivial⟩ ?_
            exact Ev.msk [true, true, true, false, false, false, true, false, false] (K11 _ (by first | rfl | simp only [if_neg hc13]))
        refine Ev.if_le 35 74 tk_R_chance rfl (by decide) (fun hc14 => ?_) (fun hc14 => ?_)
        · refine Ev.blk (pc' := 77) (lv' := [some (vr 12 0 80), some (vi v1), some (vl v2), none, some (vl v4), none, some (vi v6), some (vi q1), some (vi q2)]) (st' := [vl q2.toInt64, vl v2]) (h' := h) 41 2 (Nat.le_of_ble_eq_true rfl) tk_R_chance rfl rfl ⟨trivial, trivial, trivial⟩ ?_
          exact Ev.msk [true, true, false, false, true, false, true, true, true] (K9 _ (by first | rfl | simp only [if_pos hc14]))
        · refine Ev.blk (pc' := 77) (lv' := [some (vr 12 0 80), some (vi v1), some (vl v2), none, some (vl v4), none, some (vi v6), some (vi q1), some (vi q2)]) (st' := [vl (((ii 10) - q2).toInt64), vl v2]) (h' := h) 36 5 (Nat.le_of_ble_eq_true rfl) tk_R_chance rfl rfl ⟨trivial, trivial, trivial, trivial, trivial, trivial⟩ ?_
          exact Ev.msk [true, true, false, false, true, false, true, true, true] (K9 _ (by first | rfl | simp only [if_neg hc14]))
      · replace hq5 := ip hc7 hq5
        refine Ev.blk (pc' := 101) (lv' := [some (vr 12 0 80), some (vi v1), some (vl v2), none, some (vl v4), none, some (vi v6), some (vi q1), none]) (st' := []) (h' := h) 27 1 (Nat.le_of_ble_eq_true rfl) tk_R_chance rfl rfl ⟨trivial, trivial⟩ ?_
        obtain rfl := Option.some.inj hq5
        exact Ev.msk [true, true, true, false, true, false, true, false, false] K6
set_option maxRecDepth 4000 in
theorem s_R_chance (Γ : AG) (a1 : Int32) (h : AH) (x : Int32 × AH) (hx : f_R_chance a1 h = some x) : MetA Γ m_R_chance [vr 12 0 80, vi a1] h (some (vi x.1)) x.2 := by
  refine Ev.met rfl rfl (Nat.le_of_ble_eq_true rfl) ?_
  show Ev Γ m_R_chance 0 [some (vr 12 0 80), some (vi a1), none, none, none, none, none, none, none] [] h _ _
  obtain ⟨r, hr⟩ : ∃ r : Option AV, r = some (vi x.1) := ⟨_, rfl⟩
  obtain ⟨h', hh⟩ : ∃ h' : AH, h' = x.2 := ⟨_, rfl⟩
  have hP : r = some (vi x.1) ∧ h' = x.2 := ⟨hr, hh⟩
  suffices hS : Ev Γ m_R_chance 0 [some (vr 12 0 80), some (vi a1), none, none, none, none, none, none, none] [] h r h' by rw [hr, hh] at hS; exact hS
  clear hr hh
  unfold f_R_chance at hx
  refine Ev.blk (pc' := 7) (lv' := [some (vr 12 0 80), some (vi a1), none, none, none, none, none, none, none]) (st' := [vi a1, vr 12 0 80]) (h' := (wI h 80 0 (ii 0))) 0 5 (Nat.le_of_ble_eq_true rfl) tk_R_chance rfl rfl ⟨trivial, trivial, trivial, trivial, trivial, trivial⟩ ?_
  refine Ev.callV (ν := m_R_isCell) (av := [vi a1]) (rest := []) (r1 := some (vi (p_R_isCell a1 (wI h 80 0 (ii 0))))) (h1 := (wI h 80 0 (ii 0))) (ci := 12) (nn := 0) (o := 80) 5 1 tk_R_chance rfl bb_R_isCell vv_R_isCell lk_12_372 (by decide) rfl rfl (Or.inl rfl) (Nat.le_of_ble_eq_true rfl) (s_R_isCell Γ a1 (wI h 80 0 (ii 0))) ?_
  show Ev Γ m_R_chance 10 [some (vr 12 0 80), some (vi a1), none, none, none, none, none, none, none] [vi (p_R_isCell a1 (wI h 80 0 (ii 0)))] (wI h 80 0 (ii 0)) r h'
  refine Ev.if_ne 6 15 tk_R_chance rfl (by decide) (fun hc1 => ?_) (fun hc1 => ?_)
  · replace hx := ia hc1 hx
    refine Ev.blk (pc' := 23) (lv' := [some (vr 12 0 80), some (vi a1), some (vl (Int64.ofNat 1)), none, some (vl (Int64.ofNat 1)), none, some (vi (ii 0)), none, none]) (st' := []) (h' := (wI h 80 0 (ii 0))) 9 6 (Nat.le_of_ble_eq_true rfl) tk_R_chance rfl rfl ⟨trivial, trivial, trivial, trivial, trivial, trivial, trivial⟩ ?_
    refine Ev.msk [true, true, true, false, true, false, true, false, false] ?_
    show Ev Γ m_R_chance 23 [some (vr 12 0 80), some (vi a1), some (vl (Int64.ofNat 1)), none, some (vl (Int64.ofNat 1)), none, some (vi (ii 0)), none, none] [] (wI h 80 0 (ii 0)) r h'
    exact l_R_chance_L23 Γ FU a1 (Int64.ofNat 1) (Int64.ofNat 1) (ii 0) (wI h 80 0 (ii 0)) _ hx r h' hP
  · replace hx := ip hc1 hx
    refine Ev.blk (pc' := 14) (lv' := [some (vr 12 0 80), some (vi a1), none, none, none, none, none, none, none]) (st' := [vi (ii (-1))]) (h' := (wI h 80 0 (ii 0))) 7 1 (Nat.le_of_ble_eq_true rfl) tk_R_chance rfl rfl ⟨trivial, trivial⟩ ?_
    obtain rfl := Option.some.inj hx
    obtain ⟨rfl, rfl⟩ := hP
    exact Ev.iret 8 tk_R_chance rfl rfl
set_option maxRecDepth 4000 in
theorem l_R_hasWater_L2 (Γ : AG) : ∀ (n : Nat) (v1 : Int32) (v2 : Int32) (h : AH) (x : Int32), R_hasWater_L2 n v1 v2 h = some x → ∀ (r : Option AV) (h' : AH), r = some (vi x) ∧ h' = h → Ev Γ m_R_hasWater 2 [some (vr 12 0 80), some (vi v1), some (vi v2)] [] h r h' := by
  intro n
  induction n with
  | zero => intro v1 v2 h x hx; cases hx
  | succ n ih =>
    intro v1 v2 h x hx r h' hP
    replace hx : R_hasWater_L2_b (R_hasWater_L2 n) v1 v2 h = some x := hx
    unfold R_hasWater_L2_b at hx
    refine Ev.blk (pc' := 7) (lv' := [some (vr 12 0 80), some (vi v1), some (vi v2)]) (st' := [vi (h.1 80 30), vi v2]) (h' := h) 2 3 (Nat.le_of_ble_eq_true rfl) tk_R_hasWater rfl rfl ⟨trivial, trivial, trivial, trivial⟩ ?_
    refine Ev.icmp_ge 5 28 tk_R_hasWater rfl (by decide) (fun hc1 => ?_) (fun hc1 => ?_)
    · replace hx := ip hc1 hx
      refine Ev.blk (pc' := 29) (lv' := [some (vr 12 0 80), some (vi v1), some (vi v2)]) (st' := [vi (ii 0)]) (h' := h) 16 1 (Nat.le_of_ble_eq_true rfl) tk_R_hasWater rfl rfl ⟨trivial, trivial⟩ ?_
      obtain rfl := Option.some.inj hx
      obtain ⟨rfl, rfl⟩ := hP
      exact Ev.zret 17 tk_R_hasWater rfl rfl rfl
    · replace hx := ia hc1 hx
      refine Ev.blk (pc' := 13) (lv' := [some (vr 12 0 80), some (vi v1), some (vi v2)]) (st' := [vi v1, vi v2, vr 12 0 80]) (h' := h) 6 3 (Nat.le_of_ble_eq_true rfl) tk_R_hasWater rfl rfl ⟨trivial, trivial, trivial, trivial⟩ ?_
      obtain ⟨q1, hq2, hx⟩ := bd hx
      refine Ev.callV (ν := m_R_veinAt) (av := [vi v2, vi v1]) (rest := []) (r1 := some (vi q1)) (h1 := h) (ci := 12) (nn := 0) (o := 80) 9 2 tk_R_hasWater rfl bb_R_veinAt vv_R_veinAt lk_12_353 (by decide) rfl rfl (Or.inl rfl) (Nat.le_of_ble_eq_true rfl) (s_R_veinAt Γ v2 v1 h _ hq2) ?_
      show Ev Γ m_R_hasWater 16 [some (vr 12 0 80), some (vi v1), some (vi v2)] [vi q1] h r h'
      refine Ev.blk (pc' := 17) (lv' := [some (vr 12 0 80), some (vi v1), some (vi v2)]) (st' := [vi (ii (-1)), vi q1]) (h' := h) 10 1 (Nat.le_of_ble_eq_true rfl) tk_R_hasWater rfl rfl ⟨trivial, trivial⟩ ?_
      refine Ev.icmp_eq 11 22 tk_R_hasWater rfl (by decide) (fun hc3 => ?_) (fun hc3 => ?_)
      · replace hx := ip hc3 hx
        refine Ev.blk (pc' := 2) (lv' := [some (vr 12 0 80), some (vi v1), some (vi (v2 + ii 1))]) (st' := []) (h' := h) 14 2 (Nat.le_of_ble_eq_true rfl) tk_R_hasWater rfl rfl ⟨trivial, trivial, trivial⟩ ?_
        exact Ev.msk [true, true, true] (ih v1 (v2 + ii 1) h _ hx r h' hP)
      · replace hx := ia hc3 hx
        refine Ev.blk (pc' := 21) (lv' := [some (vr 12 0 80), some (vi v1), some (vi v2)]) (st' := [vi (ii 1)]) (h' := h) 12 1 (Nat.le_of_ble_eq_true rfl) tk_R_hasWater rfl rfl ⟨trivial, trivial⟩ ?_
        obtain rfl := Option.some.inj hx
        obtain ⟨rfl, rfl⟩ := hP
        exact Ev.zret 13 tk_R_hasWater rfl rfl rfl
set_option maxRecDepth 4000 in
theorem s_R_hasWater (Γ : AG) (a1 : Int32) (h : AH) (x : Int32) (hx : f_R_hasWater a1 h = some x) : MetA Γ m_R_hasWater [vr 12 0 80, vi a1] h (some (vi x)) h := by
  refine Ev.met rfl rfl (Nat.le_of_ble_eq_true rfl) ?_
  show Ev Γ m_R_hasWater 0 [some (vr 12 0 80), some (vi a1), none] [] h _ _
  obtain ⟨r, hr⟩ : ∃ r : Option AV, r = some (vi x) := ⟨_, rfl⟩
  obtain ⟨h', hh⟩ : ∃ h' : AH, h' = h := ⟨_, rfl⟩
  have hP : r = some (vi x) ∧ h' = h := ⟨hr, hh⟩
  suffices hS : Ev Γ m_R_hasWater 0 [some (vr 12 0 80), some (vi a1), none] [] h r h' by rw [hr, hh] at hS; exact hS
  clear hr hh
  unfold f_R_hasWater at hx
  refine Ev.blk (pc' := 2) (lv' := [some (vr 12 0 80), some (vi a1), some (vi (ii 0))]) (st' := []) (h' := h) 0 2 (Nat.le_of_ble_eq_true rfl) tk_R_hasWater rfl rfl ⟨trivial, trivial, trivial⟩ ?_
  refine Ev.msk [true, true, true] ?_
  show Ev Γ m_R_hasWater 2 [some (vr 12 0 80), some (vi a1), some (vi (ii 0))] [] h r h'
  exact l_R_hasWater_L2 Γ FU a1 (ii 0) h _ hx r h' hP
set_option maxRecDepth 4000 in
theorem l_R_wishers_L36 (Γ : AG) : ∀ (n : Nat) (v1 : Int32) (v2 : Int32) (v3 : Int32) (h : AH) (x : Int32 × AH), R_wishers_L36 n v1 v2 v3 h = some x → ∀ (r : Option AV) (h' : AH), r = some (vi x.1) ∧ h' = x.2 → Ev Γ m_R_wishers 36 [some (vr 12 0 80), some (vi v1), some (vi v2), some (vi v3)] [] h r h' := by
  intro n
  induction n with
  | zero => intro v1 v2 v3 h x hx; cases hx
  | succ n ih =>
    intro v1 v2 v3 h x hx r h' hP
    replace hx : R_wishers_L36_b (R_wishers_L36 n) v1 v2 v3 h = some x := hx
    unfold R_wishers_L36_b at hx
    refine Ev.blk (pc' := 41) (lv' := [some (vr 12 0 80), some (vi v1), some (vi v2), some (vi v3)]) (st' := [vi (h.1 80 33), vi v3]) (h' := h) 22 3 (Nat.le_of_ble_eq_true rfl) tk_R_wishers rfl rfl ⟨trivial, trivial, trivial, trivial⟩ ?_
    refine Ev.icmp_ge 25 73 tk_R_wishers rfl (by decide) (fun hc1 => ?_) (fun hc1 => ?_)
    · replace hx := ip hc1 hx
      refine Ev.blk (pc' := 74) (lv' := [some (vr 12 0 80), some (vi v1), some (vi v2), some (vi v3)]) (st' := [vi v2]) (h' := h) 43 1 (Nat.le_of_ble_eq_true rfl) tk_R_wishers rfl rfl ⟨trivial, trivial⟩ ?_
      obtain rfl := Option.some.inj hx
      obtain ⟨rfl, rfl⟩ := hP
      exact Ev.iret 44 tk_R_wishers rfl rfl
    · replace hx := ia hc1 hx
      refine Ev.blk (pc' := 52) (lv' := [some (vr 12 0 80), some (vi v1), some (vi v2), some (vi v3)]) (st' := [vi v1, vi v3, vr 20 227 97, vr 12 0 80, vi v2]) (h' := h) 26 6 (Nat.le_of_ble_eq_true rfl) tk_R_wishers rfl rfl ⟨trivial, trivial, trivial, trivial, trivial, trivial, trivial⟩ ?_
      obtain ⟨q1, hq2, hx⟩ := bd hx
      refine Ev.callV (ν := m_R_twitchOf) (av := [vr 20 227 97, vi v3, vi v1]) (rest := [vi v2]) (r1 := some (vi q1.1)) (h1 := q1.2) (ci := 12) (nn := 0) (o := 80) 32 3 tk_R_wishers rfl bb_R_twitchOf vv_R_twitchOf lk_12_382 (by decide) rfl rfl (Or.inl rfl) (Nat.le_of_ble_eq_true rfl) (s_R_twitchOf Γ 227 97 v3 v1 h _ hq2) ?_
      show Ev Γ m_R_wishers 55 [some (vr 12 0 80), some (vi v1), some (vi v2), some (vi v3)] [vi q1.1, vi v2] q1.2 r h'
      have K3 : ∀ v3_0 : Int32, v3_0 = (if q1.1 ≤ 0 then (ii 0) else (shlI (ii 1) v3)) → Ev Γ m_R_wishers 65 [some (vr 12 0 80), some (vi v1), none, some (vi v3)] [vi v3_0, vi v2] q1.2 r h' := by
        intro v3_0 e4
        subst e4
        refine Ev.blk (pc' := 36) (lv' := [some (vr 12 0 80), some (vi v1), some (vi (v2 ||| (if q1.1 ≤ 0 then (ii 0) else (shlI (ii 1) v3)))), some (vi (v3 + ii 1))]) (st' := []) (h' := q1.2) 39 4 (Nat.le_of_ble_eq_true rfl) tk_R_wishers rfl rfl ⟨trivial, trivial, trivial, trivial, trivial⟩ ?_
        exact Ev.msk [true, true, true, true] (ih v1 (v2 ||| (if q1.1 ≤ 0 then (ii 0) else (shlI (ii 1) v3))) (v3 + ii 1) q1.2 _ hx r h' hP)
      refine Ev.if_le 33 64 tk_R_wishers rfl (by decide) (fun hc5 => ?_) (fun hc5 => ?_)
      · refine Ev.blk (pc' := 65) (lv' := [some (vr 12 0 80), some (vi v1), some (vi v2), some (vi v3)]) (st' := [vi (ii 0), vi v2]) (h' := q1.2) 38 1 (Nat.le_of_ble_eq_true rfl) tk_R_wishers rfl rfl ⟨trivial, trivial⟩ ?_
        exact Ev.msk [true, true, false, true] (K3 _ (by first | rfl | simp only [if_pos hc5]))
      · refine Ev.blk (pc' := 65) (lv' := [some (vr 12 0 80), some (vi v1), some (vi v2), some (vi v3)]) (st' := [vi (shlI (ii 1) v3), vi v2]) (h' := q1.2) 34 4 (Nat.le_of_ble_eq_true rfl) tk_R_wishers rfl rfl ⟨trivial, trivial, trivial, trivial, trivial⟩ ?_
        exact Ev.msk [true, true, false, true] (K3 _ (by first | rfl | simp only [if_neg hc5]))
set_option maxRecDepth 4000 in
theorem s_R_wishers (Γ : AG) (a1 : Int32) (h : AH) (x : Int32 × AH) (hx : f_R_wishers a1 h = some x) : MetA Γ m_R_wishers [vr 12 0 80, vi a1] h (some (vi x.1)) x.2 := by
  refine Ev.met rfl rfl (Nat.le_of_ble_eq_true rfl) ?_
  show Ev Γ m_R_wishers 0 [some (vr 12 0 80), some (vi a1), none, none] [] h _ _
  obtain ⟨r, hr⟩ : ∃ r : Option AV, r = some (vi x.1) := ⟨_, rfl⟩
  obtain ⟨h', hh⟩ : ∃ h' : AH, h' = x.2 := ⟨_, rfl⟩
  have hP : r = some (vi x.1) ∧ h' = x.2 := ⟨hr, hh⟩
  suffices hS : Ev Γ m_R_wishers 0 [some (vr 12 0 80), some (vi a1), none, none] [] h r h' by rw [hr, hh] at hS; exact hS
  clear hr hh
  unfold f_R_wishers at hx
  refine Ev.blk (pc' := 7) (lv' := [some (vr 12 0 80), some (vi a1), none, none]) (st' := [vi a1, vr 12 0 80]) (h' := (wI h 80 0 (ii 0))) 0 5 (Nat.le_of_ble_eq_true rfl) tk_R_wishers rfl rfl ⟨trivial, trivial, trivial, trivial, trivial, trivial⟩ ?_
  refine Ev.callV (ν := m_R_isCell) (av := [vi a1]) (rest := []) (r1 := some (vi (p_R_isCell a1 (wI h 80 0 (ii 0))))) (h1 := (wI h 80 0 (ii 0))) (ci := 12) (nn := 0) (o := 80) 5 1 tk_R_wishers rfl bb_R_isCell vv_R_isCell lk_12_372 (by decide) rfl rfl (Or.inl rfl) (Nat.le_of_ble_eq_true rfl) (s_R_isCell Γ a1 (wI h 80 0 (ii 0))) ?_
  show Ev Γ m_R_wishers 10 [some (vr 12 0 80), some (vi a1), none, none] [vi (p_R_isCell a1 (wI h 80 0 (ii 0)))] (wI h 80 0 (ii 0)) r h'
  refine Ev.if_eq 6 30 tk_R_wishers rfl (by decide) (fun hc1 => ?_) (fun hc1 => ?_)
  · replace hx := ip hc1 hx
    refine Ev.blk (pc' := 31) (lv' := [some (vr 12 0 80), some (vi a1), none, none]) (st' := [vi (ii (-1))]) (h' := (wI h 80 0 (ii 0))) 16 1 (Nat.le_of_ble_eq_true rfl) tk_R_wishers rfl rfl ⟨trivial, trivial⟩ ?_
    obtain rfl := Option.some.inj hx
    obtain ⟨rfl, rfl⟩ := hP
    exact Ev.iret 17 tk_R_wishers rfl rfl
  · replace hx := ia hc1 hx
    refine Ev.blk (pc' := 15) (lv' := [some (vr 12 0 80), some (vi a1), none, none]) (st' := [vi a1, vr 12 0 80]) (h' := (wI h 80 0 (ii 0))) 7 2 (Nat.le_of_ble_eq_true rfl) tk_R_wishers rfl rfl ⟨trivial, trivial, trivial⟩ ?_
    obtain ⟨q1, hq2, hx⟩ := bd hx
    refine Ev.callV (ν := m_R_hasWater) (av := [vi a1]) (rest := []) (r1 := some (vi q1)) (h1 := (wI h 80 0 (ii 0))) (ci := 12) (nn := 0) (o := 80) 9 1 tk_R_wishers rfl bb_R_hasWater vv_R_hasWater lk_12_474 (by decide) rfl rfl (Or.inl rfl) (Nat.le_of_ble_eq_true rfl) (s_R_hasWater Γ a1 (wI h 80 0 (ii 0)) _ hq2) ?_
    show Ev Γ m_R_wishers 18 [some (vr 12 0 80), some (vi a1), none, none] [vi q1] (wI h 80 0 (ii 0)) r h'
    refine Ev.if_ne 10 30 tk_R_wishers rfl (by decide) (fun hc3 => ?_) (fun hc3 => ?_)
    · replace hx := ia hc3 hx
      refine Ev.blk (pc' := 31) (lv' := [some (vr 12 0 80), some (vi a1), none, none]) (st' := [vi (ii (-1))]) (h' := (wI h 80 0 (ii 0))) 16 1 (Nat.le_of_ble_eq_true rfl) tk_R_wishers rfl rfl ⟨trivial, trivial⟩ ?_
      obtain rfl := Option.some.inj hx
      obtain ⟨rfl, rfl⟩ := hP
      exact Ev.iret 17 tk_R_wishers rfl rfl
    · replace hx := ip hc3 hx
      refine Ev.blk (pc' := 23) (lv' := [some (vr 12 0 80), some (vi a1), none, none]) (st' := [vi a1, vr 12 0 80]) (h' := (wI h 80 0 (ii 0))) 11 2 (Nat.le_of_ble_eq_true rfl) tk_R_wishers rfl rfl ⟨trivial, trivial, trivial⟩ ?_
      obtain ⟨q2, hq4, hx⟩ := bd hx
      refine Ev.callV (ν := m_R_ironAt) (av := [vi a1]) (rest := []) (r1 := some (vi q2)) (h1 := (wI h 80 0 (ii 0))) (ci := 12) (nn := 0) (o := 80) 13 1 tk_R_wishers rfl bb_R_ironAt vv_R_ironAt lk_12_365 (by decide) rfl rfl (Or.inl rfl) (Nat.le_of_ble_eq_true rfl) (s_R_ironAt Γ a1 (wI h 80 0 (ii 0)) _ hq4) ?_
      show Ev Γ m_R_wishers 26 [some (vr 12 0 80), some (vi a1), none, none] [vi q2] (wI h 80 0 (ii 0)) r h'
      refine Ev.blk (pc' := 27) (lv' := [some (vr 12 0 80), some (vi a1), none, none]) (st' := [vi (ii (-1)), vi q2]) (h' := (wI h 80 0 (ii 0))) 14 1 (Nat.le_of_ble_eq_true rfl) tk_R_wishers rfl rfl ⟨trivial, trivial⟩ ?_
      refine Ev.icmp_eq 15 32 tk_R_wishers rfl (by decide) (fun hc5 => ?_) (fun hc5 => ?_)
      · replace hx := ip hc5 hx
        refine Ev.blk (pc' := 36) (lv' := [some (vr 12 0 80), some (vi a1), some (vi (ii 0)), some (vi (ii 0))]) (st' := []) (h' := (wI h 80 0 (ii 0))) 18 4 (Nat.le_of_ble_eq_true rfl) tk_R_wishers rfl rfl ⟨trivial, trivial, trivial, trivial, trivial⟩ ?_
        refine Ev.msk [true, true, true, true] ?_
        show Ev Γ m_R_wishers 36 [some (vr 12 0 80), some (vi a1), some (vi (ii 0)), some (vi (ii 0))] [] (wI h 80 0 (ii 0)) r h'
        exact l_R_wishers_L36 Γ FU a1 (ii 0) (ii 0) (wI h 80 0 (ii 0)) _ hx r h' hP
      · replace hx := ia hc5 hx
        refine Ev.blk (pc' := 31) (lv' := [some (vr 12 0 80), some (vi a1), none, none]) (st' := [vi (ii (-1))]) (h' := (wI h 80 0 (ii 0))) 16 1 (Nat.le_of_ble_eq_true rfl) tk_R_wishers rfl rfl ⟨trivial, trivial⟩ ?_
        obtain rfl := Option.some.inj hx
        obtain ⟨rfl, rfl⟩ := hP
        exact Ev.iret 17 tk_R_wishers rfl rfl
set_option maxRecDepth 4000 in
theorem l_R_rightOf_L4 (Γ : AG) : ∀ (n : Nat) (v1 : Int32) (v2 : Int32) (v3 : Int32) (h : AH) (x : Int32), R_rightOf_L4 n v1 v2 v3 h = some x → ∀ (r : Option AV) (h' : AH), r = some (vi x) ∧ h' = h → Ev Γ m_R_rightOf 4 [some (vr 12 0 80), some (vi v1), some (vi v2), some (vi v3), none, none] [] h r h' := by
  intro n
  induction n with
  | zero => intro v1 v2 v3 h x hx; cases hx
  | succ n ih =>
    intro v1 v2 v3 h x hx r h' hP
    replace hx : R_rightOf_L4_b (R_rightOf_L4 n) v1 v2 v3 h = some x := hx
    unfold R_rightOf_L4_b at hx
    obtain ⟨hg1, hx⟩ := gd hx
    refine Ev.blk (pc' := 12) (lv' := [some (vr 12 0 80), some (vi v1), some (vi v2), some (vi v3), none, none]) (st' := [vi (h.1 97 (ii 46).toNatClampNeg), vi v3]) (h' := h) 4 5 (Nat.le_of_ble_eq_true rfl) tk_R_rightOf rfl rfl ⟨trivial, trivial, trivial, trivial, hg1, trivial⟩ ?_
    refine Ev.icmp_ge 9 102 tk_R_rightOf rfl (by decide) (fun hc2 => ?_) (fun hc2 => ?_)
    · replace hx := ip hc2 hx
      refine Ev.blk (pc' := 103) (lv' := [some (vr 12 0 80), some (vi v1), some (vi v2), some (vi v3), none, none]) (st' := [vi v2]) (h' := h) 60 1 (Nat.le_of_ble_eq_true rfl) tk_R_rightOf rfl rfl ⟨trivial, trivial⟩ ?_
      obtain rfl := Option.some.inj hx
      obtain ⟨rfl, rfl⟩ := hP
      exact Ev.iret 61 tk_R_rightOf rfl rfl
    · replace hx := ia hc2 hx
      obtain ⟨hg3, hx⟩ := gd hx
      refine Ev.blk (pc' := 31) (lv' := [some (vr 12 0 80), some (vi v1), some (vi v2), some (vi v3), some (vi ((ii 47) + ((ii 3) * v3))), none]) (st' := [vi v1, vi (h.1 97 ((ii 47) + ((ii 3) * v3)).toNatClampNeg)]) (h' := h) 10 11 (Nat.le_of_ble_eq_true rfl) tk_R_rightOf rfl rfl ⟨trivial, trivial, trivial, trivial, trivial, trivial, trivial, trivial, trivial, hg3, trivial, trivial⟩ ?_
      obtain ⟨q4, hq4, hx⟩ := bd hx
      have K5 : Ev Γ m_R_rightOf 96 [some (vr 12 0 80), some (vi v1), some (vi q4), some (vi v3), none, none] [] h r h' := by
        refine Ev.blk (pc' := 4) (lv' := [some (vr 12 0 80), some (vi v1), some (vi q4), some (vi (v3 + ii 1)), none, none]) (st' := []) (h' := h) 58 2 (Nat.le_of_ble_eq_true rfl) tk_R_rightOf rfl rfl ⟨trivial, trivial, trivial⟩ ?_
        exact Ev.msk [true, true, true, true, false, false] (ih v1 q4 (v3 + ii 1) h _ hx r h' hP)
      clear hx
      refine Ev.icmp_ne 21 96 tk_R_rightOf rfl (by decide) (fun hc6 => ?_) (fun hc6 => ?_)
      · replace hq4 := ia hc6 hq4
        obtain rfl := Option.some.inj hq4
        exact Ev.msk [true, true, true, true, false, false] K5
      · replace hq4 := ip hc6 hq4
        obtain ⟨hg7, hq4⟩ := gd hq4
        refine Ev.blk (pc' := 43) (lv' := [some (vr 12 0 80), some (vi v1), some (vi v2), some (vi v3), some (vi ((ii 47) + ((ii 3) * v3))), none]) (st' := [vi (h.1 97 (((ii 47) + ((ii 3) * v3)) + (ii 2)).toNatClampNeg)]) (h' := h) 22 6 (Nat.le_of_ble_eq_true rfl) tk_R_rightOf rfl rfl ⟨trivial, trivial, trivial, trivial, trivial, hg7, trivial⟩ ?_
        refine Ev.if_ne 28 49 tk_R_rightOf rfl (by decide) (fun hc8 => ?_) (fun hc8 => ?_)
        · replace hq4 := ia hc8 hq4
          obtain ⟨hg9, hq4⟩ := gd hq4
          obtain ⟨hg10, hq4⟩ := gd hq4
          refine Ev.blk (pc' := 66) (lv' := [some (vr 12 0 80), some (vi v1), some (vi v2), some (vi v3), some (vi ((ii 47) + ((ii 3) * v3))), none]) (st' := [vi (h.1 97 (ii 45).toNatClampNeg), vi (h.1 97 (((ii 47) + ((ii 3) * v3)) + (ii 1)).toNatClampNeg), vr 12 0 80]) (h' := h) 30 11 (Nat.le_of_ble_eq_true rfl) tk_R_rightOf rfl rfl ⟨trivial, trivial, trivial, trivial, trivial, trivial, hg9, trivial, trivial, trivial, hg10, trivial⟩ ?_
          obtain ⟨q1, hq11, hq4⟩ := bd hq4
          refine Ev.callV (ν := m_R_depthOf) (av := [vi (h.1 97 (((ii 47) + ((ii 3) * v3)) + (ii 1)).toNatClampNeg), vi (h.1 97 (ii 45).toNatClampNeg)]) (rest := []) (r1 := some (vi q1)) (h1 := h) (ci := 12) (nn := 0) (o := 80) 41 2 tk_R_rightOf rfl bb_R_depthOf vv_R_depthOf lk_12_362 (by decide) rfl rfl (Or.inl rfl) (Nat.le_of_ble_eq_true rfl) (s_R_depthOf Γ (h.1 97 (((ii 47) + ((ii 3) * v3)) + (ii 1)).toNatClampNeg) (h.1 97 (ii 45).toNatClampNeg) h _ hq11) ?_
          show Ev Γ m_R_rightOf 69 [some (vr 12 0 80), some (vi v1), some (vi v2), some (vi v3), some (vi ((ii 47) + ((ii 3) * v3))), none] [vi q1] h r h'
          refine Ev.blk (pc' := 75) (lv' := [some (vr 12 0 80), some (vi v1), some (vi v2), some (vi v3), some (vi ((ii 47) + ((ii 3) * v3))), some (vi q1)]) (st' := [vi (ii (-1)), vi q1, vi v2]) (h' := h) 42 4 (Nat.le_of_ble_eq_true rfl) tk_R_rightOf rfl rfl ⟨trivial, trivial, trivial, trivial, trivial⟩ ?_
          obtain ⟨q3, hq12, hq4⟩ := bd hq4
          have K13 : Ev Γ m_R_rightOf 94 [some (vr 12 0 80), some (vi v1), none, some (vi v3), none, none] [vi q3, vi v2] h r h' := by
            refine Ev.blk (pc' := 96) (lv' := [some (vr 12 0 80), some (vi v1), some (vi (v2 + q3)), some (vi v3), none, none]) (st' := []) (h' := h) 56 2 (Nat.le_of_ble_eq_true rfl) tk_R_rightOf rfl rfl ⟨trivial, trivial, trivial⟩ ?_
            obtain rfl := Option.some.inj hq4
            exact Ev.msk [true, true, true, true, false, false] K5
          clear hq4
          refine Ev.icmp_eq 46 93 tk_R_rightOf rfl (by decide) (fun hc14 => ?_) (fun hc14 => ?_)
          · replace hq12 := ip hc14 hq12
            refine Ev.blk (pc' := 94) (lv' := [some (vr 12 0 80), some (vi v1), some (vi v2), some (vi v3), some (vi ((ii 47) + ((ii 3) * v3))), some (vi q1)]) (st' := [vi (ii (-1)), vi v2]) (h' := h) 55 1 (Nat.le_of_ble_eq_true rfl) tk_R_rightOf rfl rfl ⟨trivial, trivial⟩ ?_
            obtain rfl := Option.some.inj hq12
            exact Ev.msk [true, true, false, true, false, false] K13
          · replace hq12 := ia hc14 hq12
            refine Ev.blk (pc' := 83) (lv' := [some (vr 12 0 80), some (vi v1), some (vi v2), some (vi v3), some (vi ((ii 47) + ((ii 3) * v3))), some (vi q1)]) (st' := [vi (ii 1), vi v1, vr 12 0 80, vi q1, vi v2]) (h' := h) 47 4 (Nat.le_of_ble_eq_true rfl) tk_R_rightOf rfl rfl ⟨trivial, trivial, trivial, trivial, trivial⟩ ?_
            obtain ⟨q2, hq15, hq12⟩ := bd hq12
            refine Ev.callV (ν := m_R_told) (av := [vi v1, vi (ii 1)]) (rest := [vi q1, vi v2]) (r1 := some (vi q2)) (h1 := h) (ci := 12) (nn := 0) (o := 80) 51 2 tk_R_rightOf rfl bb_R_told vv_R_told lk_12_338 (by decide) rfl rfl (Or.inl rfl) (Nat.le_of_ble_eq_true rfl) (s_R_told Γ v1 (ii 1) h _ hq15) ?_
            show Ev Γ m_R_rightOf 86 [some (vr 12 0 80), some (vi v1), some (vi v2), some (vi v3), some (vi ((ii 47) + ((ii 3) * v3))), some (vi q1)] [vi q2, vi q1, vi v2] h r h'
            refine Ev.icmp_gt 52 93 tk_R_rightOf rfl (by decide) (fun hc16 => ?_) (fun hc16 => ?_)
            · replace hq12 := ip hc16 hq12
              refine Ev.blk (pc' := 94) (lv' := [some (vr 12 0 80), some (vi v1), some (vi v2), some (vi v3), some (vi ((ii 47) + ((ii 3) * v3))), some (vi q1)]) (st' := [vi (ii (-1)), vi v2]) (h' := h) 55 1 (Nat.le_of_ble_eq_true rfl) tk_R_rightOf rfl rfl ⟨trivial, trivial⟩ ?_
              obtain rfl := Option.some.inj hq12
              exact Ev.msk [true, true, false, true, false, false] K13
            · replace hq12 := ia hc16 hq12
              refine Ev.blk (pc' := 94) (lv' := [some (vr 12 0 80), some (vi v1), some (vi v2), some (vi v3), some (vi ((ii 47) + ((ii 3) * v3))), some (vi q1)]) (st' := [vi (ii 1), vi v2]) (h' := h) 53 2 (Nat.le_of_ble_eq_true rfl) tk_R_rightOf rfl rfl ⟨trivial, trivial, trivial⟩ ?_
              obtain rfl := Option.some.inj hq12
              exact Ev.msk [true, true, false, true, false, false] K13
        · replace hq4 := ip hc8 hq4
          refine Ev.blk (pc' := 96) (lv' := [some (vr 12 0 80), some (vi v1), some (vi v2), some (vi v3), some (vi ((ii 47) + ((ii 3) * v3))), none]) (st' := []) (h' := h) 29 1 (Nat.le_of_ble_eq_true rfl) tk_R_rightOf rfl rfl ⟨trivial, trivial⟩ ?_
          obtain rfl := Option.some.inj hq4
          exact Ev.msk [true, true, true, true, false, false] K5
set_option maxRecDepth 4000 in
theorem s_R_rightOf (Γ : AG) (a1 : Int32) (h : AH) (x : Int32) (hx : f_R_rightOf a1 h = some x) : MetA Γ m_R_rightOf [vr 12 0 80, vi a1] h (some (vi x)) h := by
  refine Ev.met rfl rfl (Nat.le_of_ble_eq_true rfl) ?_
  show Ev Γ m_R_rightOf 0 [some (vr 12 0 80), some (vi a1), none, none, none, none] [] h _ _
  obtain ⟨r, hr⟩ : ∃ r : Option AV, r = some (vi x) := ⟨_, rfl⟩
  obtain ⟨h', hh⟩ : ∃ h' : AH, h' = h := ⟨_, rfl⟩
  have hP : r = some (vi x) ∧ h' = h := ⟨hr, hh⟩
  suffices hS : Ev Γ m_R_rightOf 0 [some (vr 12 0 80), some (vi a1), none, none, none, none] [] h r h' by rw [hr, hh] at hS; exact hS
  clear hr hh
  unfold f_R_rightOf at hx
  refine Ev.blk (pc' := 4) (lv' := [some (vr 12 0 80), some (vi a1), some (vi (ii 0)), some (vi (ii 0)), none, none]) (st' := []) (h' := h) 0 4 (Nat.le_of_ble_eq_true rfl) tk_R_rightOf rfl rfl ⟨trivial, trivial, trivial, trivial, trivial⟩ ?_
  refine Ev.msk [true, true, true, true, false, false] ?_
  show Ev Γ m_R_rightOf 4 [some (vr 12 0 80), some (vi a1), some (vi (ii 0)), some (vi (ii 0)), none, none] [] h r h'
  exact l_R_rightOf_L4 Γ FU a1 (ii 0) (ii 0) h _ hx r h' hP
set_option maxRecDepth 4000 in
theorem s_R_right (Γ : AG) (a1 : Int32) (h : AH) (x : Int32 × AH) (hx : f_R_right a1 h = some x) : MetA Γ m_R_right [vr 12 0 80, vi a1] h (some (vi x.1)) x.2 := by
  refine Ev.met rfl rfl (Nat.le_of_ble_eq_true rfl) ?_
  show Ev Γ m_R_right 0 [some (vr 12 0 80), some (vi a1)] [] h _ _
  obtain ⟨r, hr⟩ : ∃ r : Option AV, r = some (vi x.1) := ⟨_, rfl⟩
  obtain ⟨h', hh⟩ : ∃ h' : AH, h' = x.2 := ⟨_, rfl⟩
  have hP : r = some (vi x.1) ∧ h' = x.2 := ⟨hr, hh⟩
  suffices hS : Ev Γ m_R_right 0 [some (vr 12 0 80), some (vi a1)] [] h r h' by rw [hr, hh] at hS; exact hS
  clear hr hh
  unfold f_R_right at hx
  refine Ev.blk (pc' := 7) (lv' := [some (vr 12 0 80), some (vi a1)]) (st' := [vi a1, vr 12 0 80]) (h' := (wI h 80 0 (ii 0))) 0 5 (Nat.le_of_ble_eq_true rfl) tk_R_right rfl rfl ⟨trivial, trivial, trivial, trivial, trivial, trivial⟩ ?_
  refine Ev.callV (ν := m_R_isFork) (av := [vi a1]) (rest := []) (r1 := some (vi (p_R_isFork a1 (wI h 80 0 (ii 0))))) (h1 := (wI h 80 0 (ii 0))) (ci := 12) (nn := 0) (o := 80) 5 1 tk_R_right rfl bb_R_isFork vv_R_isFork lk_12_377 (by decide) rfl rfl (Or.inl rfl) (Nat.le_of_ble_eq_true rfl) (s_R_isFork Γ a1 (wI h 80 0 (ii 0))) ?_
  show Ev Γ m_R_right 10 [some (vr 12 0 80), some (vi a1)] [vi (p_R_isFork a1 (wI h 80 0 (ii 0)))] (wI h 80 0 (ii 0)) r h'
  refine Ev.if_eq 6 21 tk_R_right rfl (by decide) (fun hc1 => ?_) (fun hc1 => ?_)
  · replace hx := ip hc1 hx
    refine Ev.blk (pc' := 24) (lv' := [some (vr 12 0 80), some (vi a1)]) (st' := [vi (ii (-1000000))]) (h' := (wI h 80 0 (ii 0))) 11 1 (Nat.le_of_ble_eq_true rfl) tk_R_right rfl rfl ⟨trivial, trivial⟩ ?_
    obtain rfl := Option.some.inj hx
    obtain ⟨rfl, rfl⟩ := hP
    exact Ev.iret 12 tk_R_right rfl rfl
  · replace hx := ia hc1 hx
    refine Ev.blk (pc' := 15) (lv' := [some (vr 12 0 80), some (vi a1)]) (st' := [vi a1, vr 12 0 80]) (h' := (wI h 80 0 (ii 0))) 7 2 (Nat.le_of_ble_eq_true rfl) tk_R_right rfl rfl ⟨trivial, trivial, trivial⟩ ?_
    obtain ⟨q1, hq2, hx⟩ := bd hx
    refine Ev.callV (ν := m_R_rightOf) (av := [vi a1]) (rest := []) (r1 := some (vi q1)) (h1 := (wI h 80 0 (ii 0))) (ci := 12) (nn := 0) (o := 80) 9 1 tk_R_right rfl bb_R_rightOf vv_R_rightOf lk_12_477 (by decide) rfl rfl (Or.inl rfl) (Nat.le_of_ble_eq_true rfl) (s_R_rightOf Γ a1 (wI h 80 0 (ii 0)) _ hq2) ?_
    show Ev Γ m_R_right 18 [some (vr 12 0 80), some (vi a1)] [vi q1] (wI h 80 0 (ii 0)) r h'
    refine Ev.blk (pc' := 24) (lv' := [some (vr 12 0 80), some (vi a1)]) (st' := [vi q1]) (h' := (wI h 80 0 (ii 0))) 10 1 (Nat.le_of_ble_eq_true rfl) tk_R_right rfl rfl ⟨trivial, trivial⟩ ?_
    obtain rfl := Option.some.inj hx
    obtain ⟨rfl, rfl⟩ := hP
    exact Ev.iret 12 tk_R_right rfl rfl
set_option maxRecDepth 4000 in
theorem l_R_best_L18 (Γ : AG) : ∀ (n : Nat) (v1 : Int32) (v2 : Int32) (h : AH) (x : Int32 × AH), R_best_L18 n v1 v2 h = some x → ∀ (r : Option AV) (h' : AH), r = some (vi x.1) ∧ h' = x.2 → Ev Γ m_R_best 18 [some (vr 12 0 80), some (vi v1), some (vi v2)] [] h r h' := by
  intro n
  induction n with
  | zero => intro v1 v2 h x hx; cases hx
  | succ n ih =>
    intro v1 v2 h x hx r h' hP
    replace hx : R_best_L18_b (R_best_L18 n) v1 v2 h = some x := hx
    unfold R_best_L18_b at hx
    refine Ev.blk (pc' := 23) (lv' := [some (vr 12 0 80), some (vi v1), some (vi v2)]) (st' := [vi (h.1 80 33), vi v2]) (h' := h) 12 3 (Nat.le_of_ble_eq_true rfl) tk_R_best rfl rfl ⟨trivial, trivial, trivial, trivial⟩ ?_
    refine Ev.icmp_ge 15 51 tk_R_best rfl (by decide) (fun hc1 => ?_) (fun hc1 => ?_)
    · replace hx := ip hc1 hx
      refine Ev.blk (pc' := 52) (lv' := [some (vr 12 0 80), some (vi v1), some (vi v2)]) (st' := [vi v1]) (h' := h) 29 1 (Nat.le_of_ble_eq_true rfl) tk_R_best rfl rfl ⟨trivial, trivial⟩ ?_
      obtain rfl := Option.some.inj hx
      obtain ⟨rfl, rfl⟩ := hP
      exact Ev.iret 30 tk_R_best rfl rfl
    · replace hx := ia hc1 hx
      refine Ev.blk (pc' := 28) (lv' := [some (vr 12 0 80), some (vi v1), some (vi v2)]) (st' := [vi v2, vr 12 0 80]) (h' := h) 16 2 (Nat.le_of_ble_eq_true rfl) tk_R_best rfl rfl ⟨trivial, trivial, trivial⟩ ?_
      obtain ⟨q1, hq2, hx⟩ := bd hx
      refine Ev.callV (ν := m_R_rightOf) (av := [vi v2]) (rest := []) (r1 := some (vi q1)) (h1 := h) (ci := 12) (nn := 0) (o := 80) 18 1 tk_R_best rfl bb_R_rightOf vv_R_rightOf lk_12_477 (by decide) rfl rfl (Or.inl rfl) (Nat.le_of_ble_eq_true rfl) (s_R_rightOf Γ v2 h _ hq2) ?_
      show Ev Γ m_R_best 31 [some (vr 12 0 80), some (vi v1), some (vi v2)] [vi q1] h r h'
      refine Ev.blk (pc' := 33) (lv' := [some (vr 12 0 80), some (vi v1), some (vi v2)]) (st' := [vi v1, vr 12 0 80, vi q1]) (h' := h) 19 2 (Nat.le_of_ble_eq_true rfl) tk_R_best rfl rfl ⟨trivial, trivial, trivial⟩ ?_
      obtain ⟨q2, hq3, hx⟩ := bd hx
      refine Ev.callV (ν := m_R_rightOf) (av := [vi v1]) (rest := [vi q1]) (r1 := some (vi q2)) (h1 := h) (ci := 12) (nn := 0) (o := 80) 21 1 tk_R_best rfl bb_R_rightOf vv_R_rightOf lk_12_477 (by decide) rfl rfl (Or.inl rfl) (Nat.le_of_ble_eq_true rfl) (s_R_rightOf Γ v1 h _ hq3) ?_
      show Ev Γ m_R_best 36 [some (vr 12 0 80), some (vi v1), some (vi v2)] [vi q2, vi q1] h r h'
      have K4 : ∀ v4_0 : Int32, v4_0 = (if q1 ≤ q2 then v1 else v2) → Ev Γ m_R_best 44 [some (vr 12 0 80), none, some (vi v2)] [vi v4_0] h r h' := by
        intro v4_0 e5
        subst e5
        refine Ev.blk (pc' := 18) (lv' := [some (vr 12 0 80), some (vi (if q1 ≤ q2 then v1 else v2)), some (vi (v2 + ii 1))]) (st' := []) (h' := h) 26 3 (Nat.le_of_ble_eq_true rfl) tk_R_best rfl rfl ⟨trivial, trivial, trivial, trivial⟩ ?_
        exact Ev.msk [true, true, true] (ih (if q1 ≤ q2 then v1 else v2) (v2 + ii 1) h _ hx r h' hP)
      refine Ev.icmp_le 22 43 tk_R_best rfl (by decide) (fun hc6 => ?_) (fun hc6 => ?_)
      · refine Ev.blk (pc' := 44) (lv' := [some (vr 12 0 80), some (vi v1), some (vi v2)]) (st' := [vi v1]) (h' := h) 25 1 (Nat.le_of_ble_eq_true rfl) tk_R_best rfl rfl ⟨trivial, trivial⟩ ?_
        exact Ev.msk [true, false, true] (K4 _ (by first | rfl | simp only [if_pos hc6]))
      · refine Ev.blk (pc' := 44) (lv' := [some (vr 12 0 80), some (vi v1), some (vi v2)]) (st' := [vi v2]) (h' := h) 23 2 (Nat.le_of_ble_eq_true rfl) tk_R_best rfl rfl ⟨trivial, trivial, trivial⟩ ?_
        exact Ev.msk [true, false, true] (K4 _ (by first | rfl | simp only [if_neg hc6]))
set_option maxRecDepth 4000 in
theorem s_R_best (Γ : AG) (h : AH) (x : Int32 × AH) (hx : f_R_best  h = some x) : MetA Γ m_R_best [vr 12 0 80] h (some (vi x.1)) x.2 := by
  refine Ev.met rfl rfl (Nat.le_of_ble_eq_true rfl) ?_
  show Ev Γ m_R_best 0 [some (vr 12 0 80), none, none] [] h _ _
  obtain ⟨r, hr⟩ : ∃ r : Option AV, r = some (vi x.1) := ⟨_, rfl⟩
  obtain ⟨h', hh⟩ : ∃ h' : AH, h' = x.2 := ⟨_, rfl⟩
  have hP : r = some (vi x.1) ∧ h' = x.2 := ⟨hr, hh⟩
  suffices hS : Ev Γ m_R_best 0 [some (vr 12 0 80), none, none] [] h r h' by rw [hr, hh] at hS; exact hS
  clear hr hh
  unfold f_R_best at hx
  refine Ev.blk (pc' := 9) (lv' := [some (vr 12 0 80), none, none]) (st' := [vi ((wI h 80 0 (ii 0)).1 80 34)]) (h' := (wI h 80 0 (ii 0))) 0 5 (Nat.le_of_ble_eq_true rfl) tk_R_best rfl rfl ⟨trivial, trivial, trivial, trivial, trivial, trivial⟩ ?_
  refine Ev.if_ne 5 14 tk_R_best rfl (by decide) (fun hc1 => ?_) (fun hc1 => ?_)
  · replace hx := ia hc1 hx
    refine Ev.blk (pc' := 18) (lv' := [some (vr 12 0 80), some (vi (ii 0)), some (vi (ii 1))]) (st' := []) (h' := (wI h 80 0 (ii 0))) 8 4 (Nat.le_of_ble_eq_true rfl) tk_R_best rfl rfl ⟨trivial, trivial, trivial, trivial, trivial⟩ ?_
    refine Ev.msk [true, true, true] ?_
    show Ev Γ m_R_best 18 [some (vr 12 0 80), some (vi (ii 0)), some (vi (ii 1))] [] (wI h 80 0 (ii 0)) r h'
    exact l_R_best_L18 Γ FU (ii 0) (ii 1) (wI h 80 0 (ii 0)) _ hx r h' hP
  · replace hx := ip hc1 hx
    refine Ev.blk (pc' := 13) (lv' := [some (vr 12 0 80), none, none]) (st' := [vi (ii (-1))]) (h' := (wI h 80 0 (ii 0))) 6 1 (Nat.le_of_ble_eq_true rfl) tk_R_best rfl rfl ⟨trivial, trivial⟩ ?_
    obtain rfl := Option.some.inj hx
    obtain ⟨rfl, rfl⟩ := hP
    exact Ev.iret 7 tk_R_best rfl rfl
set_option maxRecDepth 4000 in
theorem l_R_nearest_L29 (Γ : AG) : ∀ (n : Nat) (v2 : Int32) (v3 : Int32) (v4 : Int32) (h : AH) (x : Int32 × AH), R_nearest_L29 n v2 v3 v4 h = some x → ∀ (r : Option AV) (h' : AH), r = some (vi x.1) ∧ h' = x.2 → Ev Γ m_R_nearest 29 [some (vr 12 0 80), none, some (vi v2), some (vi v3), some (vi v4), none] [] h r h' := by
  intro n
  induction n with
  | zero => intro v2 v3 v4 h x hx; cases hx
  | succ n ih =>
    intro v2 v3 v4 h x hx r h' hP
    replace hx : R_nearest_L29_b (R_nearest_L29 n) v2 v3 v4 h = some x := hx
    unfold R_nearest_L29_b at hx
    refine Ev.blk (pc' := 35) (lv' := [some (vr 12 0 80), none, some (vi v2), some (vi v3), some (vi v4), none]) (st' := [vi (h.1 80 34), vi v4]) (h' := h) 20 3 (Nat.le_of_ble_eq_true rfl) tk_R_nearest rfl rfl ⟨trivial, trivial, trivial, trivial⟩ ?_
    refine Ev.icmp_ge 23 118 tk_R_nearest rfl (by decide) (fun hc1 => ?_) (fun hc1 => ?_)
    · replace hx := ip hc1 hx
      refine Ev.blk (pc' := 119) (lv' := [some (vr 12 0 80), none, some (vi v2), some (vi v3), some (vi v4), none]) (st' := [vi v3]) (h' := h) 70 1 (Nat.le_of_ble_eq_true rfl) tk_R_nearest rfl rfl ⟨trivial, trivial⟩ ?_
      obtain rfl := Option.some.inj hx
      obtain ⟨rfl, rfl⟩ := hP
      exact Ev.iret 71 tk_R_nearest rfl rfl
    · replace hx := ia hc1 hx
      refine Ev.blk (pc' := 41) (lv' := [some (vr 12 0 80), none, some (vi v2), some (vi v3), some (vi v4), none]) (st' := [vi v4, vr 12 0 80]) (h' := h) 24 2 (Nat.le_of_ble_eq_true rfl) tk_R_nearest rfl rfl ⟨trivial, trivial, trivial⟩ ?_
      obtain ⟨q1, hq2, hx⟩ := bd hx
      refine Ev.callV (ν := m_R_hasWater) (av := [vi v4]) (rest := []) (r1 := some (vi q1)) (h1 := h) (ci := 12) (nn := 0) (o := 80) 26 1 tk_R_nearest rfl bb_R_hasWater vv_R_hasWater lk_12_474 (by decide) rfl rfl (Or.inl rfl) (Nat.le_of_ble_eq_true rfl) (s_R_hasWater Γ v4 h _ hq2) ?_
      show Ev Γ m_R_nearest 44 [some (vr 12 0 80), none, some (vi v2), some (vi v3), some (vi v4), none] [vi q1] h r h'
      obtain ⟨q2, hq3, hx⟩ := bd hx
      have K4 : Ev Γ m_R_nearest 112 [some (vr 12 0 80), none, some (vi v2), some (vi q2), some (vi v4), none] [] h r h' := by
        refine Ev.blk (pc' := 29) (lv' := [some (vr 12 0 80), none, some (vi v2), some (vi q2), some (vi (v4 + ii 1)), none]) (st' := []) (h' := h) 68 2 (Nat.le_of_ble_eq_true rfl) tk_R_nearest rfl rfl ⟨trivial, trivial, trivial⟩ ?_
        exact Ev.msk [true, false, true, true, true, false] (ih v2 q2 (v4 + ii 1) h _ hx r h' hP)
      clear hx
      refine Ev.if_ne 27 50 tk_R_nearest rfl (by decide) (fun hc5 => ?_) (fun hc5 => ?_)
      · replace hq3 := ia hc5 hq3
        obtain ⟨hg6, hq3⟩ := gd hq3
        obtain ⟨hg7, hq3⟩ := gd hq3
        obtain ⟨hg8, hq3⟩ := gd hq3
        obtain ⟨hg9, hq3⟩ := gd hq3
        refine Ev.blk (pc' := 68) (lv' := [some (vr 12 0 80), none, some (vi v2), some (vi v3), some (vi v4), none]) (st' := [vi ((remI v4 (h.1 85 (ii 0).toNatClampNeg)) - (remI v2 (h.1 85 (ii 0).toNatClampNeg)))]) (h' := h) 29 13 (Nat.le_of_ble_eq_true rfl) tk_R_nearest rfl rfl ⟨trivial, trivial, trivial, trivial, hg6, hg7, trivial, trivial, trivial, trivial, hg8, hg9, trivial, trivial⟩ ?_
        refine Ev.mabs (rest := []) 42 tk_R_nearest rfl lk_12_468 (by decide) (Nat.le_of_ble_eq_true rfl) ?_
        show Ev Γ m_R_nearest 71 [some (vr 12 0 80), none, some (vi v2), some (vi v3), some (vi v4), none] [vi (p_Math_abs ((remI v4 (h.1 85 (ii 0).toNatClampNeg)) - (remI v2 (h.1 85 (ii 0).toNatClampNeg))))] h r h'
        obtain ⟨hg10, hq3⟩ := gd hq3
        obtain ⟨hg11, hq3⟩ := gd hq3
        obtain ⟨hg12, hq3⟩ := gd hq3
        obtain ⟨hg13, hq3⟩ := gd hq3
        refine Ev.blk (pc' := 89) (lv' := [some (vr 12 0 80), none, some (vi v2), some (vi v3), some (vi v4), none]) (st' := [vi ((v4 / (h.1 85 (ii 0).toNatClampNeg)) - (v2 / (h.1 85 (ii 0).toNatClampNeg))), vi (p_Math_abs ((remI v4 (h.1 85 (ii 0).toNatClampNeg)) - (remI v2 (h.1 85 (ii 0).toNatClampNeg))))]) (h' := h) 43 13 (Nat.le_of_ble_eq_true rfl) tk_R_nearest rfl rfl ⟨trivial, trivial, trivial, trivial, hg10, hg11, trivial, trivial, trivial, trivial, hg12, hg13, trivial, trivial⟩ ?_
        refine Ev.mabs (rest := [vi (p_Math_abs ((remI v4 (h.1 85 (ii 0).toNatClampNeg)) - (remI v2 (h.1 85 (ii 0).toNatClampNeg))))]) 56 tk_R_nearest rfl lk_12_468 (by decide) (Nat.le_of_ble_eq_true rfl) ?_
        show Ev Γ m_R_nearest 92 [some (vr 12 0 80), none, some (vi v2), some (vi v3), some (vi v4), none] [vi (p_Math_abs ((v4 / (h.1 85 (ii 0).toNatClampNeg)) - (v2 / (h.1 85 (ii 0).toNatClampNeg)))), vi (p_Math_abs ((remI v4 (h.1 85 (ii 0).toNatClampNeg)) - (remI v2 (h.1 85 (ii 0).toNatClampNeg))))] h r h'
        refine Ev.blk (pc' := 97) (lv' := [some (vr 12 0 80), none, some (vi v2), some (vi v3), some (vi v4), some (vi ((p_Math_abs ((remI v4 (h.1 85 (ii 0).toNatClampNeg)) - (remI v2 (h.1 85 (ii 0).toNatClampNeg)))) + (p_Math_abs ((v4 / (h.1 85 (ii 0).toNatClampNeg)) - (v2 / (h.1 85 (ii 0).toNatClampNeg))))))]) (st' := [vi (ii (-1)), vi v3]) (h' := h) 57 4 (Nat.le_of_ble_eq_true rfl) tk_R_nearest rfl rfl ⟨trivial, trivial, trivial, trivial, trivial⟩ ?_
        have K14 : ∀ v14_0 : Int32, v14_0 = (if v3 = (ii (-1)) then ((p_Math_abs ((remI v4 (h.1 85 (ii 0).toNatClampNeg)) - (remI v2 (h.1 85 (ii 0).toNatClampNeg)))) + (p_Math_abs ((v4 / (h.1 85 (ii 0).toNatClampNeg)) - (v2 / (h.1 85 (ii 0).toNatClampNeg))))) else (p_Math_min v3 ((p_Math_abs ((remI v4 (h.1 85 (ii 0).toNatClampNeg)) - (remI v2 (h.1 85 (ii 0).toNatClampNeg)))) + (p_Math_abs ((v4 / (h.1 85 (ii 0).toNatClampNeg)) - (v2 / (h.1 85 (ii 0).toNatClampNeg))))))) → Ev Γ m_R_nearest 111 [some (vr 12 0 80), none, some (vi v2), none, some (vi v4), none] [vi v14_0] h r h' := by
          intro v14_0 e15
          subst e15
          refine Ev.blk (pc' := 112) (lv' := [some (vr 12 0 80), none, some (vi v2), some (vi (if v3 = (ii (-1)) then ((p_Math_abs ((remI v4 (h.1 85 (ii 0).toNatClampNeg)) - (remI v2 (h.1 85 (ii 0).toNatClampNeg)))) + (p_Math_abs ((v4 / (h.1 85 (ii 0).toNatClampNeg)) - (v2 / (h.1 85 (ii 0).toNatClampNeg))))) else (p_Math_min v3 ((p_Math_abs ((remI v4 (h.1 85 (ii 0).toNatClampNeg)) - (remI v2 (h.1 85 (ii 0).toNatClampNeg)))) + (p_Math_abs ((v4 / (h.1 85 (ii 0).toNatClampNeg)) - (v2 / (h.1 85 (ii 0).toNatClampNeg)))))))), some (vi v4), none]) (st' := []) (h' := h) 67 1 (Nat.le_of_ble_eq_true rfl) tk_R_nearest rfl rfl ⟨trivial, trivial⟩ ?_
          obtain rfl := Option.some.inj hq3
          exact Ev.msk [true, false, true, true, true, false] K4
        refine Ev.icmp_ne 61 105 tk_R_nearest rfl (by decide) (fun hc16 => ?_) (fun hc16 => ?_)
        · refine Ev.blk (pc' := 108) (lv' := [some (vr 12 0 80), none, some (vi v2), some (vi v3), some (vi v4), some (vi ((p_Math_abs ((remI v4 (h.1 85 (ii 0).toNatClampNeg)) - (remI v2 (h.1 85 (ii 0).toNatClampNeg)))) + (p_Math_abs ((v4 / (h.1 85 (ii 0).toNatClampNeg)) - (v2 / (h.1 85 (ii 0).toNatClampNeg))))))]) (st' := [vi ((p_Math_abs ((remI v4 (h.1 85 (ii 0).toNatClampNeg)) - (remI v2 (h.1 85 (ii 0).toNatClampNeg)))) + (p_Math_abs ((v4 / (h.1 85 (ii 0).toNatClampNeg)) - (v2 / (h.1 85 (ii 0).toNatClampNeg))))), vi v3]) (h' := h) 64 2 (Nat.le_of_ble_eq_true rfl) tk_R_nearest rfl rfl ⟨trivial, trivial, trivial⟩ ?_
          refine Ev.mmin (rest := []) 66 tk_R_nearest rfl lk_12_356 (by decide) (Nat.le_of_ble_eq_true rfl) ?_
          show Ev Γ m_R_nearest 111 [some (vr 12 0 80), none, some (vi v2), some (vi v3), some (vi v4), some (vi ((p_Math_abs ((remI v4 (h.1 85 (ii 0).toNatClampNeg)) - (remI v2 (h.1 85 (ii 0).toNatClampNeg)))) + (p_Math_abs ((v4 / (h.1 85 (ii 0).toNatClampNeg)) - (v2 / (h.1 85 (ii 0).toNatClampNeg))))))] [vi (p_Math_min v3 ((p_Math_abs ((remI v4 (h.1 85 (ii 0).toNatClampNeg)) - (remI v2 (h.1 85 (ii 0).toNatClampNeg)))) + (p_Math_abs ((v4 / (h.1 85 (ii 0).toNatClampNeg)) - (v2 / (h.1 85 (ii 0).toNatClampNeg))))))] h r h'
          exact Ev.msk [true, false, true, false, true, false] (K14 _ (by first | rfl | simp only [if_neg hc16]))
        · refine Ev.blk (pc' := 111) (lv' := [some (vr 12 0 80), none, some (vi v2), some (vi v3), some (vi v4), some (vi ((p_Math_abs ((remI v4 (h.1 85 (ii 0).toNatClampNeg)) - (remI v2 (h.1 85 (ii 0).toNatClampNeg)))) + (p_Math_abs ((v4 / (h.1 85 (ii 0).toNatClampNeg)) - (v2 / (h.1 85 (ii 0).toNatClampNeg))))))]) (st' := [vi ((p_Math_abs ((remI v4 (h.1 85 (ii 0).toNatClampNeg)) - (remI v2 (h.1 85 (ii 0).toNatClampNeg)))) + (p_Math_abs ((v4 / (h.1 85 (ii 0).toNatClampNeg)) - (v2 / (h.1 85 (ii 0).toNatClampNeg)))))]) (h' := h) 62 2 (Nat.le_of_ble_eq_true rfl) tk_R_nearest rfl rfl ⟨trivial, trivial, trivial⟩ ?_
          exact Ev.msk [true, false, true, false, true, false] (K14 _ (by first | rfl | simp only [if_pos hc16]))
      · replace hq3 := ip hc5 hq3
        refine Ev.blk (pc' := 112) (lv' := [some (vr 12 0 80), none, some (vi v2), some (vi v3), some (vi v4), none]) (st' := []) (h' := h) 28 1 (Nat.le_of_ble_eq_true rfl) tk_R_nearest rfl rfl ⟨trivial, trivial⟩ ?_
        obtain rfl := Option.some.inj hq3
        exact Ev.msk [true, false, true, true, true, false] K4
set_option maxRecDepth 4000 in
theorem s_R_nearest (Γ : AG) (a1 : Int32) (h : AH) (x : Int32 × AH) (hx : f_R_nearest a1 h = some x) : MetA Γ m_R_nearest [vr 12 0 80, vi a1] h (some (vi x.1)) x.2 := by
  refine Ev.met rfl rfl (Nat.le_of_ble_eq_true rfl) ?_
  show Ev Γ m_R_nearest 0 [some (vr 12 0 80), some (vi a1), none, none, none, none] [] h _ _
  obtain ⟨r, hr⟩ : ∃ r : Option AV, r = some (vi x.1) := ⟨_, rfl⟩
  obtain ⟨h', hh⟩ : ∃ h' : AH, h' = x.2 := ⟨_, rfl⟩
  have hP : r = some (vi x.1) ∧ h' = x.2 := ⟨hr, hh⟩
  suffices hS : Ev Γ m_R_nearest 0 [some (vr 12 0 80), some (vi a1), none, none, none, none] [] h r h' by rw [hr, hh] at hS; exact hS
  clear hr hh
  unfold f_R_nearest at hx
  refine Ev.blk (pc' := 7) (lv' := [some (vr 12 0 80), some (vi a1), none, none, none, none]) (st' := [vi a1, vr 12 0 80]) (h' := (wI h 80 0 (ii 0))) 0 5 (Nat.le_of_ble_eq_true rfl) tk_R_nearest rfl rfl ⟨trivial, trivial, trivial, trivial, trivial, trivial⟩ ?_
  refine Ev.callV (ν := m_R_isFork) (av := [vi a1]) (rest := []) (r1 := some (vi (p_R_isFork a1 (wI h 80 0 (ii 0))))) (h1 := (wI h 80 0 (ii 0))) (ci := 12) (nn := 0) (o := 80) 5 1 tk_R_nearest rfl bb_R_isFork vv_R_isFork lk_12_377 (by decide) rfl rfl (Or.inl rfl) (Nat.le_of_ble_eq_true rfl) (s_R_isFork Γ a1 (wI h 80 0 (ii 0))) ?_
  show Ev Γ m_R_nearest 10 [some (vr 12 0 80), some (vi a1), none, none, none, none] [vi (p_R_isFork a1 (wI h 80 0 (ii 0)))] (wI h 80 0 (ii 0)) r h'
  refine Ev.if_ne 6 15 tk_R_nearest rfl (by decide) (fun hc1 => ?_) (fun hc1 => ?_)
  · replace hx := ia hc1 hx
    obtain ⟨hg2, hx⟩ := gd hx
    refine Ev.blk (pc' := 29) (lv' := [some (vr 12 0 80), some (vi a1), some (vi ((wI h 80 0 (ii 0)).1 97 ((ii 2) * a1).toNatClampNeg)), some (vi (ii (-1))), some (vi (ii 0)), none]) (st' := []) (h' := (wI h 80 0 (ii 0))) 9 11 (Nat.le_of_ble_eq_true rfl) tk_R_nearest rfl rfl ⟨trivial, trivial, trivial, trivial, trivial, hg2, trivial, trivial, trivial, trivial, trivial, trivial⟩ ?_
    refine Ev.msk [true, false, true, true, true, false] ?_
    show Ev Γ m_R_nearest 29 [some (vr 12 0 80), none, some (vi ((wI h 80 0 (ii 0)).1 97 ((ii 2) * a1).toNatClampNeg)), some (vi (ii (-1))), some (vi (ii 0)), none] [] (wI h 80 0 (ii 0)) r h'
    exact l_R_nearest_L29 Γ FU ((wI h 80 0 (ii 0)).1 97 ((ii 2) * a1).toNatClampNeg) (ii (-1)) (ii 0) (wI h 80 0 (ii 0)) _ hx r h' hP
  · replace hx := ip hc1 hx
    refine Ev.blk (pc' := 14) (lv' := [some (vr 12 0 80), some (vi a1), none, none, none, none]) (st' := [vi (ii (-1))]) (h' := (wI h 80 0 (ii 0))) 7 1 (Nat.le_of_ble_eq_true rfl) tk_R_nearest rfl rfl ⟨trivial, trivial⟩ ?_
    obtain rfl := Option.some.inj hx
    obtain ⟨rfl, rfl⟩ := hP
    exact Ev.iret 8 tk_R_nearest rfl rfl
set_option maxRecDepth 4000 in
theorem l_R_meets_L31 (Γ : AG) : ∀ (n : Nat) (v1 : Int32) (v2 : Int32) (v3 : Int32) (v4 : Int32) (h : AH) (x : Int32), R_meets_L31 n v1 v2 v3 v4 h = some x → ∀ (r : Option AV) (h' : AH), Ev Γ m_R_meets 65 [some (vr 12 0 80), some (vi v1), some (vi v2), some (vi x), none] [] h r h' → Ev Γ m_R_meets 31 [some (vr 12 0 80), some (vi v1), some (vi v2), some (vi v3), some (vi v4)] [] h r h' := by
  intro n
  induction n with
  | zero => intro v1 v2 v3 v4 h x hx; cases hx
  | succ n ih =>
    intro v1 v2 v3 v4 h x hx r h' hP
    replace hx : R_meets_L31_b (R_meets_L31 n) v1 v2 v3 v4 h = some x := hx
    unfold R_meets_L31_b at hx
    refine Ev.blk (pc' := 37) (lv' := [some (vr 12 0 80), some (vi v1), some (vi v2), some (vi v3), some (vi v4)]) (st' := [vi (h.1 80 30), vi v4]) (h' := h) 20 3 (Nat.le_of_ble_eq_true rfl) tk_R_meets rfl rfl ⟨trivial, trivial, trivial, trivial⟩ ?_
    refine Ev.icmp_ge 23 65 tk_R_meets rfl (by decide) (fun hc1 => ?_) (fun hc1 => ?_)
    · replace hx := ip hc1 hx
      obtain rfl := Option.some.inj hx
      exact Ev.msk [true, true, true, true, false] hP
    · replace hx := ia hc1 hx
      refine Ev.blk (pc' := 45) (lv' := [some (vr 12 0 80), some (vi v1), some (vi v2), some (vi v3), some (vi v4)]) (st' := [vi v2, vi v4, vr 12 0 80, vi v3]) (h' := h) 24 4 (Nat.le_of_ble_eq_true rfl) tk_R_meets rfl rfl ⟨trivial, trivial, trivial, trivial, trivial⟩ ?_
      obtain ⟨q1, hq2, hx⟩ := bd hx
      refine Ev.callV (ν := m_R_veinAt) (av := [vi v4, vi v2]) (rest := [vi v3]) (r1 := some (vi q1)) (h1 := h) (ci := 12) (nn := 0) (o := 80) 28 2 tk_R_meets rfl bb_R_veinAt vv_R_veinAt lk_12_353 (by decide) rfl rfl (Or.inl rfl) (Nat.le_of_ble_eq_true rfl) (s_R_veinAt Γ v4 v2 h _ hq2) ?_
      show Ev Γ m_R_meets 48 [some (vr 12 0 80), some (vi v1), some (vi v2), some (vi v3), some (vi v4)] [vi q1, vi v3] h r h'
      refine Ev.blk (pc' := 49) (lv' := [some (vr 12 0 80), some (vi v1), some (vi v2), some (vi v3), some (vi v4)]) (st' := [vi (ii (-1)), vi q1, vi v3]) (h' := h) 29 1 (Nat.le_of_ble_eq_true rfl) tk_R_meets rfl rfl ⟨trivial, trivial⟩ ?_
      have K3 : ∀ v3_0 : Int32, v3_0 = (if q1 = (ii (-1)) then (ii 0) else (ii 1)) → Ev Γ m_R_meets 57 [some (vr 12 0 80), some (vi v1), some (vi v2), none, some (vi v4)] [vi v3_0, vi v3] h r h' := by
        intro v3_0 e4
        subst e4
        refine Ev.blk (pc' := 31) (lv' := [some (vr 12 0 80), some (vi v1), some (vi v2), some (vi (v3 + (if q1 = (ii (-1)) then (ii 0) else (ii 1)))), some (vi (v4 + ii 1))]) (st' := []) (h' := h) 34 4 (Nat.le_of_ble_eq_true rfl) tk_R_meets rfl rfl ⟨trivial, trivial, trivial, trivial, trivial⟩ ?_
        exact Ev.msk [true, true, true, true, true] (ih v1 v2 (v3 + (if q1 = (ii (-1)) then (ii 0) else (ii 1))) (v4 + ii 1) h _ hx r h' hP)
      refine Ev.icmp_ne 30 56 tk_R_meets rfl (by decide) (fun hc5 => ?_) (fun hc5 => ?_)
      · refine Ev.blk (pc' := 57) (lv' := [some (vr 12 0 80), some (vi v1), some (vi v2), some (vi v3), some (vi v4)]) (st' := [vi (ii 1), vi v3]) (h' := h) 33 1 (Nat.le_of_ble_eq_true rfl) tk_R_meets rfl rfl ⟨trivial, trivial⟩ ?_
        exact Ev.msk [true, true, true, false, true] (K3 _ (by first | rfl | simp only [if_neg hc5]))
      · refine Ev.blk (pc' := 57) (lv' := [some (vr 12 0 80), some (vi v1), some (vi v2), some (vi v3), some (vi v4)]) (st' := [vi (ii 0), vi v3]) (h' := h) 31 2 (Nat.le_of_ble_eq_true rfl) tk_R_meets rfl rfl ⟨trivial, trivial, trivial⟩ ?_
        exact Ev.msk [true, true, true, false, true] (K3 _ (by first | rfl | simp only [if_pos hc5]))
set_option maxRecDepth 4000 in
theorem l_R_meets_L18 (Γ : AG) : ∀ (n : Nat) (v1 : Int32) (v2 : Int32) (h : AH) (x : Int32 × AH), R_meets_L18 n v1 v2 h = some x → ∀ (r : Option AV) (h' : AH), r = some (vi x.1) ∧ h' = x.2 → Ev Γ m_R_meets 18 [some (vr 12 0 80), some (vi v1), some (vi v2), none, none] [] h r h' := by
  intro n
  induction n with
  | zero => intro v1 v2 h x hx; cases hx
  | succ n ih =>
    intro v1 v2 h x hx r h' hP
    replace hx : R_meets_L18_b (R_meets_L18 n) v1 v2 h = some x := hx
    unfold R_meets_L18_b at hx
    refine Ev.blk (pc' := 23) (lv' := [some (vr 12 0 80), some (vi v1), some (vi v2), none, none]) (st' := [vi (h.1 80 34), vi v2]) (h' := h) 12 3 (Nat.le_of_ble_eq_true rfl) tk_R_meets rfl rfl ⟨trivial, trivial, trivial, trivial⟩ ?_
    refine Ev.icmp_ge 15 86 tk_R_meets rfl (by decide) (fun hc1 => ?_) (fun hc1 => ?_)
    · replace hx := ip hc1 hx
      refine Ev.blk (pc' := 87) (lv' := [some (vr 12 0 80), some (vi v1), some (vi v2), none, none]) (st' := [vi v1]) (h' := h) 51 1 (Nat.le_of_ble_eq_true rfl) tk_R_meets rfl rfl ⟨trivial, trivial⟩ ?_
      obtain rfl := Option.some.inj hx
      obtain ⟨rfl, rfl⟩ := hP
      exact Ev.iret 52 tk_R_meets rfl rfl
    · replace hx := ia hc1 hx
      refine Ev.blk (pc' := 31) (lv' := [some (vr 12 0 80), some (vi v1), some (vi v2), some (vi (ii 0)), some (vi (ii 0))]) (st' := []) (h' := h) 16 4 (Nat.le_of_ble_eq_true rfl) tk_R_meets rfl rfl ⟨trivial, trivial, trivial, trivial, trivial⟩ ?_
      obtain ⟨q1, hq2, hx⟩ := bd hx
      refine Ev.msk [true, true, true, true, true] ?_
      show Ev Γ m_R_meets 31 [some (vr 12 0 80), some (vi v1), some (vi v2), some (vi (ii 0)), some (vi (ii 0))] [] h r h'
      refine l_R_meets_L31 Γ FU v1 v2 (ii 0) (ii 0) h _ hq2 r h' ?_
      show Ev Γ m_R_meets 65 [some (vr 12 0 80), some (vi v1), some (vi v2), some (vi q1), none] [] h r h'
      refine Ev.blk (pc' := 68) (lv' := [some (vr 12 0 80), some (vi v1), some (vi v2), some (vi q1), none]) (st' := [vi (ii 1), vi q1, vi v1]) (h' := h) 38 3 (Nat.le_of_ble_eq_true rfl) tk_R_meets rfl rfl ⟨trivial, trivial, trivial, trivial⟩ ?_
      have K3 : ∀ v3_0 : Int32, v3_0 = (if q1 ≤ (ii 1) then (ii 0) else (shlI (ii 1) v2)) → Ev Γ m_R_meets 78 [some (vr 12 0 80), none, some (vi v2), none, none] [vi v3_0, vi v1] h r h' := by
        intro v3_0 e4
        subst e4
        refine Ev.blk (pc' := 18) (lv' := [some (vr 12 0 80), some (vi (v1 ||| (if q1 ≤ (ii 1) then (ii 0) else (shlI (ii 1) v2)))), some (vi (v2 + ii 1)), none, none]) (st' := []) (h' := h) 47 4 (Nat.le_of_ble_eq_true rfl) tk_R_meets rfl rfl ⟨trivial, trivial, trivial, trivial, trivial⟩ ?_
        exact Ev.msk [true, true, true, false, false] (ih (v1 ||| (if q1 ≤ (ii 1) then (ii 0) else (shlI (ii 1) v2))) (v2 + ii 1) h _ hx r h' hP)
      refine Ev.icmp_le 41 77 tk_R_meets rfl (by decide) (fun hc5 => ?_) (fun hc5 => ?_)
      · refine Ev.blk (pc' := 78) (lv' := [some (vr 12 0 80), some (vi v1), some (vi v2), some (vi q1), none]) (st' := [vi (ii 0), vi v1]) (h' := h) 46 1 (Nat.le_of_ble_eq_true rfl) tk_R_meets rfl rfl ⟨trivial, trivial⟩ ?_
        exact Ev.msk [true, false, true, false, false] (K3 _ (by first | rfl | simp only [if_pos hc5]))
      · refine Ev.blk (pc' := 78) (lv' := [some (vr 12 0 80), some (vi v1), some (vi v2), some (vi q1), none]) (st' := [vi (shlI (ii 1) v2), vi v1]) (h' := h) 42 4 (Nat.le_of_ble_eq_true rfl) tk_R_meets rfl rfl ⟨trivial, trivial, trivial, trivial, trivial⟩ ?_
        exact Ev.msk [true, false, true, false, false] (K3 _ (by first | rfl | simp only [if_neg hc5]))
set_option maxRecDepth 4000 in
theorem s_R_meets (Γ : AG) (h : AH) (x : Int32 × AH) (hx : f_R_meets  h = some x) : MetA Γ m_R_meets [vr 12 0 80] h (some (vi x.1)) x.2 := by
  refine Ev.met rfl rfl (Nat.le_of_ble_eq_true rfl) ?_
  show Ev Γ m_R_meets 0 [some (vr 12 0 80), none, none, none, none] [] h _ _
  obtain ⟨r, hr⟩ : ∃ r : Option AV, r = some (vi x.1) := ⟨_, rfl⟩
  obtain ⟨h', hh⟩ : ∃ h' : AH, h' = x.2 := ⟨_, rfl⟩
  have hP : r = some (vi x.1) ∧ h' = x.2 := ⟨hr, hh⟩
  suffices hS : Ev Γ m_R_meets 0 [some (vr 12 0 80), none, none, none, none] [] h r h' by rw [hr, hh] at hS; exact hS
  clear hr hh
  unfold f_R_meets at hx
  refine Ev.blk (pc' := 9) (lv' := [some (vr 12 0 80), none, none, none, none]) (st' := [vi ((wI h 80 0 (ii 0)).1 80 34)]) (h' := (wI h 80 0 (ii 0))) 0 5 (Nat.le_of_ble_eq_true rfl) tk_R_meets rfl rfl ⟨trivial, trivial, trivial, trivial, trivial, trivial⟩ ?_
  refine Ev.if_ne 5 14 tk_R_meets rfl (by decide) (fun hc1 => ?_) (fun hc1 => ?_)
  · replace hx := ia hc1 hx
    refine Ev.blk (pc' := 18) (lv' := [some (vr 12 0 80), some (vi (ii 0)), some (vi (ii 0)), none, none]) (st' := []) (h' := (wI h 80 0 (ii 0))) 8 4 (Nat.le_of_ble_eq_true rfl) tk_R_meets rfl rfl ⟨trivial, trivial, trivial, trivial, trivial⟩ ?_
    refine Ev.msk [true, true, true, false, false] ?_
    show Ev Γ m_R_meets 18 [some (vr 12 0 80), some (vi (ii 0)), some (vi (ii 0)), none, none] [] (wI h 80 0 (ii 0)) r h'
    exact l_R_meets_L18 Γ FU (ii 0) (ii 0) (wI h 80 0 (ii 0)) _ hx r h' hP
  · replace hx := ip hc1 hx
    refine Ev.blk (pc' := 13) (lv' := [some (vr 12 0 80), none, none, none, none]) (st' := [vi (ii (-1))]) (h' := (wI h 80 0 (ii 0))) 6 1 (Nat.le_of_ble_eq_true rfl) tk_R_meets rfl rfl ⟨trivial, trivial⟩ ?_
    obtain rfl := Option.some.inj hx
    obtain ⟨rfl, rfl⟩ := hP
    exact Ev.iret 7 tk_R_meets rfl rfl
