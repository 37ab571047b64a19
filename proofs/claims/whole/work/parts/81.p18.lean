set_option maxRecDepth 4000 in
theorem l_R_shallow_L9 (Γ : AG) : ∀ (n : Nat) (v1 : Int32) (v2 : Int32) (h : AH) (x : Int32 × AH), R_shallow_L9 n v1 v2 h = some x → ∀ (r : Option AV) (h' : AH), r = some (vi x.1) ∧ h' = x.2 → Ev Γ m_R_shallow 9 [some (vr 12 0 80), some (vi v1), some (vi v2), none] [] h r h' := by
  intro n
  induction n with
  | zero => intro v1 v2 h x hx; cases hx
  | succ n ih =>
    intro v1 v2 h x hx r h' hP
    replace hx : R_shallow_L9_b (R_shallow_L9 n) v1 v2 h = some x := hx
    unfold R_shallow_L9_b at hx
    refine Ev.blk (pc' := 14) (lv' := [some (vr 12 0 80), some (vi v1), some (vi v2), none]) (st' := [vi (h.1 80 34), vi v2]) (h' := h) 7 3 (Nat.le_of_ble_eq_true rfl) tk_R_shallow rfl rfl ⟨trivial, trivial, trivial, trivial⟩ ?_
    refine Ev.icmp_ge 10 64 tk_R_shallow rfl (by decide) (fun hc1 => ?_) (fun hc1 => ?_)
    · replace hx := ip hc1 hx
      refine Ev.blk (pc' := 65) (lv' := [some (vr 12 0 80), some (vi v1), some (vi v2), none]) (st' := [vi v1]) (h' := h) 38 1 (Nat.le_of_ble_eq_true rfl) tk_R_shallow rfl rfl ⟨trivial, trivial⟩ ?_
      obtain rfl := Option.some.inj hx
      obtain ⟨rfl, rfl⟩ := hP
      exact Ev.iret 39 tk_R_shallow rfl rfl
    · replace hx := ia hc1 hx
      obtain ⟨hg2, hx⟩ := gd hx
      refine Ev.blk (pc' := 26) (lv' := [some (vr 12 0 80), some (vi v1), some (vi v2), none]) (st' := [vi (h.1 97 (ii 45).toNatClampNeg), vi v2, vr 12 0 80]) (h' := h) 11 6 (Nat.le_of_ble_eq_true rfl) tk_R_shallow rfl rfl ⟨trivial, trivial, trivial, trivial, trivial, hg2, trivial⟩ ?_
      obtain ⟨q1, hq3, hx⟩ := bd hx
      refine Ev.callV (ν := m_R_depthOf) (av := [vi v2, vi (h.1 97 (ii 45).toNatClampNeg)]) (rest := []) (r1 := some (vi q1)) (h1 := h) (ci := 12) (nn := 0) (o := 80) 17 2 tk_R_shallow rfl bb_R_depthOf vv_R_depthOf lk_12_362 (by decide) rfl rfl (Or.inl rfl) (Nat.le_of_ble_eq_true rfl) (s_R_depthOf Γ v2 (h.1 97 (ii 45).toNatClampNeg) h _ hq3) ?_
      show Ev Γ m_R_shallow 29 [some (vr 12 0 80), some (vi v1), some (vi v2), none] [vi q1] h r h'
      refine Ev.blk (pc' := 32) (lv' := [some (vr 12 0 80), some (vi v1), some (vi v2), some (vi q1)]) (st' := [vi (ii (-1)), vi q1]) (h' := h) 18 3 (Nat.le_of_ble_eq_true rfl) tk_R_shallow rfl rfl ⟨trivial, trivial, trivial, trivial⟩ ?_
      obtain ⟨q3, hq4, hx⟩ := bd hx
      have K5 : Ev Γ m_R_shallow 58 [some (vr 12 0 80), some (vi q3), some (vi v2), none] [] h r h' := by
        refine Ev.blk (pc' := 9) (lv' := [some (vr 12 0 80), some (vi q3), some (vi (v2 + ii 1)), none]) (st' := []) (h' := h) 36 2 (Nat.le_of_ble_eq_true rfl) tk_R_shallow rfl rfl ⟨trivial, trivial, trivial⟩ ?_
        exact Ev.msk [true, true, true, false] (ih q3 (v2 + ii 1) h _ hx r h' hP)
      clear hx
      refine Ev.icmp_eq 21 58 tk_R_shallow rfl (by decide) (fun hc6 => ?_) (fun hc6 => ?_)
      · replace hq4 := ip hc6 hq4
        obtain rfl := Option.some.inj hq4
        exact Ev.msk [true, true, true, false] K5
      · replace hq4 := ia hc6 hq4
        refine Ev.blk (pc' := 37) (lv' := [some (vr 12 0 80), some (vi v1), some (vi v2), some (vi q1)]) (st' := [vi (ii (-1)), vi v1]) (h' := h) 22 2 (Nat.le_of_ble_eq_true rfl) tk_R_shallow rfl rfl ⟨trivial, trivial, trivial⟩ ?_
        refine Ev.icmp_eq 24 56 tk_R_shallow rfl (by decide) (fun hc7 => ?_) (fun hc7 => ?_)
        · replace hq4 := ip hc7 hq4
          refine Ev.blk (pc' := 58) (lv' := [some (vr 12 0 80), some (vi v2), some (vi v2), some (vi q1)]) (st' := []) (h' := h) 34 2 (Nat.le_of_ble_eq_true rfl) tk_R_shallow rfl rfl ⟨trivial, trivial, trivial⟩ ?_
          obtain rfl := Option.some.inj hq4
          exact Ev.msk [true, true, true, false] K5
        · replace hq4 := ia hc7 hq4
          obtain ⟨hg8, hq4⟩ := gd hq4
          refine Ev.blk (pc' := 50) (lv' := [some (vr 12 0 80), some (vi v1), some (vi v2), some (vi q1)]) (st' := [vi (h.1 97 (ii 45).toNatClampNeg), vi v1, vr 12 0 80, vi q1]) (h' := h) 25 7 (Nat.le_of_ble_eq_true rfl) tk_R_shallow rfl rfl ⟨trivial, trivial, trivial, trivial, trivial, trivial, hg8, trivial⟩ ?_
          obtain ⟨q2, hq9, hq4⟩ := bd hq4
          refine Ev.callV (ν := m_R_depthOf) (av := [vi v1, vi (h.1 97 (ii 45).toNatClampNeg)]) (rest := [vi q1]) (r1 := some (vi q2)) (h1 := h) (ci := 12) (nn := 0) (o := 80) 32 2 tk_R_shallow rfl bb_R_depthOf vv_R_depthOf lk_12_362 (by decide) rfl rfl (Or.inl rfl) (Nat.le_of_ble_eq_true rfl) (s_R_depthOf Γ v1 (h.1 97 (ii 45).toNatClampNeg) h _ hq9) ?_
          show Ev Γ m_R_shallow 53 [some (vr 12 0 80), some (vi v1), some (vi v2), some (vi q1)] [vi q2, vi q1] h r h'
          refine Ev.icmp_ge 33 58 tk_R_shallow rfl (by decide) (fun hc10 => ?_) (fun hc10 => ?_)
          · replace hq4 := ip hc10 hq4
            obtain rfl := Option.some.inj hq4
            exact Ev.msk [true, true, true, false] K5
          · replace hq4 := ia hc10 hq4
            refine Ev.blk (pc' := 58) (lv' := [some (vr 12 0 80), some (vi v2), some (vi v2), some (vi q1)]) (st' := []) (h' := h) 34 2 (Nat.le_of_ble_eq_true rfl) tk_R_shallow rfl rfl ⟨trivial, trivial, trivial⟩ ?_
            obtain rfl := Option.some.inj hq4
            exact Ev.msk [true, true, true, false] K5
set_option maxRecDepth 4000 in
theorem s_R_shallow (Γ : AG) (h : AH) (x : Int32 × AH) (hx : f_R_shallow  h = some x) : MetA Γ m_R_shallow [vr 12 0 80] h (some (vi x.1)) x.2 := by
  refine Ev.met rfl rfl (Nat.le_of_ble_eq_true rfl) ?_
  show Ev Γ m_R_shallow 0 [some (vr 12 0 80), none, none, none] [] h _ _
  obtain ⟨r, hr⟩ : ∃ r : Option AV, r = some (vi x.1) := ⟨_, rfl⟩
  obtain ⟨h', hh⟩ : ∃ h' : AH, h' = x.2 := ⟨_, rfl⟩
  have hP : r = some (vi x.1) ∧ h' = x.2 := ⟨hr, hh⟩
  suffices hS : Ev Γ m_R_shallow 0 [some (vr 12 0 80), none, none, none] [] h r h' by rw [hr, hh] at hS; exact hS
  clear hr hh
  unfold f_R_shallow at hx
  refine Ev.blk (pc' := 9) (lv' := [some (vr 12 0 80), some (vi (ii (-1))), some (vi (ii 0)), none]) (st' := []) (h' := (wI h 80 0 (ii 0))) 0 7 (Nat.le_of_ble_eq_true rfl) tk_R_shallow rfl rfl ⟨trivial, trivial, trivial, trivial, trivial, trivial, trivial, trivial⟩ ?_
  refine Ev.msk [true, true, true, false] ?_
  show Ev Γ m_R_shallow 9 [some (vr 12 0 80), some (vi (ii (-1))), some (vi (ii 0)), none] [] (wI h 80 0 (ii 0)) r h'
  exact l_R_shallow_L9 Γ FU (ii (-1)) (ii 0) (wI h 80 0 (ii 0)) _ hx r h' hP
set_option maxRecDepth 4000 in
theorem l_R_heap_L25 (Γ : AG) : ∀ (n : Nat) (v1 : Int32) (v2 : Int32) (v3 : Int32) (v4 : Int32) (v5 : Int32) (h : AH) (x : Int32), R_heap_L25 n v1 v2 v3 v4 v5 h = some x → ∀ (r : Option AV) (h' : AH), Ev Γ m_R_heap 84 [some (vr 12 0 80), some (vi v1), some (vi v2), some (vi v3), some (vi x), none] [] h r h' → Ev Γ m_R_heap 25 [some (vr 12 0 80), some (vi v1), some (vi v2), some (vi v3), some (vi v4), some (vi v5)] [] h r h' := by
  intro n
  induction n with
  | zero => intro v1 v2 v3 v4 v5 h x hx; cases hx
  | succ n ih =>
    intro v1 v2 v3 v4 v5 h x hx r h' hP
    replace hx : R_heap_L25_b (R_heap_L25 n) v1 v2 v3 v4 v5 h = some x := hx
    unfold R_heap_L25_b at hx
    obtain ⟨hg1, hx⟩ := gd hx
    refine Ev.blk (pc' := 34) (lv' := [some (vr 12 0 80), some (vi v1), some (vi v2), some (vi v3), some (vi v4), some (vi v5)]) (st' := [vi (h.1 97 (ii 46).toNatClampNeg), vi v5]) (h' := h) 17 5 (Nat.le_of_ble_eq_true rfl) tk_R_heap rfl rfl ⟨trivial, trivial, trivial, trivial, hg1, trivial⟩ ?_
    refine Ev.icmp_ge 22 84 tk_R_heap rfl (by decide) (fun hc2 => ?_) (fun hc2 => ?_)
    · replace hx := ip hc2 hx
      obtain rfl := Option.some.inj hx
      exact Ev.msk [true, true, true, true, true, false] hP
    · replace hx := ia hc2 hx
      obtain ⟨hg3, hx⟩ := gd hx
      refine Ev.blk (pc' := 52) (lv' := [some (vr 12 0 80), some (vi v1), some (vi v2), some (vi v3), some (vi v4), some (vi v5)]) (st' := [vi v3, vi (h.1 97 ((ii 48) + ((ii 3) * v5)).toNatClampNeg), vi v4]) (h' := h) 23 10 (Nat.le_of_ble_eq_true rfl) tk_R_heap rfl rfl ⟨trivial, trivial, trivial, trivial, trivial, trivial, trivial, trivial, hg3, trivial, trivial⟩ ?_
      obtain ⟨q1, hq4, hx⟩ := bd hx
      have K5 : Ev Γ m_R_heap 75 [some (vr 12 0 80), some (vi v1), some (vi v2), some (vi v3), none, some (vi v5)] [vi q1, vi v4] h r h' := by
        refine Ev.blk (pc' := 25) (lv' := [some (vr 12 0 80), some (vi v1), some (vi v2), some (vi v3), some (vi (v4 + q1)), some (vi (v5 + ii 1))]) (st' := []) (h' := h) 46 4 (Nat.le_of_ble_eq_true rfl) tk_R_heap rfl rfl ⟨trivial, trivial, trivial, trivial, trivial⟩ ?_
        exact Ev.msk [true, true, true, true, true, true] (ih v1 v2 v3 (v4 + q1) (v5 + ii 1) h _ hx r h' hP)
      clear hx
      refine Ev.icmp_ne 33 74 tk_R_heap rfl (by decide) (fun hc6 => ?_) (fun hc6 => ?_)
      · replace hq4 := ia hc6 hq4
        refine Ev.blk (pc' := 75) (lv' := [some (vr 12 0 80), some (vi v1), some (vi v2), some (vi v3), some (vi v4), some (vi v5)]) (st' := [vi (ii 0), vi v4]) (h' := h) 45 1 (Nat.le_of_ble_eq_true rfl) tk_R_heap rfl rfl ⟨trivial, trivial⟩ ?_
        obtain rfl := Option.some.inj hq4
        exact Ev.msk [true, true, true, true, false, true] K5
      · replace hq4 := ip hc6 hq4
        obtain ⟨hg7, hq4⟩ := gd hq4
        refine Ev.blk (pc' := 67) (lv' := [some (vr 12 0 80), some (vi v1), some (vi v2), some (vi v3), some (vi v4), some (vi v5)]) (st' := [vi (h.1 97 ((ii 49) + ((ii 3) * v5)).toNatClampNeg), vi v4]) (h' := h) 34 8 (Nat.le_of_ble_eq_true rfl) tk_R_heap rfl rfl ⟨trivial, trivial, trivial, trivial, trivial, trivial, trivial, hg7, trivial⟩ ?_
        refine Ev.if_le 42 74 tk_R_heap rfl (by decide) (fun hc8 => ?_) (fun hc8 => ?_)
        · replace hq4 := ip hc8 hq4
          refine Ev.blk (pc' := 75) (lv' := [some (vr 12 0 80), some (vi v1), some (vi v2), some (vi v3), some (vi v4), some (vi v5)]) (st' := [vi (ii 0), vi v4]) (h' := h) 45 1 (Nat.le_of_ble_eq_true rfl) tk_R_heap rfl rfl ⟨trivial, trivial⟩ ?_
          obtain rfl := Option.some.inj hq4
          exact Ev.msk [true, true, true, true, false, true] K5
        · replace hq4 := ia hc8 hq4
          refine Ev.blk (pc' := 75) (lv' := [some (vr 12 0 80), some (vi v1), some (vi v2), some (vi v3), some (vi v4), some (vi v5)]) (st' := [vi (ii 1), vi v4]) (h' := h) 43 2 (Nat.le_of_ble_eq_true rfl) tk_R_heap rfl rfl ⟨trivial, trivial, trivial⟩ ?_
          obtain rfl := Option.some.inj hq4
          exact Ev.msk [true, true, true, true, false, true] K5
set_option maxRecDepth 4000 in
theorem l_R_heap_L11 (Γ : AG) : ∀ (n : Nat) (v1 : Int32) (v2 : Int32) (v3 : Int32) (h : AH) (x : Int32 × AH), R_heap_L11 n v1 v2 v3 h = some x → ∀ (r : Option AV) (h' : AH), r = some (vi x.1) ∧ h' = x.2 → Ev Γ m_R_heap 11 [some (vr 12 0 80), some (vi v1), some (vi v2), some (vi v3), none, none] [] h r h' := by
  intro n
  induction n with
  | zero => intro v1 v2 v3 h x hx; cases hx
  | succ n ih =>
    intro v1 v2 v3 h x hx r h' hP
    replace hx : R_heap_L11_b (R_heap_L11 n) v1 v2 v3 h = some x := hx
    unfold R_heap_L11_b at hx
    refine Ev.blk (pc' := 16) (lv' := [some (vr 12 0 80), some (vi v1), some (vi v2), some (vi v3), none, none]) (st' := [vi (h.1 80 34), vi v3]) (h' := h) 9 3 (Nat.le_of_ble_eq_true rfl) tk_R_heap rfl rfl ⟨trivial, trivial, trivial, trivial⟩ ?_
    refine Ev.icmp_ge 12 104 tk_R_heap rfl (by decide) (fun hc1 => ?_) (fun hc1 => ?_)
    · replace hx := ip hc1 hx
      refine Ev.blk (pc' := 105) (lv' := [some (vr 12 0 80), some (vi v1), some (vi v2), some (vi v3), none, none]) (st' := [vi v1]) (h' := h) 60 1 (Nat.le_of_ble_eq_true rfl) tk_R_heap rfl rfl ⟨trivial, trivial⟩ ?_
      obtain rfl := Option.some.inj hx
      obtain ⟨rfl, rfl⟩ := hP
      exact Ev.iret 61 tk_R_heap rfl rfl
    · replace hx := ia hc1 hx
      refine Ev.blk (pc' := 25) (lv' := [some (vr 12 0 80), some (vi v1), some (vi v2), some (vi v3), some (vi (ii 0)), some (vi (ii 0))]) (st' := []) (h' := h) 13 4 (Nat.le_of_ble_eq_true rfl) tk_R_heap rfl rfl ⟨trivial, trivial, trivial, trivial, trivial⟩ ?_
      obtain ⟨q1, hq2, hx⟩ := bd hx
      refine Ev.msk [true, true, true, true, true, true] ?_
      show Ev Γ m_R_heap 25 [some (vr 12 0 80), some (vi v1), some (vi v2), some (vi v3), some (vi (ii 0)), some (vi (ii 0))] [] h r h'
      refine l_R_heap_L25 Γ FU v1 v2 v3 (ii 0) (ii 0) h _ hq2 r h' ?_
      show Ev Γ m_R_heap 84 [some (vr 12 0 80), some (vi v1), some (vi v2), some (vi v3), some (vi q1), none] [] h r h'
      refine Ev.blk (pc' := 87) (lv' := [some (vr 12 0 80), some (vi v1), some (vi v2), some (vi v3), some (vi q1), none]) (st' := [vi v2, vi q1]) (h' := h) 50 2 (Nat.le_of_ble_eq_true rfl) tk_R_heap rfl rfl ⟨trivial, trivial, trivial⟩ ?_
      have K3 : ∀ v3_0 : Int32, ∀ v3_1 : Int32, v3_0 = (if v2 < q1 then v3 else v1) → v3_1 = (if v2 < q1 then q1 else v2) → Ev Γ m_R_heap 98 [some (vr 12 0 80), some (vi v3_0), some (vi v3_1), some (vi v3), none, none] [] h r h' := by
        intro v3_0 v3_1 e4 e5
        subst e4
        subst e5
        refine Ev.blk (pc' := 11) (lv' := [some (vr 12 0 80), some (vi (if v2 < q1 then v3 else v1)), some (vi (if v2 < q1 then q1 else v2)), some (vi (v3 + ii 1)), none, none]) (st' := []) (h' := h) 58 2 (Nat.le_of_ble_eq_true rfl) tk_R_heap rfl rfl ⟨trivial, trivial, trivial⟩ ?_
        exact Ev.msk [true, true, true, true, false, false] (ih (if v2 < q1 then v3 else v1) (if v2 < q1 then q1 else v2) (v3 + ii 1) h _ hx r h' hP)
      refine Ev.icmp_gt 52 93 tk_R_heap rfl (by decide) (fun hc6 => ?_) (fun hc6 => ?_)
      · refine Ev.blk (pc' := 98) (lv' := [some (vr 12 0 80), some (vi v3), some (vi q1), some (vi v3), some (vi q1), none]) (st' := []) (h' := h) 54 4 (Nat.le_of_ble_eq_true rfl) tk_R_heap rfl rfl ⟨trivial, trivial, trivial, trivial, trivial⟩ ?_
        exact Ev.msk [true, true, true, true, false, false] (K3 _ _ (by first | rfl | simp only [if_pos hc6]) (by first | rfl | simp only [if_pos hc6]))
      · refine Ev.blk (pc' := 98) (lv' := [some (vr 12 0 80), some (vi v1), some (vi v2), some (vi v3), some (vi q1), none]) (st' := []) (h' := h) 53 1 (Nat.le_of_ble_eq_true rfl) tk_R_heap rfl rfl ⟨trivial, trivial⟩ ?_
        exact Ev.msk [true, true, true, true, false, false] (K3 _ _ (by first | rfl | simp only [if_neg hc6]) (by first | rfl | simp only [if_neg hc6]))
set_option maxRecDepth 4000 in
theorem s_R_heap (Γ : AG) (h : AH) (x : Int32 × AH) (hx : f_R_heap  h = some x) : MetA Γ m_R_heap [vr 12 0 80] h (some (vi x.1)) x.2 := by
  refine Ev.met rfl rfl (Nat.le_of_ble_eq_true rfl) ?_
  show Ev Γ m_R_heap 0 [some (vr 12 0 80), none, none, none, none, none] [] h _ _
  obtain ⟨r, hr⟩ : ∃ r : Option AV, r = some (vi x.1) := ⟨_, rfl⟩
  obtain ⟨h', hh⟩ : ∃ h' : AH, h' = x.2 := ⟨_, rfl⟩
  have hP : r = some (vi x.1) ∧ h' = x.2 := ⟨hr, hh⟩
  suffices hS : Ev Γ m_R_heap 0 [some (vr 12 0 80), none, none, none, none, none] [] h r h' by rw [hr, hh] at hS; exact hS
  clear hr hh
  unfold f_R_heap at hx
  refine Ev.blk (pc' := 11) (lv' := [some (vr 12 0 80), some (vi (ii (-1))), some (vi (ii 0)), some (vi (ii 0)), none, none]) (st' := []) (h' := (wI h 80 0 (ii 0))) 0 9 (Nat.le_of_ble_eq_true rfl) tk_R_heap rfl rfl ⟨trivial, trivial, trivial, trivial, trivial, trivial, trivial, trivial, trivial, trivial⟩ ?_
  refine Ev.msk [true, true, true, true, false, false] ?_
  show Ev Γ m_R_heap 11 [some (vr 12 0 80), some (vi (ii (-1))), some (vi (ii 0)), some (vi (ii 0)), none, none] [] (wI h 80 0 (ii 0)) r h'
  exact l_R_heap_L11 Γ FU (ii (-1)) (ii 0) (ii 0) (wI h 80 0 (ii 0)) _ hx r h' hP
set_option maxRecDepth 4000 in
theorem s_R_costs (Γ : AG) (a1 : Int32) (h : AH) (x : Int32 × AH) (hx : f_R_costs a1 h = some x) : MetA Γ m_R_costs [vr 12 0 80, vi a1] h (some (vi x.1)) x.2 := by
  refine Ev.met rfl rfl (Nat.le_of_ble_eq_true rfl) ?_
  show Ev Γ m_R_costs 0 [some (vr 12 0 80), some (vi a1)] [] h _ _
  obtain ⟨r, hr⟩ : ∃ r : Option AV, r = some (vi x.1) := ⟨_, rfl⟩
  obtain ⟨h', hh⟩ : ∃ h' : AH, h' = x.2 := ⟨_, rfl⟩
  have hP : r = some (vi x.1) ∧ h' = x.2 := ⟨hr, hh⟩
  suffices hS : Ev Γ m_R_costs 0 [some (vr 12 0 80), some (vi a1)] [] h r h' by rw [hr, hh] at hS; exact hS
  clear hr hh
  unfold f_R_costs at hx
  refine Ev.blk (pc' := 7) (lv' := [some (vr 12 0 80), some (vi a1)]) (st' := [vi a1, vr 12 0 80]) (h' := (wI h 80 0 (ii 0))) 0 5 (Nat.le_of_ble_eq_true rfl) tk_R_costs rfl rfl ⟨trivial, trivial, trivial, trivial, trivial, trivial⟩ ?_
  refine Ev.callV (ν := m_R_isCell) (av := [vi a1]) (rest := []) (r1 := some (vi (p_R_isCell a1 (wI h 80 0 (ii 0))))) (h1 := (wI h 80 0 (ii 0))) (ci := 12) (nn := 0) (o := 80) 5 1 tk_R_costs rfl bb_R_isCell vv_R_isCell lk_12_372 (by decide) rfl rfl (Or.inl rfl) (Nat.le_of_ble_eq_true rfl) (s_R_isCell Γ a1 (wI h 80 0 (ii 0))) ?_
  show Ev Γ m_R_costs 10 [some (vr 12 0 80), some (vi a1)] [vi (p_R_isCell a1 (wI h 80 0 (ii 0)))] (wI h 80 0 (ii 0)) r h'
  refine Ev.if_eq 6 40 tk_R_costs rfl (by decide) (fun hc1 => ?_) (fun hc1 => ?_)
  · replace hx := ip hc1 hx
    refine Ev.blk (pc' := 41) (lv' := [some (vr 12 0 80), some (vi a1)]) (st' := [vi (ii (-1))]) (h' := (wI h 80 0 (ii 0))) 22 1 (Nat.le_of_ble_eq_true rfl) tk_R_costs rfl rfl ⟨trivial, trivial⟩ ?_
    obtain rfl := Option.some.inj hx
    obtain ⟨rfl, rfl⟩ := hP
    exact Ev.iret 23 tk_R_costs rfl rfl
  · replace hx := ia hc1 hx
    obtain ⟨hg2, hx⟩ := gd hx
    refine Ev.blk (pc' := 22) (lv' := [some (vr 12 0 80), some (vi a1)]) (st' := [vi ((wI h 80 0 (ii 0)).1 97 ((ii 14) + a1).toNatClampNeg)]) (h' := (wI h 80 0 (ii 0))) 7 6 (Nat.le_of_ble_eq_true rfl) tk_R_costs rfl rfl ⟨trivial, trivial, trivial, trivial, trivial, hg2, trivial⟩ ?_
    refine Ev.if_ne 13 40 tk_R_costs rfl (by decide) (fun hc3 => ?_) (fun hc3 => ?_)
    · replace hx := ia hc3 hx
      refine Ev.blk (pc' := 41) (lv' := [some (vr 12 0 80), some (vi a1)]) (st' := [vi (ii (-1))]) (h' := (wI h 80 0 (ii 0))) 22 1 (Nat.le_of_ble_eq_true rfl) tk_R_costs rfl rfl ⟨trivial, trivial⟩ ?_
      obtain rfl := Option.some.inj hx
      obtain ⟨rfl, rfl⟩ := hP
      exact Ev.iret 23 tk_R_costs rfl rfl
    · replace hx := ip hc3 hx
      obtain ⟨hg4, hx⟩ := gd hx
      refine Ev.blk (pc' := 34) (lv' := [some (vr 12 0 80), some (vi a1)]) (st' := [vi ((wI h 80 0 (ii 0)).1 97 (ii 45).toNatClampNeg), vi a1, vr 12 0 80]) (h' := (wI h 80 0 (ii 0))) 14 6 (Nat.le_of_ble_eq_true rfl) tk_R_costs rfl rfl ⟨trivial, trivial, trivial, trivial, trivial, hg4, trivial⟩ ?_
      obtain ⟨q1, hq5, hx⟩ := bd hx
      refine Ev.callV (ν := m_R_costOf) (av := [vi a1, vi ((wI h 80 0 (ii 0)).1 97 (ii 45).toNatClampNeg)]) (rest := []) (r1 := some (vi q1)) (h1 := (wI h 80 0 (ii 0))) (ci := 12) (nn := 0) (o := 80) 20 2 tk_R_costs rfl bb_R_costOf vv_R_costOf lk_12_404 (by decide) rfl rfl (Or.inl rfl) (Nat.le_of_ble_eq_true rfl) (s_R_costOf Γ a1 ((wI h 80 0 (ii 0)).1 97 (ii 45).toNatClampNeg) (wI h 80 0 (ii 0)) _ hq5) ?_
      show Ev Γ m_R_costs 37 [some (vr 12 0 80), some (vi a1)] [vi q1] (wI h 80 0 (ii 0)) r h'
      refine Ev.blk (pc' := 41) (lv' := [some (vr 12 0 80), some (vi a1)]) (st' := [vi q1]) (h' := (wI h 80 0 (ii 0))) 21 1 (Nat.le_of_ble_eq_true rfl) tk_R_costs rfl rfl ⟨trivial, trivial⟩ ?_
      obtain rfl := Option.some.inj hx
      obtain ⟨rfl, rfl⟩ := hP
      exact Ev.iret 23 tk_R_costs rfl rfl
set_option maxRecDepth 4000 in
theorem s_R_loses (Γ : AG) (a1 : Int32) (h : AH) (x : Int32 × AH) (hx : f_R_loses a1 h = some x) : MetA Γ m_R_loses [vr 12 0 80, vi a1] h (some (vi x.1)) x.2 := by
  refine Ev.met rfl rfl (Nat.le_of_ble_eq_true rfl) ?_
  show Ev Γ m_R_loses 0 [some (vr 12 0 80), some (vi a1)] [] h _ _
  obtain ⟨r, hr⟩ : ∃ r : Option AV, r = some (vi x.1) := ⟨_, rfl⟩
  obtain ⟨h', hh⟩ : ∃ h' : AH, h' = x.2 := ⟨_, rfl⟩
  have hP : r = some (vi x.1) ∧ h' = x.2 := ⟨hr, hh⟩
  suffices hS : Ev Γ m_R_loses 0 [some (vr 12 0 80), some (vi a1)] [] h r h' by rw [hr, hh] at hS; exact hS
  clear hr hh
  unfold f_R_loses at hx
  refine Ev.blk (pc' := 7) (lv' := [some (vr 12 0 80), some (vi a1)]) (st' := [vi a1, vr 12 0 80]) (h' := (wI h 80 0 (ii 0))) 0 5 (Nat.le_of_ble_eq_true rfl) tk_R_loses rfl rfl ⟨trivial, trivial, trivial, trivial, trivial, trivial⟩ ?_
  refine Ev.callV (ν := m_R_isCell) (av := [vi a1]) (rest := []) (r1 := some (vi (p_R_isCell a1 (wI h 80 0 (ii 0))))) (h1 := (wI h 80 0 (ii 0))) (ci := 12) (nn := 0) (o := 80) 5 1 tk_R_loses rfl bb_R_isCell vv_R_isCell lk_12_372 (by decide) rfl rfl (Or.inl rfl) (Nat.le_of_ble_eq_true rfl) (s_R_isCell Γ a1 (wI h 80 0 (ii 0))) ?_
  show Ev Γ m_R_loses 10 [some (vr 12 0 80), some (vi a1)] [vi (p_R_isCell a1 (wI h 80 0 (ii 0)))] (wI h 80 0 (ii 0)) r h'
  refine Ev.if_eq 6 25 tk_R_loses rfl (by decide) (fun hc1 => ?_) (fun hc1 => ?_)
  · replace hx := ip hc1 hx
    refine Ev.blk (pc' := 26) (lv' := [some (vr 12 0 80), some (vi a1)]) (st' := [vi (ii (-1))]) (h' := (wI h 80 0 (ii 0))) 14 1 (Nat.le_of_ble_eq_true rfl) tk_R_loses rfl rfl ⟨trivial, trivial⟩ ?_
    obtain rfl := Option.some.inj hx
    obtain ⟨rfl, rfl⟩ := hP
    exact Ev.iret 15 tk_R_loses rfl rfl
  · replace hx := ia hc1 hx
    obtain ⟨hg2, hx⟩ := gd hx
    refine Ev.blk (pc' := 22) (lv' := [some (vr 12 0 80), some (vi a1)]) (st' := [vi ((wI h 80 0 (ii 0)).1 97 ((ii 14) + a1).toNatClampNeg)]) (h' := (wI h 80 0 (ii 0))) 7 6 (Nat.le_of_ble_eq_true rfl) tk_R_loses rfl rfl ⟨trivial, trivial, trivial, trivial, trivial, hg2, trivial⟩ ?_
    refine Ev.if_le 13 27 tk_R_loses rfl (by decide) (fun hc3 => ?_) (fun hc3 => ?_)
    · replace hx := ip hc3 hx
      refine Ev.blk (pc' := 35) (lv' := [some (vr 12 0 80), some (vi a1)]) (st' := [vr 20 227 98, vr 20 227 97]) (h' := (wI h 80 0 (ii 0))) 16 4 (Nat.le_of_ble_eq_true rfl) tk_R_loses rfl rfl ⟨trivial, trivial, trivial, trivial, trivial⟩ ?_
      obtain ⟨q1, hq4, hx⟩ := bd hx
      refine Ev.callS (ν := m_R_copy) (av := [vr 20 227 97, vr 20 227 98]) (rest := []) (r1 := none) (h1 := q1) 20 2 tk_R_loses rfl bb_R_copy vv_R_copy lk_12_331 (by decide) rfl rfl (Nat.le_of_ble_eq_true rfl) (s_R_copy Γ 227 97 227 98 (wI h 80 0 (ii 0)) _ hq4) ?_
      show Ev Γ m_R_loses 38 [some (vr 12 0 80), some (vi a1)] [] q1 r h'
      obtain ⟨hg5, hx⟩ := gd hx
      refine Ev.blk (pc' := 55) (lv' := [some (vr 12 0 80), some (vi a1)]) (st' := [vi (q1.1 97 (ii 45).toNatClampNeg), vi a1, vr 12 0 80, vi ((ii 14) + a1), vr 20 227 98]) (h' := q1) 21 11 (Nat.le_of_ble_eq_true rfl) tk_R_loses rfl rfl ⟨trivial, trivial, trivial, trivial, trivial, trivial, trivial, trivial, trivial, trivial, hg5, trivial⟩ ?_
      obtain ⟨q2, hq6, hx⟩ := bd hx
      refine Ev.callV (ν := m_R_sunkTo) (av := [vi a1, vi (q1.1 97 (ii 45).toNatClampNeg)]) (rest := [vi ((ii 14) + a1), vr 20 227 98]) (r1 := some (vi q2)) (h1 := q1) (ci := 12) (nn := 0) (o := 80) 32 2 tk_R_loses rfl bb_R_sunkTo vv_R_sunkTo lk_12_398 (by decide) rfl rfl (Or.inl rfl) (Nat.le_of_ble_eq_true rfl) (s_R_sunkTo Γ a1 (q1.1 97 (ii 45).toNatClampNeg) q1 _ hq6) ?_
      show Ev Γ m_R_loses 58 [some (vr 12 0 80), some (vi a1)] [vi q2, vi ((ii 14) + a1), vr 20 227 98] q1 r h'
      obtain ⟨hg7, hx⟩ := gd hx
      obtain ⟨hg8, hx⟩ := gd hx
      refine Ev.blk (pc' := 71) (lv' := [some (vr 12 0 80), some (vi a1)]) (st' := [vi ((wI q1 98 ((ii 14) + a1).toNatClampNeg q2).1 97 (ii 45).toNatClampNeg), vr 20 227 97, vr 12 0 80]) (h' := (wI q1 98 ((ii 14) + a1).toNatClampNeg q2)) 33 8 (Nat.le_of_ble_eq_true rfl) tk_R_loses rfl rfl ⟨hg7, trivial, trivial, trivial, trivial, trivial, trivial, hg8, trivial⟩ ?_
      obtain ⟨q3, hq9, hx⟩ := bd hx
      refine Ev.callV (ν := m_R_bringsAll) (av := [vr 20 227 97, vi ((wI q1 98 ((ii 14) + a1).toNatClampNeg q2).1 97 (ii 45).toNatClampNeg)]) (rest := []) (r1 := some (vi q3)) (h1 := (wI q1 98 ((ii 14) + a1).toNatClampNeg q2)) (ci := 12) (nn := 0) (o := 80) 41 2 tk_R_loses rfl bb_R_bringsAll vv_R_bringsAll lk_12_430 (by decide) rfl rfl (Or.inl rfl) (Nat.le_of_ble_eq_true rfl) (s_R_bringsAll Γ 227 97 ((wI q1 98 ((ii 14) + a1).toNatClampNeg q2).1 97 (ii 45).toNatClampNeg) (wI q1 98 ((ii 14) + a1).toNatClampNeg q2) _ hq9) ?_
      show Ev Γ m_R_loses 74 [some (vr 12 0 80), some (vi a1)] [vi q3] (wI q1 98 ((ii 14) + a1).toNatClampNeg q2) r h'
      obtain ⟨hg10, hx⟩ := gd hx
      refine Ev.blk (pc' := 86) (lv' := [some (vr 12 0 80), some (vi a1)]) (st' := [vi ((wI q1 98 ((ii 14) + a1).toNatClampNeg q2).1 97 (ii 45).toNatClampNeg), vr 20 227 98, vr 12 0 80, vi q3]) (h' := (wI q1 98 ((ii 14) + a1).toNatClampNeg q2)) 42 7 (Nat.le_of_ble_eq_true rfl) tk_R_loses rfl rfl ⟨trivial, trivial, trivial, trivial, trivial, trivial, hg10, trivial⟩ ?_
      obtain ⟨q4, hq11, hx⟩ := bd hx
      refine Ev.callV (ν := m_R_bringsAll) (av := [vr 20 227 98, vi ((wI q1 98 ((ii 14) + a1).toNatClampNeg q2).1 97 (ii 45).toNatClampNeg)]) (rest := [vi q3]) (r1 := some (vi q4)) (h1 := (wI q1 98 ((ii 14) + a1).toNatClampNeg q2)) (ci := 12) (nn := 0) (o := 80) 49 2 tk_R_loses rfl bb_R_bringsAll vv_R_bringsAll lk_12_430 (by decide) rfl rfl (Or.inl rfl) (Nat.le_of_ble_eq_true rfl) (s_R_bringsAll Γ 227 98 ((wI q1 98 ((ii 14) + a1).toNatClampNeg q2).1 97 (ii 45).toNatClampNeg) (wI q1 98 ((ii 14) + a1).toNatClampNeg q2) _ hq11) ?_
      show Ev Γ m_R_loses 89 [some (vr 12 0 80), some (vi a1)] [vi q4, vi q3] (wI q1 98 ((ii 14) + a1).toNatClampNeg q2) r h'
      obtain ⟨hg12, hx⟩ := gd hx
      refine Ev.blk (pc' := 103) (lv' := [some (vr 12 0 80), some (vi a1)]) (st' := [vi ((wI q1 98 ((ii 14) + a1).toNatClampNeg q2).1 97 (ii 45).toNatClampNeg), vi a1, vr 20 227 98, vr 12 0 80, vi (q3 - q4)]) (h' := (wI q1 98 ((ii 14) + a1).toNatClampNeg q2)) 50 9 (Nat.le_of_ble_eq_true rfl) tk_R_loses rfl rfl ⟨trivial, trivial, trivial, trivial, trivial, trivial, trivial, trivial, hg12, trivial⟩ ?_
      obtain ⟨q5, hq13, hx⟩ := bd hx
      refine Ev.callV (ν := m_R_bringsOf) (av := [vr 20 227 98, vi a1, vi ((wI q1 98 ((ii 14) + a1).toNatClampNeg q2).1 97 (ii 45).toNatClampNeg)]) (rest := [vi (q3 - q4)]) (r1 := some (vi q5)) (h1 := (wI q1 98 ((ii 14) + a1).toNatClampNeg q2)) (ci := 12) (nn := 0) (o := 80) 59 3 tk_R_loses rfl bb_R_bringsOf vv_R_bringsOf lk_12_427 (by decide) rfl rfl (Or.inl rfl) (Nat.le_of_ble_eq_true rfl) (s_R_bringsOf Γ 227 98 a1 ((wI q1 98 ((ii 14) + a1).toNatClampNeg q2).1 97 (ii 45).toNatClampNeg) (wI q1 98 ((ii 14) + a1).toNatClampNeg q2) _ hq13) ?_
      show Ev Γ m_R_loses 106 [some (vr 12 0 80), some (vi a1)] [vi q5, vi (q3 - q4)] (wI q1 98 ((ii 14) + a1).toNatClampNeg q2) r h'
      refine Ev.blk (pc' := 107) (lv' := [some (vr 12 0 80), some (vi a1)]) (st' := [vi ((q3 - q4) + q5)]) (h' := (wI q1 98 ((ii 14) + a1).toNatClampNeg q2)) 60 1 (Nat.le_of_ble_eq_true rfl) tk_R_loses rfl rfl ⟨trivial, trivial⟩ ?_
      obtain rfl := Option.some.inj hx
      obtain ⟨rfl, rfl⟩ := hP
      exact Ev.iret 61 tk_R_loses rfl rfl
    · replace hx := ia hc3 hx
      refine Ev.blk (pc' := 26) (lv' := [some (vr 12 0 80), some (vi a1)]) (st' := [vi (ii (-1))]) (h' := (wI h 80 0 (ii 0))) 14 1 (Nat.le_of_ble_eq_true rfl) tk_R_loses rfl rfl ⟨trivial, trivial⟩ ?_
      obtain rfl := Option.some.inj hx
      obtain ⟨rfl, rfl⟩ := hP
      exact Ev.iret 15 tk_R_loses rfl rfl
set_option maxRecDepth 4000 in
theorem l_R_richest_L9 (Γ : AG) : ∀ (n : Nat) (v1 : Int32) (v2 : Int32) (h : AH) (x : Int32 × AH), R_richest_L9 n v1 v2 h = some x → ∀ (r : Option AV) (h' : AH), r = some (vi x.1) ∧ h' = x.2 → Ev Γ m_R_richest 9 [some (vr 12 0 80), some (vi v1), some (vi v2)] [] h r h' := by
  intro n
  induction n with
  | zero => intro v1 v2 h x hx; cases hx
  | succ n ih =>
    intro v1 v2 h x hx r h' hP
    replace hx : R_richest_L9_b (R_richest_L9 n) v1 v2 h = some x := hx
    unfold R_richest_L9_b at hx
    refine Ev.blk (pc' := 14) (lv' := [some (vr 12 0 80), some (vi v1), some (vi v2)]) (st' := [vi (h.1 80 33), vi v2]) (h' := h) 7 3 (Nat.le_of_ble_eq_true rfl) tk_R_richest rfl rfl ⟨trivial, trivial, trivial, trivial⟩ ?_
    refine Ev.icmp_ge 10 57 tk_R_richest rfl (by decide) (fun hc1 => ?_) (fun hc1 => ?_)
    · replace hx := ip hc1 hx
      refine Ev.blk (pc' := 58) (lv' := [some (vr 12 0 80), some (vi v1), some (vi v2)]) (st' := [vi v1]) (h' := h) 37 1 (Nat.le_of_ble_eq_true rfl) tk_R_richest rfl rfl ⟨trivial, trivial⟩ ?_
      obtain rfl := Option.some.inj hx
      obtain ⟨rfl, rfl⟩ := hP
      exact Ev.iret 38 tk_R_richest rfl rfl
    · replace hx := ia hc1 hx
      obtain ⟨hg2, hx⟩ := gd hx
      refine Ev.blk (pc' := 29) (lv' := [some (vr 12 0 80), some (vi v1), some (vi v2)]) (st' := [vi (ii (-1)), vi v1, vi (h.1 97 (((ii 2) * v2) + (ii 1)).toNatClampNeg)]) (h' := h) 11 10 (Nat.le_of_ble_eq_true rfl) tk_R_richest rfl rfl ⟨trivial, trivial, trivial, trivial, trivial, trivial, trivial, hg2, trivial, trivial, trivial⟩ ?_
      obtain ⟨q1, hq3, hx⟩ := bd hx
      have K4 : Ev Γ m_R_richest 46 [some (vr 12 0 80), some (vi v1), some (vi v2)] [vi q1, vi (h.1 97 (((ii 2) * v2) + (ii 1)).toNatClampNeg)] h r h' := by
        have K5 : ∀ v5_0 : Int32, v5_0 = (if (h.1 97 (((ii 2) * v2) + (ii 1)).toNatClampNeg) ≤ q1 then v1 else v2) → Ev Γ m_R_richest 51 [some (vr 12 0 80), some (vi v5_0), some (vi v2)] [] h r h' := by
          intro v5_0 e6
          subst e6
          refine Ev.blk (pc' := 9) (lv' := [some (vr 12 0 80), some (vi (if (h.1 97 (((ii 2) * v2) + (ii 1)).toNatClampNeg) ≤ q1 then v1 else v2)), some (vi (v2 + ii 1))]) (st' := []) (h' := h) 35 2 (Nat.le_of_ble_eq_true rfl) tk_R_richest rfl rfl ⟨trivial, trivial, trivial⟩ ?_
          exact Ev.msk [true, true, true] (ih (if (h.1 97 (((ii 2) * v2) + (ii 1)).toNatClampNeg) ≤ q1 then v1 else v2) (v2 + ii 1) h _ hx r h' hP)
        refine Ev.icmp_le 32 51 tk_R_richest rfl (by decide) (fun hc7 => ?_) (fun hc7 => ?_)
        · exact Ev.msk [true, true, true] (K5 _ (by first | rfl | simp only [if_pos hc7]))
        · refine Ev.blk (pc' := 51) (lv' := [some (vr 12 0 80), some (vi v2), some (vi v2)]) (st' := []) (h' := h) 33 2 (Nat.le_of_ble_eq_true rfl) tk_R_richest rfl rfl ⟨trivial, trivial, trivial⟩ ?_
          exact Ev.msk [true, true, true] (K5 _ (by first | rfl | simp only [if_neg hc7]))
      clear hx
      refine Ev.icmp_ne 21 36 tk_R_richest rfl (by decide) (fun hc8 => ?_) (fun hc8 => ?_)
      · replace hq3 := ia hc8 hq3
        obtain ⟨hg9, hq3⟩ := gd hq3
        refine Ev.blk (pc' := 46) (lv' := [some (vr 12 0 80), some (vi v1), some (vi v2)]) (st' := [vi (h.1 97 (((ii 2) * v1) + (ii 1)).toNatClampNeg), vi (h.1 97 (((ii 2) * v2) + (ii 1)).toNatClampNeg)]) (h' := h) 24 8 (Nat.le_of_ble_eq_true rfl) tk_R_richest rfl rfl ⟨trivial, trivial, trivial, trivial, trivial, trivial, trivial, hg9, trivial⟩ ?_
        obtain rfl := Option.some.inj hq3
        exact Ev.msk [true, true, true] K4
      · replace hq3 := ip hc8 hq3
        refine Ev.blk (pc' := 46) (lv' := [some (vr 12 0 80), some (vi v1), some (vi v2)]) (st' := [vi (ii 0), vi (h.1 97 (((ii 2) * v2) + (ii 1)).toNatClampNeg)]) (h' := h) 22 2 (Nat.le_of_ble_eq_true rfl) tk_R_richest rfl rfl ⟨trivial, trivial, trivial⟩ ?_
        obtain rfl := Option.some.inj hq3
        exact Ev.msk [true, true, true] K4
set_option maxRecDepth 4000 in
theorem s_R_richest (Γ : AG) (h : AH) (x : Int32 × AH) (hx : f_R_richest  h = some x) : MetA Γ m_R_richest [vr 12 0 80] h (some (vi x.1)) x.2 := by
  refine Ev.met rfl rfl (Nat.le_of_ble_eq_true rfl) ?_
  show Ev Γ m_R_richest 0 [some (vr 12 0 80), none, none] [] h _ _
  obtain ⟨r, hr⟩ : ∃ r : Option AV, r = some (vi x.1) := ⟨_, rfl⟩
  obtain ⟨h', hh⟩ : ∃ h' : AH, h' = x.2 := ⟨_, rfl⟩
  have hP : r = some (vi x.1) ∧ h' = x.2 := ⟨hr, hh⟩
  suffices hS : Ev Γ m_R_richest 0 [some (vr 12 0 80), none, none] [] h r h' by rw [hr, hh] at hS; exact hS
  clear hr hh
  unfold f_R_richest at hx
  refine Ev.blk (pc' := 9) (lv' := [some (vr 12 0 80), some (vi (ii (-1))), some (vi (ii 0))]) (st' := []) (h' := (wI h 80 0 (ii 0))) 0 7 (Nat.le_of_ble_eq_true rfl) tk_R_richest rfl rfl ⟨trivial, trivial, trivial, trivial, trivial, trivial, trivial, trivial⟩ ?_
  refine Ev.msk [true, true, true] ?_
  show Ev Γ m_R_richest 9 [some (vr 12 0 80), some (vi (ii (-1))), some (vi (ii 0))] [] (wI h 80 0 (ii 0)) r h'
  exact l_R_richest_L9 Γ FU (ii (-1)) (ii 0) (wI h 80 0 (ii 0)) _ hx r h' hP
set_option maxRecDepth 4000 in
theorem l_R_driest_L18 (Γ : AG) : ∀ (n : Nat) (v1 : Int32) (v2 : Int32) (h : AH) (x : Int32 × AH), R_driest_L18 n v1 v2 h = some x → ∀ (r : Option AV) (h' : AH), r = some (vi x.1) ∧ h' = x.2 → Ev Γ m_R_driest 18 [some (vr 12 0 80), some (vi v1), some (vi v2)] [] h r h' := by
  intro n
  induction n with
  | zero => intro v1 v2 h x hx; cases hx
  | succ n ih =>
    intro v1 v2 h x hx r h' hP
    replace hx : R_driest_L18_b (R_driest_L18 n) v1 v2 h = some x := hx
    unfold R_driest_L18_b at hx
    refine Ev.blk (pc' := 20) (lv' := [some (vr 12 0 80), some (vi v1), some (vi v2)]) (st' := [vi (ii 4), vi v2]) (h' := h) 12 2 (Nat.le_of_ble_eq_true rfl) tk_R_driest rfl rfl ⟨trivial, trivial, trivial⟩ ?_
    refine Ev.icmp_ge 14 56 tk_R_driest rfl (by decide) (fun hc1 => ?_) (fun hc1 => ?_)
    · replace hx := ip hc1 hx
      refine Ev.blk (pc' := 57) (lv' := [some (vr 12 0 80), some (vi v1), some (vi v2)]) (st' := [vi v1]) (h' := h) 32 1 (Nat.le_of_ble_eq_true rfl) tk_R_driest rfl rfl ⟨trivial, trivial⟩ ?_
      obtain rfl := Option.some.inj hx
      obtain ⟨rfl, rfl⟩ := hP
      exact Ev.iret 33 tk_R_driest rfl rfl
    · replace hx := ia hc1 hx
      refine Ev.blk (pc' := 29) (lv' := [some (vr 12 0 80), some (vi v1), some (vi v2)]) (st' := [vi v2, vr 20 227 97, vr 12 0 80]) (h' := h) 15 4 (Nat.le_of_ble_eq_true rfl) tk_R_driest rfl rfl ⟨trivial, trivial, trivial, trivial, trivial⟩ ?_
      obtain ⟨q1, hq2, hx⟩ := bd hx
      refine Ev.callV (ν := m_R_bringsAll) (av := [vr 20 227 97, vi v2]) (rest := []) (r1 := some (vi q1)) (h1 := h) (ci := 12) (nn := 0) (o := 80) 19 2 tk_R_driest rfl bb_R_bringsAll vv_R_bringsAll lk_12_430 (by decide) rfl rfl (Or.inl rfl) (Nat.le_of_ble_eq_true rfl) (s_R_bringsAll Γ 227 97 v2 h _ hq2) ?_
      show Ev Γ m_R_driest 32 [some (vr 12 0 80), some (vi v1), some (vi v2)] [vi q1] h r h'
      refine Ev.blk (pc' := 38) (lv' := [some (vr 12 0 80), some (vi v1), some (vi v2)]) (st' := [vi v1, vr 20 227 97, vr 12 0 80, vi q1]) (h' := h) 20 4 (Nat.le_of_ble_eq_true rfl) tk_R_driest rfl rfl ⟨trivial, trivial, trivial, trivial, trivial⟩ ?_
      obtain ⟨q2, hq3, hx⟩ := bd hx
      refine Ev.callV (ν := m_R_bringsAll) (av := [vr 20 227 97, vi v1]) (rest := [vi q1]) (r1 := some (vi q2)) (h1 := h) (ci := 12) (nn := 0) (o := 80) 24 2 tk_R_driest rfl bb_R_bringsAll vv_R_bringsAll lk_12_430 (by decide) rfl rfl (Or.inl rfl) (Nat.le_of_ble_eq_true rfl) (s_R_bringsAll Γ 227 97 v1 h _ hq3) ?_
      show Ev Γ m_R_driest 41 [some (vr 12 0 80), some (vi v1), some (vi v2)] [vi q2, vi q1] h r h'
      have K4 : ∀ v4_0 : Int32, v4_0 = (if q2 ≤ q1 then v1 else v2) → Ev Γ m_R_driest 49 [some (vr 12 0 80), none, some (vi v2)] [vi v4_0] h r h' := by
        intro v4_0 e5
        subst e5
        refine Ev.blk (pc' := 18) (lv' := [some (vr 12 0 80), some (vi (if q2 ≤ q1 then v1 else v2)), some (vi (v2 + ii 1))]) (st' := []) (h' := h) 29 3 (Nat.le_of_ble_eq_true rfl) tk_R_driest rfl rfl ⟨trivial, trivial, trivial, trivial⟩ ?_
        exact Ev.msk [true, true, true] (ih (if q2 ≤ q1 then v1 else v2) (v2 + ii 1) h _ hx r h' hP)
      refine Ev.icmp_ge 25 48 tk_R_driest rfl (by decide) (fun hc6 => ?_) (fun hc6 => ?_)
      · refine Ev.blk (pc' := 49) (lv' := [some (vr 12 0 80), some (vi v1), some (vi v2)]) (st' := [vi v1]) (h' := h) 28 1 (Nat.le_of_ble_eq_true rfl) tk_R_driest rfl rfl ⟨trivial, trivial⟩ ?_
        exact Ev.msk [true, false, true] (K4 _ (by first | rfl | simp only [if_pos hc6]))
      · refine Ev.blk (pc' := 49) (lv' := [some (vr 12 0 80), some (vi v1), some (vi v2)]) (st' := [vi v2]) (h' := h) 26 2 (Nat.le_of_ble_eq_true rfl) tk_R_driest rfl rfl ⟨trivial, trivial, trivial⟩ ?_
        exact Ev.msk [true, false, true] (K4 _ (by first | rfl | simp only [if_neg hc6]))
set_option maxRecDepth 4000 in
theorem s_R_driest (Γ : AG) (h : AH) (x : Int32 × AH) (hx : f_R_driest  h = some x) : MetA Γ m_R_driest [vr 12 0 80] h (some (vi x.1)) x.2 := by
  refine Ev.met rfl rfl (Nat.le_of_ble_eq_true rfl) ?_
  show Ev Γ m_R_driest 0 [some (vr 12 0 80), none, none] [] h _ _
  obtain ⟨r, hr⟩ : ∃ r : Option AV, r = some (vi x.1) := ⟨_, rfl⟩
  obtain ⟨h', hh⟩ : ∃ h' : AH, h' = x.2 := ⟨_, rfl⟩
  have hP : r = some (vi x.1) ∧ h' = x.2 := ⟨hr, hh⟩
  suffices hS : Ev Γ m_R_driest 0 [some (vr 12 0 80), none, none] [] h r h' by rw [hr, hh] at hS; exact hS
  clear hr hh
  unfold f_R_driest at hx
  refine Ev.blk (pc' := 9) (lv' := [some (vr 12 0 80), none, none]) (st' := [vi ((wI h 80 0 (ii 0)).1 80 34)]) (h' := (wI h 80 0 (ii 0))) 0 5 (Nat.le_of_ble_eq_true rfl) tk_R_driest rfl rfl ⟨trivial, trivial, trivial, trivial, trivial, trivial⟩ ?_
  refine Ev.if_ne 5 14 tk_R_driest rfl (by decide) (fun hc1 => ?_) (fun hc1 => ?_)
  · replace hx := ia hc1 hx
    refine Ev.blk (pc' := 18) (lv' := [some (vr 12 0 80), some (vi (ii 0)), some (vi (ii 1))]) (st' := []) (h' := (wI h 80 0 (ii 0))) 8 4 (Nat.le_of_ble_eq_true rfl) tk_R_driest rfl rfl ⟨trivial, trivial, trivial, trivial, trivial⟩ ?_
    refine Ev.msk [true, true, true] ?_
    show Ev Γ m_R_driest 18 [some (vr 12 0 80), some (vi (ii 0)), some (vi (ii 1))] [] (wI h 80 0 (ii 0)) r h'
    exact l_R_driest_L18 Γ FU (ii 0) (ii 1) (wI h 80 0 (ii 0)) _ hx r h' hP
  · replace hx := ip hc1 hx
    refine Ev.blk (pc' := 13) (lv' := [some (vr 12 0 80), none, none]) (st' := [vi (ii (-1))]) (h' := (wI h 80 0 (ii 0))) 6 1 (Nat.le_of_ble_eq_true rfl) tk_R_driest rfl rfl ⟨trivial, trivial⟩ ?_
    obtain rfl := Option.some.inj hx
    obtain ⟨rfl, rfl⟩ := hP
    exact Ev.iret 7 tk_R_driest rfl rfl
set_option maxRecDepth 4000 in
theorem s_R_image (Γ : AG) (h : AH) (x : Int32 × AH) (hx : f_R_image  h = some x) : MetA Γ m_R_image [vr 12 0 80] h (some (vi x.1)) x.2 := by
  refine Ev.met rfl rfl (Nat.le_of_ble_eq_true rfl) ?_
  show Ev Γ m_R_image 0 [some (vr 12 0 80)] [] h _ _
  obtain ⟨r, hr⟩ : ∃ r : Option AV, r = some (vi x.1) := ⟨_, rfl⟩
  obtain ⟨h', hh⟩ : ∃ h' : AH, h' = x.2 := ⟨_, rfl⟩
  have hP : r = some (vi x.1) ∧ h' = x.2 := ⟨hr, hh⟩
  suffices hS : Ev Γ m_R_image 0 [some (vr 12 0 80)] [] h r h' by rw [hr, hh] at hS; exact hS
  clear hr hh
  unfold f_R_image at hx
  refine Ev.blk (pc' := 9) (lv' := [some (vr 12 0 80)]) (st' := [vi ((wI h 80 0 (ii 0)).1 80 34)]) (h' := (wI h 80 0 (ii 0))) 0 5 (Nat.le_of_ble_eq_true rfl) tk_R_image rfl rfl ⟨trivial, trivial, trivial, trivial, trivial, trivial⟩ ?_
  refine Ev.if_ne 5 14 tk_R_image rfl (by decide) (fun hc1 => ?_) (fun hc1 => ?_)
  · replace hx := ia hc1 hx
    refine Ev.blk (pc' := 22) (lv' := [some (vr 12 0 80)]) (st' := [vr 20 227 104, vr 20 227 97]) (h' := (wI h 80 0 (ii 0))) 8 4 (Nat.le_of_ble_eq_true rfl) tk_R_image rfl rfl ⟨trivial, trivial, trivial, trivial, trivial⟩ ?_
    obtain ⟨q1, hq2, hx⟩ := bd hx
    refine Ev.callS (ν := m_R_copy) (av := [vr 20 227 97, vr 20 227 104]) (rest := []) (r1 := none) (h1 := q1) 12 2 tk_R_image rfl bb_R_copy vv_R_copy lk_12_331 (by decide) rfl rfl (Nat.le_of_ble_eq_true rfl) (s_R_copy Γ 227 97 227 104 (wI h 80 0 (ii 0)) _ hq2) ?_
    show Ev Γ m_R_image 25 [some (vr 12 0 80)] [] q1 r h'
    obtain ⟨hg3, hx⟩ := gd hx
    refine Ev.blk (pc' := 37) (lv' := [some (vr 12 0 80)]) (st' := [vi ((wI q1 80 55 (ii 1)).1 97 (ii 45).toNatClampNeg)]) (h' := (wI q1 80 55 (ii 1))) 13 7 (Nat.le_of_ble_eq_true rfl) tk_R_image rfl rfl ⟨trivial, trivial, (by decide), trivial, trivial, trivial, hg3, trivial⟩ ?_
    obtain rfl := Option.some.inj hx
    obtain ⟨rfl, rfl⟩ := hP
    exact Ev.iret 20 tk_R_image rfl rfl
  · replace hx := ip hc1 hx
    refine Ev.blk (pc' := 13) (lv' := [some (vr 12 0 80)]) (st' := [vi (ii (-1))]) (h' := (wI h 80 0 (ii 0))) 6 1 (Nat.le_of_ble_eq_true rfl) tk_R_image rfl rfl ⟨trivial, trivial⟩ ?_
    obtain rfl := Option.some.inj hx
    obtain ⟨rfl, rfl⟩ := hP
    exact Ev.iret 7 tk_R_image rfl rfl
set_option maxRecDepth 4000 in
theorem s_R_back (Γ : AG) (h : AH) (x : Int32 × AH) (hx : f_R_back  h = some x) : MetA Γ m_R_back [vr 12 0 80] h (some (vi x.1)) x.2 := by
  refine Ev.met rfl rfl (Nat.le_of_ble_eq_true rfl) ?_
  show Ev Γ m_R_back 0 [some (vr 12 0 80)] [] h _ _
  obtain ⟨r, hr⟩ : ∃ r : Option AV, r = some (vi x.1) := ⟨_, rfl⟩
  obtain ⟨h', hh⟩ : ∃ h' : AH, h' = x.2 := ⟨_, rfl⟩
  have hP : r = some (vi x.1) ∧ h' = x.2 := ⟨hr, hh⟩
  suffices hS : Ev Γ m_R_back 0 [some (vr 12 0 80)] [] h r h' by rw [hr, hh] at hS; exact hS
  clear hr hh
  unfold f_R_back at hx
  refine Ev.blk (pc' := 9) (lv' := [some (vr 12 0 80)]) (st' := [vi ((wI h 80 0 (ii 0)).1 80 55)]) (h' := (wI h 80 0 (ii 0))) 0 5 (Nat.le_of_ble_eq_true rfl) tk_R_back rfl rfl ⟨trivial, trivial, trivial, trivial, trivial, trivial⟩ ?_
  refine Ev.if_ne 5 14 tk_R_back rfl (by decide) (fun hc1 => ?_) (fun hc1 => ?_)
  · replace hx := ia hc1 hx
    refine Ev.blk (pc' := 22) (lv' := [some (vr 12 0 80)]) (st' := [vr 20 227 97, vr 20 227 104]) (h' := (wI h 80 0 (ii 0))) 8 4 (Nat.le_of_ble_eq_true rfl) tk_R_back rfl rfl ⟨trivial, trivial, trivial, trivial, trivial⟩ ?_
    obtain ⟨q1, hq2, hx⟩ := bd hx
    refine Ev.callS (ν := m_R_copy) (av := [vr 20 227 104, vr 20 227 97]) (rest := []) (r1 := none) (h1 := q1) 12 2 tk_R_back rfl bb_R_copy vv_R_copy lk_12_331 (by decide) rfl rfl (Nat.le_of_ble_eq_true rfl) (s_R_copy Γ 227 104 227 97 (wI h 80 0 (ii 0)) _ hq2) ?_
    show Ev Γ m_R_back 25 [some (vr 12 0 80)] [] q1 r h'
    obtain ⟨hg3, hx⟩ := gd hx
    refine Ev.blk (pc' := 37) (lv' := [some (vr 12 0 80)]) (st' := [vi ((wI q1 80 45 (ii 0)).1 97 (ii 45).toNatClampNeg)]) (h' := (wI q1 80 45 (ii 0))) 13 7 (Nat.le_of_ble_eq_true rfl) tk_R_back rfl rfl ⟨trivial, trivial, trivial, trivial, trivial, trivial, hg3, trivial⟩ ?_
    obtain rfl := Option.some.inj hx
    obtain ⟨rfl, rfl⟩ := hP
    exact Ev.iret 20 tk_R_back rfl rfl
  · replace hx := ip hc1 hx
    refine Ev.blk (pc' := 13) (lv' := [some (vr 12 0 80)]) (st' := [vi (ii (-1))]) (h' := (wI h 80 0 (ii 0))) 6 1 (Nat.le_of_ble_eq_true rfl) tk_R_back rfl rfl ⟨trivial, trivial⟩ ?_
    obtain rfl := Option.some.inj hx
    obtain ⟨rfl, rfl⟩ := hP
    exact Ev.iret 7 tk_R_back rfl rfl
set_option maxRecDepth 4000 in
theorem l_R_count_L166 (Γ : AG) : ∀ (n : Nat) (v3 : Int32) (v4 : Int32) (h : AH) (x : Int32 × AH), R_count_L166 n v3 v4 h = some x → ∀ (r : Option AV) (h' : AH), r = some (vi x.1) ∧ h' = x.2 → Ev Γ m_R_count 166 [some (vr 12 0 80), none, none, some (vi v3), some (vi v4)] [] h r h' := by
  intro n
  induction n with
  | zero => intro v3 v4 h x hx; cases hx
  | succ n ih =>
    intro v3 v4 h x hx r h' hP
    replace hx : R_count_L166_b (R_count_L166 n) v3 v4 h = some x := hx
    unfold R_count_L166_b at hx
    refine Ev.blk (pc' := 172) (lv' := [some (vr 12 0 80), none, none, some (vi v3), some (vi v4)]) (st' := [vi (h.1 80 33), vi v4]) (h' := h) 62 3 (Nat.le_of_ble_eq_true rfl) tk_R_count rfl rfl ⟨trivial, trivial, trivial, trivial⟩ ?_
    refine Ev.icmp_ge 65 195 tk_R_count rfl (by decide) (fun hc1 => ?_) (fun hc1 => ?_)
    · replace hx := ip hc1 hx
      refine Ev.blk (pc' := 196) (lv' := [some (vr 12 0 80), none, none, some (vi v3), some (vi v4)]) (st' := [vi v3]) (h' := h) 79 1 (Nat.le_of_ble_eq_true rfl) tk_R_count rfl rfl ⟨trivial, trivial⟩ ?_
      obtain rfl := Option.some.inj hx
      obtain ⟨rfl, rfl⟩ := hP
      exact Ev.iret 80 tk_R_count rfl rfl
    · replace hx := ia hc1 hx
      obtain ⟨hg2, hx⟩ := gd hx
      refine Ev.blk (pc' := 166) (lv' := [some (vr 12 0 80), none, none, some (vi (v3 + (h.1 97 (((ii 2) * v4) + (ii 1)).toNatClampNeg))), some (vi (v4 + ii 1))]) (st' := []) (h' := h) 66 13 (Nat.le_of_ble_eq_true rfl) tk_R_count rfl rfl ⟨trivial, trivial, trivial, trivial, trivial, trivial, trivial, trivial, hg2, trivial, trivial, trivial, trivial, trivial⟩ ?_
      exact Ev.msk [true, false, false, true, true] (ih (v3 + (h.1 97 (((ii 2) * v4) + (ii 1)).toNatClampNeg)) (v4 + ii 1) h _ hx r h' hP)
set_option maxRecDepth 4000 in
theorem l_R_count_L123 (Γ : AG) : ∀ (n : Nat) (v2 : Int32) (v3 : Int32) (h : AH) (x : Int32 × AH), R_count_L123 n v2 v3 h = some x → ∀ (r : Option AV) (h' : AH), r = some (vi x.1) ∧ h' = x.2 → Ev Γ m_R_count 123 [some (vr 12 0 80), none, some (vi v2), some (vi v3), none] [] h r h' := by
  intro n
  induction n with
  | zero => intro v2 v3 h x hx; cases hx
  | succ n ih =>
    intro v2 v3 h x hx r h' hP
    replace hx : R_count_L123_b (R_count_L123 n) v2 v3 h = some x := hx
    unfold R_count_L123_b at hx
    refine Ev.blk (pc' := 128) (lv' := [some (vr 12 0 80), none, some (vi v2), some (vi v3), none]) (st' := [vi (h.1 80 34), vi v3]) (h' := h) 35 3 (Nat.le_of_ble_eq_true rfl) tk_R_count rfl rfl ⟨trivial, trivial, trivial, trivial⟩ ?_
    refine Ev.icmp_ge 38 159 tk_R_count rfl (by decide) (fun hc1 => ?_) (fun hc1 => ?_)
    · replace hx := ip hc1 hx
      refine Ev.blk (pc' := 160) (lv' := [some (vr 12 0 80), none, some (vi v2), some (vi v3), none]) (st' := [vi v2]) (h' := h) 56 1 (Nat.le_of_ble_eq_true rfl) tk_R_count rfl rfl ⟨trivial, trivial⟩ ?_
      obtain rfl := Option.some.inj hx
      obtain ⟨rfl, rfl⟩ := hP
      exact Ev.iret 57 tk_R_count rfl rfl
    · replace hx := ia hc1 hx
      obtain ⟨hg2, hx⟩ := gd hx
      refine Ev.blk (pc' := 141) (lv' := [some (vr 12 0 80), none, some (vi v2), some (vi v3), none]) (st' := [vi (h.1 97 ((ii 14) + v3).toNatClampNeg), vi v2]) (h' := h) 39 7 (Nat.le_of_ble_eq_true rfl) tk_R_count rfl rfl ⟨trivial, trivial, trivial, trivial, trivial, trivial, hg2, trivial⟩ ?_
      have K3 : ∀ v3_0 : Int32, v3_0 = (if (h.1 97 ((ii 14) + v3).toNatClampNeg) ≤ 0 then (ii 0) else (shlI (ii 1) v3)) → Ev Γ m_R_count 151 [some (vr 12 0 80), none, none, some (vi v3), none] [vi v3_0, vi v2] h r h' := by
        intro v3_0 e4
        subst e4
        refine Ev.blk (pc' := 123) (lv' := [some (vr 12 0 80), none, some (vi (v2 ||| (if (h.1 97 ((ii 14) + v3).toNatClampNeg) ≤ 0 then (ii 0) else (shlI (ii 1) v3)))), some (vi (v3 + ii 1)), none]) (st' := []) (h' := h) 52 4 (Nat.le_of_ble_eq_true rfl) tk_R_count rfl rfl ⟨trivial, trivial, trivial, trivial, trivial⟩ ?_
        exact Ev.msk [true, false, true, true, false] (ih (v2 ||| (if (h.1 97 ((ii 14) + v3).toNatClampNeg) ≤ 0 then (ii 0) else (shlI (ii 1) v3))) (v3 + ii 1) h _ hx r h' hP)
      refine Ev.if_le 46 150 tk_R_count rfl (by decide) (fun hc5 => ?_) (fun hc5 => ?_)
      · refine Ev.blk (pc' := 151) (lv' := [some (vr 12 0 80), none, some (vi v2), some (vi v3), none]) (st' := [vi (ii 0), vi v2]) (h' := h) 51 1 (Nat.le_of_ble_eq_true rfl) tk_R_count rfl rfl ⟨trivial, trivial⟩ ?_
        exact Ev.msk [true, false, false, true, false] (K3 _ (by first | rfl | simp only [if_pos hc5]))
      · refine Ev.blk (pc' := 151) (lv' := [some (vr 12 0 80), none, some (vi v2), some (vi v3), none]) (st' := [vi (shlI (ii 1) v3), vi v2]) (h' := h) 47 4 (Nat.le_of_ble_eq_true rfl) tk_R_count rfl rfl ⟨trivial, trivial, trivial, trivial, trivial⟩ ?_
        exact Ev.msk [true, false, false, true, false] (K3 _ (by first | rfl | simp only [if_neg hc5]))
set_option maxRecDepth 4000 in
theorem s_R_count (Γ : AG) (a1 : Int32) (h : AH) (x : Int32 × AH) (hx : f_R_count a1 h = some x) : MetA Γ m_R_count [vr 12 0 80, vi a1] h (some (vi x.1)) x.2 := by
  refine Ev.met rfl rfl (Nat.le_of_ble_eq_true rfl) ?_
  show Ev Γ m_R_count 0 [some (vr 12 0 80), some (vi a1), none, none, none] [] h _ _
  obtain ⟨r, hr⟩ : ∃ r : Option AV, r = some (vi x.1) := ⟨_, rfl⟩
  obtain ⟨h', hh⟩ : ∃ h' : AH, h' = x.2 := ⟨_, rfl⟩
  have hP : r = some (vi x.1) ∧ h' = x.2 := ⟨hr, hh⟩
  suffices hS : Ev Γ m_R_count 0 [some (vr 12 0 80), some (vi a1), none, none, none] [] h r h' by rw [hr, hh] at hS; exact hS
  clear hr hh
  unfold f_R_count at hx
  refine Ev.blk (pc' := 6) (lv' := [some (vr 12 0 80), some (vi a1), none, none, none]) (st' := [vi a1]) (h' := (wI h 80 0 (ii 0))) 0 4 (Nat.le_of_ble_eq_true rfl) tk_R_count rfl rfl ⟨trivial, trivial, trivial, trivial, trivial⟩ ?_
  by_cases hc1 : a1 = ii 0
  · replace hx := ip hc1 hx
    refine Ev.tabIn (off := 70) 4 76 0 tk_R_count rfl hc1 (by decide) (by decide) ?_
    refine Ev.blk (pc' := 80) (lv' := [some (vr 12 0 80), some (vi a1), none, none, none]) (st' := [vi ((wI h 80 0 (ii 0)).1 80 34)]) (h' := (wI h 80 0 (ii 0))) 5 2 (Nat.le_of_ble_eq_true rfl) tk_R_count rfl rfl ⟨trivial, trivial, trivial⟩ ?_
    obtain rfl := Option.some.inj hx
    obtain ⟨rfl, rfl⟩ := hP
    exact Ev.iret 7 tk_R_count rfl rfl
  replace hx := ia hc1 hx
  by_cases hc2 : a1 = ii 1
  · replace hx := ip hc2 hx
    refine Ev.tabIn (off := 75) 4 81 1 tk_R_count rfl hc2 (by decide) (by decide) ?_
    refine Ev.blk (pc' := 85) (lv' := [some (vr 12 0 80), some (vi a1), none, none, none]) (st' := [vi ((wI h 80 0 (ii 0)).1 80 30)]) (h' := (wI h 80 0 (ii 0))) 8 2 (Nat.le_of_ble_eq_true rfl) tk_R_count rfl rfl ⟨trivial, trivial, trivial⟩ ?_
    obtain rfl := Option.some.inj hx
    obtain ⟨rfl, rfl⟩ := hP
    exact Ev.iret 10 tk_R_count rfl rfl
  replace hx := ia hc2 hx
  by_cases hc3 : a1 = ii 2
  · replace hx := ip hc3 hx
    refine Ev.tabIn (off := 80) 4 86 2 tk_R_count rfl hc3 (by decide) (by decide) ?_
    refine Ev.blk (pc' := 90) (lv' := [some (vr 12 0 80), some (vi a1), none, none, none]) (st' := [vi ((wI h 80 0 (ii 0)).1 80 33)]) (h' := (wI h 80 0 (ii 0))) 11 2 (Nat.le_of_ble_eq_true rfl) tk_R_count rfl rfl ⟨trivial, trivial, trivial⟩ ?_
    obtain rfl := Option.some.inj hx
    obtain ⟨rfl, rfl⟩ := hP
    exact Ev.iret 13 tk_R_count rfl rfl
  replace hx := ia hc3 hx
  by_cases hc4 : a1 = ii 3
  · replace hx := ip hc4 hx
    refine Ev.tabIn (off := 85) 4 91 3 tk_R_count rfl hc4 (by decide) (by decide) ?_
    refine Ev.blk (pc' := 95) (lv' := [some (vr 12 0 80), some (vi a1), none, none, none]) (st' := [vi ((wI h 80 0 (ii 0)).1 80 7)]) (h' := (wI h 80 0 (ii 0))) 14 2 (Nat.le_of_ble_eq_true rfl) tk_R_count rfl rfl ⟨trivial, trivial, trivial⟩ ?_
    obtain rfl := Option.some.inj hx
    obtain ⟨rfl, rfl⟩ := hP
    exact Ev.iret 16 tk_R_count rfl rfl
  replace hx := ia hc4 hx
  by_cases hc5 : a1 = ii 4
  · replace hx := ip hc5 hx
    refine Ev.tabIn (off := 90) 4 96 4 tk_R_count rfl hc5 (by decide) (by decide) ?_
    refine Ev.blk (pc' := 100) (lv' := [some (vr 12 0 80), some (vi a1), none, none, none]) (st' := [vi ((wI h 80 0 (ii 0)).1 80 39)]) (h' := (wI h 80 0 (ii 0))) 17 2 (Nat.le_of_ble_eq_true rfl) tk_R_count rfl rfl ⟨trivial, trivial, trivial⟩ ?_
    obtain rfl := Option.some.inj hx
    obtain ⟨rfl, rfl⟩ := hP
    exact Ev.iret 19 tk_R_count rfl rfl
  replace hx := ia hc5 hx
  by_cases hc6 : a1 = ii 5
  · replace hx := ip hc6 hx
    refine Ev.tabIn (off := 95) 4 101 5 tk_R_count rfl hc6 (by decide) (by decide) ?_
    refine Ev.blk (pc' := 105) (lv' := [some (vr 12 0 80), some (vi a1), none, none, none]) (st' := [vi ((wI h 80 0 (ii 0)).1 80 6)]) (h' := (wI h 80 0 (ii 0))) 20 2 (Nat.le_of_ble_eq_true rfl) tk_R_count rfl rfl ⟨trivial, trivial, trivial⟩ ?_
    obtain rfl := Option.some.inj hx
    obtain ⟨rfl, rfl⟩ := hP
    exact Ev.iret 22 tk_R_count rfl rfl
  replace hx := ia hc6 hx
  by_cases hc7 : a1 = ii 6
  · replace hx := ip hc7 hx
    refine Ev.tabIn (off := 100) 4 106 6 tk_R_count rfl hc7 (by decide) (by decide) ?_
    refine Ev.blk (pc' := 110) (lv' := [some (vr 12 0 80), some (vi a1), none, none, none]) (st' := [vi ((wI h 80 0 (ii 0)).1 80 43)]) (h' := (wI h 80 0 (ii 0))) 23 2 (Nat.le_of_ble_eq_true rfl) tk_R_count rfl rfl ⟨trivial, trivial, trivial⟩ ?_
    obtain rfl := Option.some.inj hx
    obtain ⟨rfl, rfl⟩ := hP
    exact Ev.iret 25 tk_R_count rfl rfl
  replace hx := ia hc7 hx
  by_cases hc8 : a1 = ii 7
  · replace hx := ip hc8 hx
    refine Ev.tabIn (off := 105) 4 111 7 tk_R_count rfl hc8 (by decide) (by decide) ?_
    obtain ⟨hg9, hx⟩ := gd hx
    refine Ev.blk (pc' := 118) (lv' := [some (vr 12 0 80), some (vi a1), none, none, none]) (st' := [vi ((wI h 80 0 (ii 0)).1 97 (ii 45).toNatClampNeg)]) (h' := (wI h 80 0 (ii 0))) 26 4 (Nat.le_of_ble_eq_true rfl) tk_R_count rfl rfl ⟨trivial, trivial, trivial, hg9, trivial⟩ ?_
    obtain rfl := Option.some.inj hx
    obtain ⟨rfl, rfl⟩ := hP
    exact Ev.iret 30 tk_R_count rfl rfl
  replace hx := ia hc8 hx
  by_cases hc10 : a1 = ii 8
  · replace hx := ip hc10 hx
    refine Ev.tabIn (off := 113) 4 119 8 tk_R_count rfl hc10 (by decide) (by decide) ?_
    refine Ev.blk (pc' := 123) (lv' := [some (vr 12 0 80), some (vi a1), some (vi (ii 0)), some (vi (ii 0)), none]) (st' := []) (h' := (wI h 80 0 (ii 0))) 31 4 (Nat.le_of_ble_eq_true rfl) tk_R_count rfl rfl ⟨trivial, trivial, trivial, trivial, trivial⟩ ?_
    refine Ev.msk [true, false, true, true, false] ?_
    show Ev Γ m_R_count 123 [some (vr 12 0 80), none, some (vi (ii 0)), some (vi (ii 0)), none] [] (wI h 80 0 (ii 0)) r h'
    exact l_R_count_L123 Γ FU (ii 0) (ii 0) (wI h 80 0 (ii 0)) _ hx r h' hP
  replace hx := ia hc10 hx
  by_cases hc11 : a1 = ii 9
  · replace hx := ip hc11 hx
    refine Ev.tabIn (off := 155) 4 161 9 tk_R_count rfl hc11 (by decide) (by decide) ?_
    refine Ev.blk (pc' := 166) (lv' := [some (vr 12 0 80), some (vi a1), none, some (vi (ii 0)), some (vi (ii 0))]) (st' := []) (h' := (wI h 80 0 (ii 0))) 58 4 (Nat.le_of_ble_eq_true rfl) tk_R_count rfl rfl ⟨trivial, trivial, trivial, trivial, trivial⟩ ?_
    refine Ev.msk [true, false, false, true, true] ?_
    show Ev Γ m_R_count 166 [some (vr 12 0 80), none, none, some (vi (ii 0)), some (vi (ii 0))] [] (wI h 80 0 (ii 0)) r h'
    exact l_R_count_L166 Γ FU (ii 0) (ii 0) (wI h 80 0 (ii 0)) _ hx r h' hP
  replace hx := ia hc11 hx
  by_cases hc12 : a1 = ii 10
  · replace hx := ip hc12 hx
    refine Ev.tabIn (off := 191) 4 197 10 tk_R_count rfl hc12 (by decide) (by decide) ?_
    obtain ⟨hg13, hx⟩ := gd hx
    refine Ev.blk (pc' := 204) (lv' := [some (vr 12 0 80), some (vi a1), none, none, none]) (st' := [vi ((wI h 80 0 (ii 0)).1 97 (ii 44).toNatClampNeg)]) (h' := (wI h 80 0 (ii 0))) 81 4 (Nat.le_of_ble_eq_true rfl) tk_R_count rfl rfl ⟨trivial, trivial, trivial, hg13, trivial⟩ ?_
    obtain rfl := Option.some.inj hx
    obtain ⟨rfl, rfl⟩ := hP
    exact Ev.iret 85 tk_R_count rfl rfl
  replace hx := ia hc12 hx
  by_cases hc14 : a1 = ii 11
  · replace hx := ip hc14 hx
    refine Ev.tabIn (off := 199) 4 205 11 tk_R_count rfl hc14 (by decide) (by decide) ?_
    refine Ev.blk (pc' := 209) (lv' := [some (vr 12 0 80), some (vi a1), none, none, none]) (st' := [vi ((wI h 80 0 (ii 0)).1 80 52)]) (h' := (wI h 80 0 (ii 0))) 86 2 (Nat.le_of_ble_eq_true rfl) tk_R_count rfl rfl ⟨trivial, trivial, trivial⟩ ?_
    obtain rfl := Option.some.inj hx
    obtain ⟨rfl, rfl⟩ := hP
    exact Ev.iret 88 tk_R_count rfl rfl
  replace hx := ia hc14 hx
  by_cases hc15 : a1 = ii 12
  · replace hx := ip hc15 hx
    refine Ev.tabIn (off := 204) 4 210 12 tk_R_count rfl hc15 (by decide) (by decide) ?_
    obtain ⟨hg16, hx⟩ := gd hx
    refine Ev.blk (pc' := 217) (lv' := [some (vr 12 0 80), some (vi a1), none, none, none]) (st' := [vi ((wI h 80 0 (ii 0)).1 97 (ii 46).toNatClampNeg)]) (h' := (wI h 80 0 (ii 0))) 89 4 (Nat.le_of_ble_eq_true rfl) tk_R_count rfl rfl ⟨trivial, trivial, trivial, hg16, trivial⟩ ?_
    obtain rfl := Option.some.inj hx
    obtain ⟨rfl, rfl⟩ := hP
    exact Ev.iret 93 tk_R_count rfl rfl
  replace hx := ia hc15 hx
  by_cases hc17 : a1 = ii 13
  · replace hx := ip hc17 hx
    refine Ev.tabIn (off := 212) 4 218 13 tk_R_count rfl hc17 (by decide) (by decide) ?_
    refine Ev.blk (pc' := 222) (lv' := [some (vr 12 0 80), some (vi a1), none, none, none]) (st' := [vi ((wI h 80 0 (ii 0)).1 80 45)]) (h' := (wI h 80 0 (ii 0))) 94 2 (Nat.le_of_ble_eq_true rfl) tk_R_count rfl rfl ⟨trivial, trivial, trivial⟩ ?_
    obtain rfl := Option.some.inj hx
    obtain ⟨rfl, rfl⟩ := hP
    exact Ev.iret 96 tk_R_count rfl rfl
  replace hx := ia hc17 hx
  refine Ev.tabOut 4 223 14 tk_R_count rfl (by decide) (fun k hk => ?_) (by decide) ?_
  · rcases (show k = 0 ∨ k = 1 ∨ k = 2 ∨ k = 3 ∨ k = 4 ∨ k = 5 ∨ k = 6 ∨ k = 7 ∨ k = 8 ∨ k = 9 ∨ k = 10 ∨ k = 11 ∨ k = 12 ∨ k = 13 by omega) with rfl | rfl | rfl | rfl | rfl | rfl | rfl | rfl | rfl | rfl | rfl | rfl | rfl | rfl
    · exact hc1
    · exact hc2
    · exact hc3
    · exact hc4
    · exact hc5
    · exact hc6
    · exact hc7
    · exact hc8
    · exact hc10
    · exact hc11
    · exact hc12
    · exact hc14
    · exact hc15
    · exact hc17
  · refine Ev.blk (pc' := 226) (lv' := [some (vr 12 0 80), some (vi a1), none, none, none]) (st' := [vi (ii (-1000000))]) (h' := (wI h 80 0 (ii 0))) 97 1 (Nat.le_of_ble_eq_true rfl) tk_R_count rfl rfl ⟨trivial, trivial⟩ ?_
    obtain rfl := Option.some.inj hx
    obtain ⟨rfl, rfl⟩ := hP
    exact Ev.iret 98 tk_R_count rfl rfl
