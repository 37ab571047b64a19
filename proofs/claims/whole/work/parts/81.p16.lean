set_option maxRecDepth 4000 in
theorem l_R_bringsAll_L5 (Γ : AG) : ∀ (n : Nat) (n1 : Nat) (o1 : Nat) (v2 : Int32) (v3 : Int32) (v4 : Int32) (h : AH) (x : Int32), R_bringsAll_L5 n n1 o1 v2 v3 v4 h = some x → ∀ (r : Option AV) (h' : AH), r = some (vi x) ∧ h' = h → Ev Γ m_R_bringsAll 5 [some (vr 12 0 80), some (vr 20 n1 o1), some (vi v2), some (vi v3), some (vi v4)] [] h r h' := by
  intro n
  induction n with
  | zero => intro n1 o1 v2 v3 v4 h x hx; cases hx
  | succ n ih =>
    intro n1 o1 v2 v3 v4 h x hx r h' hP
    replace hx : R_bringsAll_L5_b (R_bringsAll_L5 n) n1 o1 v2 v3 v4 h = some x := hx
    unfold R_bringsAll_L5_b at hx
    refine Ev.blk (pc' := 11) (lv' := [some (vr 12 0 80), some (vr 20 n1 o1), some (vi v2), some (vi v3), some (vi v4)]) (st' := [vi (h.1 80 34), vi v4]) (h' := h) 4 3 (Nat.le_of_ble_eq_true rfl) tk_R_bringsAll rfl rfl ⟨trivial, trivial, trivial, trivial⟩ ?_
    refine Ev.icmp_ge 7 45 tk_R_bringsAll rfl (by decide) (fun hc1 => ?_) (fun hc1 => ?_)
    · replace hx := ip hc1 hx
      refine Ev.blk (pc' := 46) (lv' := [some (vr 12 0 80), some (vr 20 n1 o1), some (vi v2), some (vi v3), some (vi v4)]) (st' := [vi v3]) (h' := h) 26 1 (Nat.le_of_ble_eq_true rfl) tk_R_bringsAll rfl rfl ⟨trivial, trivial⟩ ?_
      obtain rfl := Option.some.inj hx
      obtain ⟨rfl, rfl⟩ := hP
      exact Ev.iret 27 tk_R_bringsAll rfl rfl
    · replace hx := ia hc1 hx
      obtain ⟨hg2, hx⟩ := gd hx
      refine Ev.blk (pc' := 22) (lv' := [some (vr 12 0 80), some (vr 20 n1 o1), some (vi v2), some (vi v3), some (vi v4)]) (st' := [vi (h.1 o1 ((ii 14) + v4).toNatClampNeg), vi v3]) (h' := h) 8 6 (Nat.le_of_ble_eq_true rfl) tk_R_bringsAll rfl rfl ⟨trivial, trivial, trivial, trivial, trivial, hg2, trivial⟩ ?_
      obtain ⟨q2, hq3, hx⟩ := bd hx
      have K4 : Ev Γ m_R_bringsAll 37 [some (vr 12 0 80), some (vr 20 n1 o1), some (vi v2), none, some (vi v4)] [vi q2, vi v3] h r h' := by
        refine Ev.blk (pc' := 5) (lv' := [some (vr 12 0 80), some (vr 20 n1 o1), some (vi v2), some (vi (v3 + q2)), some (vi (v4 + ii 1))]) (st' := []) (h' := h) 22 4 (Nat.le_of_ble_eq_true rfl) tk_R_bringsAll rfl rfl ⟨trivial, trivial, trivial, trivial, trivial⟩ ?_
        exact Ev.msk [true, true, true, true, true] (ih n1 o1 v2 (v3 + q2) (v4 + ii 1) h _ hx r h' hP)
      clear hx
      refine Ev.if_le 14 36 tk_R_bringsAll rfl (by decide) (fun hc5 => ?_) (fun hc5 => ?_)
      · replace hq3 := ip hc5 hq3
        refine Ev.blk (pc' := 37) (lv' := [some (vr 12 0 80), some (vr 20 n1 o1), some (vi v2), some (vi v3), some (vi v4)]) (st' := [vi (ii 0), vi v3]) (h' := h) 21 1 (Nat.le_of_ble_eq_true rfl) tk_R_bringsAll rfl rfl ⟨trivial, trivial⟩ ?_
        obtain rfl := Option.some.inj hq3
        exact Ev.msk [true, true, true, false, true] K4
      · replace hq3 := ia hc5 hq3
        refine Ev.blk (pc' := 30) (lv' := [some (vr 12 0 80), some (vr 20 n1 o1), some (vi v2), some (vi v3), some (vi v4)]) (st' := [vi v2, vi v4, vr 20 n1 o1, vr 12 0 80, vi v3]) (h' := h) 15 4 (Nat.le_of_ble_eq_true rfl) tk_R_bringsAll rfl rfl ⟨trivial, trivial, trivial, trivial, trivial⟩ ?_
        obtain ⟨q1, hq6, hq3⟩ := bd hq3
        refine Ev.callV (ν := m_R_bringsOf) (av := [vr 20 n1 o1, vi v4, vi v2]) (rest := [vi v3]) (r1 := some (vi q1)) (h1 := h) (ci := 12) (nn := 0) (o := 80) 19 3 tk_R_bringsAll rfl bb_R_bringsOf vv_R_bringsOf lk_12_427 (by decide) rfl rfl (Or.inl rfl) (Nat.le_of_ble_eq_true rfl) (s_R_bringsOf Γ n1 o1 v4 v2 h _ hq6) ?_
        show Ev Γ m_R_bringsAll 33 [some (vr 12 0 80), some (vr 20 n1 o1), some (vi v2), some (vi v3), some (vi v4)] [vi q1, vi v3] h r h'
        refine Ev.blk (pc' := 37) (lv' := [some (vr 12 0 80), some (vr 20 n1 o1), some (vi v2), some (vi v3), some (vi v4)]) (st' := [vi q1, vi v3]) (h' := h) 20 1 (Nat.le_of_ble_eq_true rfl) tk_R_bringsAll rfl rfl ⟨trivial, trivial⟩ ?_
        obtain rfl := Option.some.inj hq3
        exact Ev.msk [true, true, true, false, true] K4
set_option maxRecDepth 4000 in
theorem s_R_bringsAll (Γ : AG) (n1 : Nat) (o1 : Nat) (a2 : Int32) (h : AH) (x : Int32) (hx : f_R_bringsAll n1 o1 a2 h = some x) : MetA Γ m_R_bringsAll [vr 12 0 80, vr 20 n1 o1, vi a2] h (some (vi x)) h := by
  refine Ev.met rfl rfl (Nat.le_of_ble_eq_true rfl) ?_
  show Ev Γ m_R_bringsAll 0 [some (vr 12 0 80), some (vr 20 n1 o1), some (vi a2), none, none] [] h _ _
  obtain ⟨r, hr⟩ : ∃ r : Option AV, r = some (vi x) := ⟨_, rfl⟩
  obtain ⟨h', hh⟩ : ∃ h' : AH, h' = h := ⟨_, rfl⟩
  have hP : r = some (vi x) ∧ h' = h := ⟨hr, hh⟩
  suffices hS : Ev Γ m_R_bringsAll 0 [some (vr 12 0 80), some (vr 20 n1 o1), some (vi a2), none, none] [] h r h' by rw [hr, hh] at hS; exact hS
  clear hr hh
  unfold f_R_bringsAll at hx
  refine Ev.blk (pc' := 5) (lv' := [some (vr 12 0 80), some (vr 20 n1 o1), some (vi a2), some (vi (ii 0)), some (vi (ii 0))]) (st' := []) (h' := h) 0 4 (Nat.le_of_ble_eq_true rfl) tk_R_bringsAll rfl rfl ⟨trivial, trivial, trivial, trivial, trivial⟩ ?_
  refine Ev.msk [true, true, true, true, true] ?_
  show Ev Γ m_R_bringsAll 5 [some (vr 12 0 80), some (vr 20 n1 o1), some (vi a2), some (vi (ii 0)), some (vi (ii 0))] [] h r h'
  exact l_R_bringsAll_L5 Γ FU n1 o1 a2 (ii 0) (ii 0) h _ hx r h' hP
set_option maxRecDepth 4000 in
theorem s_R_brings (Γ : AG) (a1 : Int32) (a2 : Int32) (h : AH) (x : Int32 × AH) (hx : f_R_brings a1 a2 h = some x) : MetA Γ m_R_brings [vr 12 0 80, vi a1, vi a2] h (some (vi x.1)) x.2 := by
  refine Ev.met rfl rfl (Nat.le_of_ble_eq_true rfl) ?_
  show Ev Γ m_R_brings 0 [some (vr 12 0 80), some (vi a1), some (vi a2)] [] h _ _
  obtain ⟨r, hr⟩ : ∃ r : Option AV, r = some (vi x.1) := ⟨_, rfl⟩
  obtain ⟨h', hh⟩ : ∃ h' : AH, h' = x.2 := ⟨_, rfl⟩
  have hP : r = some (vi x.1) ∧ h' = x.2 := ⟨hr, hh⟩
  suffices hS : Ev Γ m_R_brings 0 [some (vr 12 0 80), some (vi a1), some (vi a2)] [] h r h' by rw [hr, hh] at hS; exact hS
  clear hr hh
  unfold f_R_brings at hx
  refine Ev.blk (pc' := 9) (lv' := [some (vr 12 0 80), some (vi a1), some (vi a2)]) (st' := [vi ((wI h 80 0 (ii 0)).1 80 34)]) (h' := (wI h 80 0 (ii 0))) 0 5 (Nat.le_of_ble_eq_true rfl) tk_R_brings rfl rfl ⟨trivial, trivial, trivial, trivial, trivial, trivial⟩ ?_
  refine Ev.if_eq 5 24 tk_R_brings rfl (by decide) (fun hc1 => ?_) (fun hc1 => ?_)
  · replace hx := ip hc1 hx
    refine Ev.blk (pc' := 25) (lv' := [some (vr 12 0 80), some (vi a1), some (vi a2)]) (st' := [vi (ii (-1))]) (h' := (wI h 80 0 (ii 0))) 12 1 (Nat.le_of_ble_eq_true rfl) tk_R_brings rfl rfl ⟨trivial, trivial⟩ ?_
    obtain rfl := Option.some.inj hx
    obtain ⟨rfl, rfl⟩ := hP
    exact Ev.iret 13 tk_R_brings rfl rfl
  · replace hx := ia hc1 hx
    refine Ev.blk (pc' := 18) (lv' := [some (vr 12 0 80), some (vi a1), some (vi a2)]) (st' := [vl (Int64.ofInt 3), vl (Int64.ofNat 0), vl a2.toInt64]) (h' := (wI h 80 0 (ii 0))) 6 4 (Nat.le_of_ble_eq_true rfl) tk_R_brings rfl rfl ⟨trivial, trivial, trivial, trivial, trivial⟩ ?_
    refine Ev.callS (ν := m_R_isIn) (av := [vl a2.toInt64, vl (Int64.ofNat 0), vl (Int64.ofInt 3)]) (rest := []) (r1 := some (vi (p_R_isIn a2.toInt64 (Int64.ofNat 0) (Int64.ofInt 3)))) (h1 := (wI h 80 0 (ii 0))) 10 3 tk_R_brings rfl bb_R_isIn vv_R_isIn lk_12_223 (by decide) rfl rfl (Nat.le_of_ble_eq_true rfl) (s_R_isIn Γ a2.toInt64 (Int64.ofNat 0) (Int64.ofInt 3) (wI h 80 0 (ii 0))) ?_
    show Ev Γ m_R_brings 21 [some (vr 12 0 80), some (vi a1), some (vi a2)] [vi (p_R_isIn a2.toInt64 (Int64.ofNat 0) (Int64.ofInt 3))] (wI h 80 0 (ii 0)) r h'
    refine Ev.if_ne 11 26 tk_R_brings rfl (by decide) (fun hc2 => ?_) (fun hc2 => ?_)
    · replace hx := ia hc2 hx
      refine Ev.blk (pc' := 28) (lv' := [some (vr 12 0 80), some (vi a1), some (vi a2)]) (st' := [vi (ii (-1)), vi a1]) (h' := (wI h 80 0 (ii 0))) 14 2 (Nat.le_of_ble_eq_true rfl) tk_R_brings rfl rfl ⟨trivial, trivial, trivial⟩ ?_
      refine Ev.icmp_ne 16 41 tk_R_brings rfl (by decide) (fun hc3 => ?_) (fun hc3 => ?_)
      · replace hx := ia hc3 hx
        refine Ev.blk (pc' := 43) (lv' := [some (vr 12 0 80), some (vi a1), some (vi a2)]) (st' := [vi a1, vr 12 0 80]) (h' := (wI h 80 0 (ii 0))) 23 2 (Nat.le_of_ble_eq_true rfl) tk_R_brings rfl rfl ⟨trivial, trivial, trivial⟩ ?_
        refine Ev.callV (ν := m_R_isCell) (av := [vi a1]) (rest := []) (r1 := some (vi (p_R_isCell a1 (wI h 80 0 (ii 0))))) (h1 := (wI h 80 0 (ii 0))) (ci := 12) (nn := 0) (o := 80) 25 1 tk_R_brings rfl bb_R_isCell vv_R_isCell lk_12_372 (by decide) rfl rfl (Or.inl rfl) (Nat.le_of_ble_eq_true rfl) (s_R_isCell Γ a1 (wI h 80 0 (ii 0))) ?_
        show Ev Γ m_R_brings 46 [some (vr 12 0 80), some (vi a1), some (vi a2)] [vi (p_R_isCell a1 (wI h 80 0 (ii 0)))] (wI h 80 0 (ii 0)) r h'
        refine Ev.if_eq 26 74 tk_R_brings rfl (by decide) (fun hc4 => ?_) (fun hc4 => ?_)
        · replace hx := ip hc4 hx
          refine Ev.blk (pc' := 75) (lv' := [some (vr 12 0 80), some (vi a1), some (vi a2)]) (st' := [vi (ii (-1))]) (h' := (wI h 80 0 (ii 0))) 41 1 (Nat.le_of_ble_eq_true rfl) tk_R_brings rfl rfl ⟨trivial, trivial⟩ ?_
          obtain rfl := Option.some.inj hx
          obtain ⟨rfl, rfl⟩ := hP
          exact Ev.iret 42 tk_R_brings rfl rfl
        · replace hx := ia hc4 hx
          obtain ⟨hg5, hx⟩ := gd hx
          refine Ev.blk (pc' := 58) (lv' := [some (vr 12 0 80), some (vi a1), some (vi a2)]) (st' := [vi ((wI h 80 0 (ii 0)).1 97 ((ii 14) + a1).toNatClampNeg)]) (h' := (wI h 80 0 (ii 0))) 27 6 (Nat.le_of_ble_eq_true rfl) tk_R_brings rfl rfl ⟨trivial, trivial, trivial, trivial, trivial, hg5, trivial⟩ ?_
          refine Ev.if_le 33 74 tk_R_brings rfl (by decide) (fun hc6 => ?_) (fun hc6 => ?_)
          · replace hx := ip hc6 hx
            refine Ev.blk (pc' := 75) (lv' := [some (vr 12 0 80), some (vi a1), some (vi a2)]) (st' := [vi (ii (-1))]) (h' := (wI h 80 0 (ii 0))) 41 1 (Nat.le_of_ble_eq_true rfl) tk_R_brings rfl rfl ⟨trivial, trivial⟩ ?_
            obtain rfl := Option.some.inj hx
            obtain ⟨rfl, rfl⟩ := hP
            exact Ev.iret 42 tk_R_brings rfl rfl
          · replace hx := ia hc6 hx
            refine Ev.blk (pc' := 68) (lv' := [some (vr 12 0 80), some (vi a1), some (vi a2)]) (st' := [vi a2, vi a1, vr 20 227 97, vr 12 0 80]) (h' := (wI h 80 0 (ii 0))) 34 5 (Nat.le_of_ble_eq_true rfl) tk_R_brings rfl rfl ⟨trivial, trivial, trivial, trivial, trivial, trivial⟩ ?_
            obtain ⟨q1, hq7, hx⟩ := bd hx
            refine Ev.callV (ν := m_R_bringsOf) (av := [vr 20 227 97, vi a1, vi a2]) (rest := []) (r1 := some (vi q1)) (h1 := (wI h 80 0 (ii 0))) (ci := 12) (nn := 0) (o := 80) 39 3 tk_R_brings rfl bb_R_bringsOf vv_R_bringsOf lk_12_427 (by decide) rfl rfl (Or.inl rfl) (Nat.le_of_ble_eq_true rfl) (s_R_bringsOf Γ 227 97 a1 a2 (wI h 80 0 (ii 0)) _ hq7) ?_
            show Ev Γ m_R_brings 71 [some (vr 12 0 80), some (vi a1), some (vi a2)] [vi q1] (wI h 80 0 (ii 0)) r h'
            refine Ev.blk (pc' := 75) (lv' := [some (vr 12 0 80), some (vi a1), some (vi a2)]) (st' := [vi q1]) (h' := (wI h 80 0 (ii 0))) 40 1 (Nat.le_of_ble_eq_true rfl) tk_R_brings rfl rfl ⟨trivial, trivial⟩ ?_
            obtain rfl := Option.some.inj hx
            obtain ⟨rfl, rfl⟩ := hP
            exact Ev.iret 42 tk_R_brings rfl rfl
      · replace hx := ip hc3 hx
        refine Ev.blk (pc' := 37) (lv' := [some (vr 12 0 80), some (vi a1), some (vi a2)]) (st' := [vi a2, vr 20 227 97, vr 12 0 80]) (h' := (wI h 80 0 (ii 0))) 17 4 (Nat.le_of_ble_eq_true rfl) tk_R_brings rfl rfl ⟨trivial, trivial, trivial, trivial, trivial⟩ ?_
        obtain ⟨q2, hq8, hx⟩ := bd hx
        refine Ev.callV (ν := m_R_bringsAll) (av := [vr 20 227 97, vi a2]) (rest := []) (r1 := some (vi q2)) (h1 := (wI h 80 0 (ii 0))) (ci := 12) (nn := 0) (o := 80) 21 2 tk_R_brings rfl bb_R_bringsAll vv_R_bringsAll lk_12_430 (by decide) rfl rfl (Or.inl rfl) (Nat.le_of_ble_eq_true rfl) (s_R_bringsAll Γ 227 97 a2 (wI h 80 0 (ii 0)) _ hq8) ?_
        show Ev Γ m_R_brings 40 [some (vr 12 0 80), some (vi a1), some (vi a2)] [vi q2] (wI h 80 0 (ii 0)) r h'
        obtain rfl := Option.some.inj hx
        obtain ⟨rfl, rfl⟩ := hP
        exact Ev.iret 22 tk_R_brings rfl rfl
    · replace hx := ip hc2 hx
      refine Ev.blk (pc' := 25) (lv' := [some (vr 12 0 80), some (vi a1), some (vi a2)]) (st' := [vi (ii (-1))]) (h' := (wI h 80 0 (ii 0))) 12 1 (Nat.le_of_ble_eq_true rfl) tk_R_brings rfl rfl ⟨trivial, trivial⟩ ?_
      obtain rfl := Option.some.inj hx
      obtain ⟨rfl, rfl⟩ := hP
      exact Ev.iret 13 tk_R_brings rfl rfl
set_option maxRecDepth 4000 in
theorem l_R_goCheapest_L112 (Γ : AG) (d : Nat) (rc : Nat → Int32 → Int32 → Int32 → Int32 → AH → Option AH) (hrc0 : ∀ (b0 : Int32) (b1 : Int32) (b2 : Int32) (b3 : Int32) (h : AH) (x : AH), rc 0 b0 b1 b2 b3 h = some x → MetA Γ (m_R_goCheapest d) [vr 12 0 80, vi b0, vi b1, vi b2, vi b3] h (none) x) : ∀ (n : Nat) (v1 : Int32) (v3 : Int32) (v4 : Int32) (v5 : Int32) (h : AH) (x : AH), R_goCheapest_L112 rc n v1 v3 v4 v5 h = some x → ∀ (r : Option AV) (h' : AH), r = none ∧ h' = x → Ev Γ (m_R_goCheapest (d + 1)) 112 [some (vr 12 0 80), some (vi v1), none, some (vi v3), some (vi v4), some (vi v5), none] [] h r h' := by
  intro n
  induction n with
  | zero => intro v1 v3 v4 v5 h x hx; cases hx
  | succ n ih =>
    intro v1 v3 v4 v5 h x hx r h' hP
    replace hx : R_goCheapest_L112_b rc (R_goCheapest_L112 rc n) v1 v3 v4 v5 h = some x := hx
    unfold R_goCheapest_L112_b at hx
    refine Ev.blk (pc' := 118) (lv' := [some (vr 12 0 80), some (vi v1), none, some (vi v3), some (vi v4), some (vi v5), none]) (st' := [vi (h.1 80 34), vi v5]) (h' := h) 55 3 (Nat.le_of_ble_eq_true rfl) tk_R_goCheapest rfl rfl ⟨trivial, trivial, trivial, trivial⟩ ?_
    refine Ev.icmp_ge 58 213 tk_R_goCheapest rfl (by decide) (fun hc1 => ?_) (fun hc1 => ?_)
    · replace hx := ip hc1 hx
      obtain rfl := Option.some.inj hx
      obtain ⟨rfl, rfl⟩ := hP
      exact Ev.vret 111 tk_R_goCheapest rfl rfl
    · replace hx := ia hc1 hx
      refine Ev.blk (pc' := 125) (lv' := [some (vr 12 0 80), some (vi v1), none, some (vi v3), some (vi v4), some (vi v5), none]) (st' := [vi (ii 2), vi v5, vr 12 0 80]) (h' := h) 59 3 (Nat.le_of_ble_eq_true rfl) tk_R_goCheapest rfl rfl ⟨trivial, trivial, trivial, trivial⟩ ?_
      obtain ⟨q1, hq2, hx⟩ := bd hx
      refine Ev.callV (ν := m_R_depthOf) (av := [vi v5, vi (ii 2)]) (rest := []) (r1 := some (vi q1)) (h1 := h) (ci := 12) (nn := 0) (o := 80) 62 2 tk_R_goCheapest rfl bb_R_depthOf vv_R_depthOf lk_12_362 (by show _ ≤ 6 + (d + 1); simp only [mv, m_R_depthOf]; omega) rfl rfl (Or.inl rfl) (Nat.le_of_ble_eq_true rfl) (s_R_depthOf Γ v5 (ii 2) h _ hq2) ?_
      show Ev Γ (m_R_goCheapest (d + 1)) 128 [some (vr 12 0 80), some (vi v1), none, some (vi v3), some (vi v4), some (vi v5), none] [vi q1] h r h'
      obtain ⟨hg3, hx⟩ := gd hx
      refine Ev.blk (pc' := 140) (lv' := [some (vr 12 0 80), some (vi v1), none, some (vi v3), some (vi v4), some (vi v5), some (vi q1)]) (st' := [vi (h.1 97 ((ii 14) + v5).toNatClampNeg)]) (h' := h) 63 7 (Nat.le_of_ble_eq_true rfl) tk_R_goCheapest rfl rfl ⟨trivial, trivial, trivial, trivial, trivial, trivial, hg3, trivial⟩ ?_
      obtain ⟨q4, hq4, hx⟩ := bd hx
      have K5 : Ev Γ (m_R_goCheapest (d + 1)) 207 [some (vr 12 0 80), some (vi v1), none, some (vi v3), some (vi v4), some (vi v5), none] [] q4 r h' := by
        refine Ev.blk (pc' := 112) (lv' := [some (vr 12 0 80), some (vi v1), none, some (vi v3), some (vi v4), some (vi (v5 + ii 1)), none]) (st' := []) (h' := q4) 109 2 (Nat.le_of_ble_eq_true rfl) tk_R_goCheapest rfl rfl ⟨trivial, trivial, trivial⟩ ?_
        exact Ev.msk [true, true, false, true, true, true, false] (ih v1 v3 v4 (v5 + ii 1) q4 _ hx r h' hP)
      clear hx
      refine Ev.if_gt 70 207 tk_R_goCheapest rfl (by decide) (fun hc6 => ?_) (fun hc6 => ?_)
      · replace hq4 := ip hc6 hq4
        obtain rfl := Option.some.inj hq4
        exact Ev.msk [true, true, false, true, true, true, false] K5
      · replace hq4 := ia hc6 hq4
        refine Ev.blk (pc' := 146) (lv' := [some (vr 12 0 80), some (vi v1), none, some (vi v3), some (vi v4), some (vi v5), some (vi q1)]) (st' := [vi (ii (-1)), vi q1]) (h' := h) 71 2 (Nat.le_of_ble_eq_true rfl) tk_R_goCheapest rfl rfl ⟨trivial, trivial, trivial⟩ ?_
        refine Ev.icmp_eq 73 207 tk_R_goCheapest rfl (by decide) (fun hc7 => ?_) (fun hc7 => ?_)
        · replace hq4 := ip hc7 hq4
          obtain rfl := Option.some.inj hq4
          exact Ev.msk [true, true, false, true, true, true, false] K5
        · replace hq4 := ia hc7 hq4
          refine Ev.blk (pc' := 153) (lv' := [some (vr 12 0 80), some (vi v1), none, some (vi v3), some (vi v4), some (vi v5), some (vi q1)]) (st' := [vi (ii 60), vi q1]) (h' := h) 74 2 (Nat.le_of_ble_eq_true rfl) tk_R_goCheapest rfl rfl ⟨trivial, trivial, trivial⟩ ?_
          refine Ev.icmp_le 76 159 tk_R_goCheapest rfl (by decide) (fun hc8 => ?_) (fun hc8 => ?_)
          · replace hq4 := ip hc8 hq4
            obtain ⟨hg9, hq4⟩ := gd hq4
            refine Ev.blk (pc' := 189) (lv' := [some (vr 12 0 80), some (vi v1), none, some (vi v3), some (vi v4), some (vi v5), some (vi q1)]) (st' := [vi (ii 2), vi v5, vr 12 0 80, vi v4, vi (v3 ||| (shlI (ii 1) v5)), vi (v5 + (ii 1)), vi v1, vr 12 0 80]) (h' := (wI h 98 ((ii 14) + v5).toNatClampNeg q1)) 78 21 (Nat.le_of_ble_eq_true rfl) tk_R_goCheapest rfl rfl ⟨trivial, trivial, trivial, trivial, trivial, trivial, hg9, trivial, trivial, trivial, trivial, trivial, trivial, trivial, trivial, trivial, trivial, trivial, trivial, trivial, trivial, trivial⟩ ?_
            obtain ⟨q2, hq10, hq4⟩ := bd hq4
            refine Ev.callV (ν := m_R_costOf) (av := [vi v5, vi (ii 2)]) (rest := [vi v4, vi (v3 ||| (shlI (ii 1) v5)), vi (v5 + (ii 1)), vi v1, vr 12 0 80]) (r1 := some (vi q2)) (h1 := (wI h 98 ((ii 14) + v5).toNatClampNeg q1)) (ci := 12) (nn := 0) (o := 80) 99 2 tk_R_goCheapest rfl bb_R_costOf vv_R_costOf lk_12_404 (by show _ ≤ 6 + (d + 1); simp only [mv, m_R_costOf]; omega) rfl rfl (Or.inl rfl) (Nat.le_of_ble_eq_true rfl) (s_R_costOf Γ v5 (ii 2) (wI h 98 ((ii 14) + v5).toNatClampNeg q1) _ hq10) ?_
            show Ev Γ (m_R_goCheapest (d + 1)) 192 [some (vr 12 0 80), some (vi v1), none, some (vi v3), some (vi v4), some (vi v5), some (vi q1)] [vi q2, vi v4, vi (v3 ||| (shlI (ii 1) v5)), vi (v5 + (ii 1)), vi v1, vr 12 0 80] (wI h 98 ((ii 14) + v5).toNatClampNeg q1) r h'
            refine Ev.blk (pc' := 193) (lv' := [some (vr 12 0 80), some (vi v1), none, some (vi v3), some (vi v4), some (vi v5), some (vi q1)]) (st' := [vi (v4 + q2), vi (v3 ||| (shlI (ii 1) v5)), vi (v5 + (ii 1)), vi v1, vr 12 0 80]) (h' := (wI h 98 ((ii 14) + v5).toNatClampNeg q1)) 100 1 (Nat.le_of_ble_eq_true rfl) tk_R_goCheapest rfl rfl ⟨trivial, trivial⟩ ?_
            obtain ⟨q3, hq11, hq4⟩ := bd hq4
            refine Ev.callV (ν := (m_R_goCheapest d)) (av := [vi v1, vi (v5 + (ii 1)), vi (v3 ||| (shlI (ii 1) v5)), vi (v4 + q2)]) (rest := []) (r1 := none) (h1 := q3) (ci := 12) (nn := 0) (o := 80) 101 4 tk_R_goCheapest rfl (bb_R_goCheapest _) (vv_R_goCheapest _) lk_12_445 (Nat.le_refl _) rfl rfl (Or.inl rfl) (Nat.le_of_ble_eq_true rfl) (hrc0 v1 (v5 + (ii 1)) (v3 ||| (shlI (ii 1) v5)) (v4 + q2) (wI h 98 ((ii 14) + v5).toNatClampNeg q1) _ hq11) ?_
            show Ev Γ (m_R_goCheapest (d + 1)) 196 [some (vr 12 0 80), some (vi v1), none, some (vi v3), some (vi v4), some (vi v5), some (vi q1)] [] q3 r h'
            obtain ⟨hg12, hq4⟩ := gd hq4
            refine Ev.blk (pc' := 207) (lv' := [some (vr 12 0 80), some (vi v1), none, some (vi v3), some (vi v4), some (vi v5), some (vi q1)]) (st' := []) (h' := (wI q3 98 ((ii 14) + v5).toNatClampNeg (ii 0))) 102 7 (Nat.le_of_ble_eq_true rfl) tk_R_goCheapest rfl rfl ⟨trivial, trivial, trivial, trivial, trivial, trivial, hg12, trivial⟩ ?_
            obtain rfl := Option.some.inj hq4
            exact Ev.msk [true, true, false, true, true, true, false] K5
          · replace hq4 := ia hc8 hq4
            refine Ev.blk (pc' := 207) (lv' := [some (vr 12 0 80), some (vi v1), none, some (vi v3), some (vi v4), some (vi v5), some (vi q1)]) (st' := []) (h' := h) 77 1 (Nat.le_of_ble_eq_true rfl) tk_R_goCheapest rfl rfl ⟨trivial, trivial⟩ ?_
            obtain rfl := Option.some.inj hq4
            exact Ev.msk [true, true, false, true, true, true, false] K5
set_option maxRecDepth 4000 in
theorem u_R_goCheapest_ok (Γ : AG) (d : Nat) (rc : Nat → Int32 → Int32 → Int32 → Int32 → AH → Option AH) (hrc0 : ∀ (b0 : Int32) (b1 : Int32) (b2 : Int32) (b3 : Int32) (h : AH) (x : AH), rc 0 b0 b1 b2 b3 h = some x → MetA Γ (m_R_goCheapest d) [vr 12 0 80, vi b0, vi b1, vi b2, vi b3] h (none) x) (a1 : Int32) (a2 : Int32) (a3 : Int32) (a4 : Int32) (h : AH) (x : AH) (hx : u_R_goCheapest rc a1 a2 a3 a4 h = some x) : MetA Γ (m_R_goCheapest (d + 1)) [vr 12 0 80, vi a1, vi a2, vi a3, vi a4] h (none) x := by
  refine Ev.met rfl rfl (Nat.le_of_ble_eq_true rfl) ?_
  show Ev Γ (m_R_goCheapest (d + 1)) 0 [some (vr 12 0 80), some (vi a1), some (vi a2), some (vi a3), some (vi a4), none, none] [] h _ _
  obtain ⟨r, hr⟩ : ∃ r : Option AV, r = none := ⟨_, rfl⟩
  obtain ⟨h', hh⟩ : ∃ h' : AH, h' = x := ⟨_, rfl⟩
  have hP : r = none ∧ h' = x := ⟨hr, hh⟩
  suffices hS : Ev Γ (m_R_goCheapest (d + 1)) 0 [some (vr 12 0 80), some (vi a1), some (vi a2), some (vi a3), some (vi a4), none, none] [] h r h' by rw [hr, hh] at hS; exact hS
  clear hr hh
  unfold u_R_goCheapest at hx
  refine Ev.blk (pc' := 6) (lv' := [some (vr 12 0 80), some (vi a1), some (vi a2), some (vi a3), some (vi a4), none, none]) (st' := [vi (ii 2), vr 20 227 98, vr 12 0 80]) (h' := h) 0 4 (Nat.le_of_ble_eq_true rfl) tk_R_goCheapest rfl rfl ⟨trivial, trivial, trivial, trivial, trivial⟩ ?_
  obtain ⟨q1, hq1, hx⟩ := bd hx
  refine Ev.callV (ν := m_R_bringsAll) (av := [vr 20 227 98, vi (ii 2)]) (rest := []) (r1 := some (vi q1)) (h1 := h) (ci := 12) (nn := 0) (o := 80) 4 2 tk_R_goCheapest rfl bb_R_bringsAll vv_R_bringsAll lk_12_430 (by show _ ≤ 6 + (d + 1); simp only [mv, m_R_bringsAll]; omega) rfl rfl (Or.inl rfl) (Nat.le_of_ble_eq_true rfl) (s_R_bringsAll Γ 227 98 (ii 2) h _ hq1) ?_
  show Ev Γ (m_R_goCheapest (d + 1)) 9 [some (vr 12 0 80), some (vi a1), some (vi a2), some (vi a3), some (vi a4), none, none] [vi q1] h r h'
  refine Ev.blk (pc' := 10) (lv' := [some (vr 12 0 80), some (vi a1), some (vi a2), some (vi a3), some (vi a4), none, none]) (st' := [vi a1, vi q1]) (h' := h) 5 1 (Nat.le_of_ble_eq_true rfl) tk_R_goCheapest rfl rfl ⟨trivial, trivial⟩ ?_
  obtain ⟨q2, hq2, hx⟩ := bd hx
  have K3 : Ev Γ (m_R_goCheapest (d + 1)) 100 [some (vr 12 0 80), some (vi a1), some (vi a2), some (vi a3), some (vi a4), none, none] [] q2 r h' := by
    refine Ev.blk (pc' := 101) (lv' := [some (vr 12 0 80), some (vi a1), some (vi a2), some (vi a3), some (vi a4), none, none]) (st' := [vi a3]) (h' := q2) 48 1 (Nat.le_of_ble_eq_true rfl) tk_R_goCheapest rfl rfl ⟨trivial, trivial⟩ ?_
    refine Ev.callS (ν := m_Int_bitCount) (av := [vi a3]) (rest := []) (r1 := some (vi (p_Int_bitCount a3))) (h1 := q2) 49 1 tk_R_goCheapest rfl bb_Int_bitCount vv_Int_bitCount lk_12_434 (by show _ ≤ 6 + (d + 1); simp only [mv, m_Int_bitCount]; omega) rfl rfl (Nat.le_of_ble_eq_true rfl) (s_Int_bitCount Γ a3 q2) ?_
    show Ev Γ (m_R_goCheapest (d + 1)) 104 [some (vr 12 0 80), some (vi a1), some (vi a2), some (vi a3), some (vi a4), none, none] [vi (p_Int_bitCount a3)] q2 r h'
    refine Ev.blk (pc' := 105) (lv' := [some (vr 12 0 80), some (vi a1), some (vi a2), some (vi a3), some (vi a4), none, none]) (st' := [vi (ii 3), vi (p_Int_bitCount a3)]) (h' := q2) 50 1 (Nat.le_of_ble_eq_true rfl) tk_R_goCheapest rfl rfl ⟨trivial, trivial⟩ ?_
    refine Ev.icmp_ne 51 109 tk_R_goCheapest rfl (by decide) (fun hc4 => ?_) (fun hc4 => ?_)
    · replace hx := ia hc4 hx
      refine Ev.blk (pc' := 112) (lv' := [some (vr 12 0 80), some (vi a1), some (vi a2), some (vi a3), some (vi a4), some (vi a2), none]) (st' := []) (h' := q2) 53 2 (Nat.le_of_ble_eq_true rfl) tk_R_goCheapest rfl rfl ⟨trivial, trivial, trivial⟩ ?_
      refine Ev.msk [true, true, false, true, true, true, false] ?_
      show Ev Γ (m_R_goCheapest (d + 1)) 112 [some (vr 12 0 80), some (vi a1), none, some (vi a3), some (vi a4), some (vi a2), none] [] q2 r h'
      exact l_R_goCheapest_L112 Γ d rc hrc0 FU a1 a3 a4 a2 q2 _ hx r h' hP
    · replace hx := ip hc4 hx
      obtain rfl := Option.some.inj hx
      obtain ⟨rfl, rfl⟩ := hP
      exact Ev.vret 52 tk_R_goCheapest rfl rfl
  clear hx
  refine Ev.icmp_lt 6 100 tk_R_goCheapest rfl (by decide) (fun hc5 => ?_) (fun hc5 => ?_)
  · replace hq2 := ip hc5 hq2
    obtain rfl := Option.some.inj hq2
    exact Ev.msk [true, true, true, true, true, false, false] K3
  · replace hq2 := ia hc5 hq2
    refine Ev.blk (pc' := 14) (lv' := [some (vr 12 0 80), some (vi a1), some (vi a2), some (vi a3), some (vi a4), none, none]) (st' := [vi a3]) (h' := h) 7 1 (Nat.le_of_ble_eq_true rfl) tk_R_goCheapest rfl rfl ⟨trivial, trivial⟩ ?_
    refine Ev.callS (ν := m_Int_bitCount) (av := [vi a3]) (rest := []) (r1 := some (vi (p_Int_bitCount a3))) (h1 := h) 8 1 tk_R_goCheapest rfl bb_Int_bitCount vv_Int_bitCount lk_12_434 (by show _ ≤ 6 + (d + 1); simp only [mv, m_Int_bitCount]; omega) rfl rfl (Nat.le_of_ble_eq_true rfl) (s_Int_bitCount Γ a3 h) ?_
    show Ev Γ (m_R_goCheapest (d + 1)) 17 [some (vr 12 0 80), some (vi a1), some (vi a2), some (vi a3), some (vi a4), none, none] [vi (p_Int_bitCount a3)] h r h'
    refine Ev.blk (pc' := 24) (lv' := [some (vr 12 0 80), some (vi a1), some (vi a2), some (vi a3), some (vi a4), some (vi (p_Int_bitCount a3)), none]) (st' := [vi (ii (-1)), vi (h.1 80 47)]) (h' := h) 9 4 (Nat.le_of_ble_eq_true rfl) tk_R_goCheapest rfl rfl ⟨trivial, trivial, trivial, trivial, trivial⟩ ?_
    have K6 : ∀ v6_0 : Int32, v6_0 = (if (h.1 80 47) = (ii (-1)) then (ii 1) else (if a4 < (h.1 80 48) then (ii 1) else (if a4 = (h.1 80 48) then (if (p_Int_bitCount a3) < (p_Int_bitCount (h.1 80 47)) then (ii 1) else (if (p_Int_bitCount a3) = (p_Int_bitCount (h.1 80 47)) then (if (h.1 80 47) ≤ a3 then (ii 0) else (ii 1)) else (ii 0))) else (ii 0)))) → Ev Γ (m_R_goCheapest (d + 1)) 82 [some (vr 12 0 80), some (vi a1), some (vi a2), some (vi a3), some (vi a4), none, none] [vi v6_0] h r h' := by
      intro v6_0 e7
      subst e7
      refine Ev.blk (pc' := 86) (lv' := [some (vr 12 0 80), some (vi a1), some (vi a2), some (vi a3), some (vi a4), none, some (vi (if (h.1 80 47) = (ii (-1)) then (ii 1) else (if a4 < (h.1 80 48) then (ii 1) else (if a4 = (h.1 80 48) then (if (p_Int_bitCount a3) < (p_Int_bitCount (h.1 80 47)) then (ii 1) else (if (p_Int_bitCount a3) = (p_Int_bitCount (h.1 80 47)) then (if (h.1 80 47) ≤ a3 then (ii 0) else (ii 1)) else (ii 0))) else (ii 0)))))]) (st' := [vi (if (h.1 80 47) = (ii (-1)) then (ii 1) else (if a4 < (h.1 80 48) then (ii 1) else (if a4 = (h.1 80 48) then (if (p_Int_bitCount a3) < (p_Int_bitCount (h.1 80 47)) then (ii 1) else (if (p_Int_bitCount a3) = (p_Int_bitCount (h.1 80 47)) then (if (h.1 80 47) ≤ a3 then (ii 0) else (ii 1)) else (ii 0))) else (ii 0))))]) (h' := h) 39 2 (Nat.le_of_ble_eq_true rfl) tk_R_goCheapest rfl rfl ⟨trivial, trivial, trivial⟩ ?_
      refine Ev.if_eq 41 100 tk_R_goCheapest rfl (by decide) (fun hc8 => ?_) (fun hc8 => ?_)
      · replace hq2 := ip hc8 hq2
        obtain rfl := Option.some.inj hq2
        exact Ev.msk [true, true, true, true, true, false, false] K3
      · replace hq2 := ia hc8 hq2
        refine Ev.blk (pc' := 100) (lv' := [some (vr 12 0 80), some (vi a1), some (vi a2), some (vi a3), some (vi a4), none, some (vi (if (h.1 80 47) = (ii (-1)) then (ii 1) else (if a4 < (h.1 80 48) then (ii 1) else (if a4 = (h.1 80 48) then (if (p_Int_bitCount a3) < (p_Int_bitCount (h.1 80 47)) then (ii 1) else (if (p_Int_bitCount a3) = (p_Int_bitCount (h.1 80 47)) then (if (h.1 80 47) ≤ a3 then (ii 0) else (ii 1)) else (ii 0))) else (ii 0)))))]) (st' := []) (h' := (wI (wI h 80 47 a3) 80 48 a4)) 42 6 (Nat.le_of_ble_eq_true rfl) tk_R_goCheapest rfl rfl ⟨trivial, trivial, trivial, trivial, trivial, trivial, trivial⟩ ?_
        obtain rfl := Option.some.inj hq2
        exact Ev.msk [true, true, true, true, true, false, false] K3
    refine Ev.icmp_eq 13 77 tk_R_goCheapest rfl (by decide) (fun hc9 => ?_) (fun hc9 => ?_)
    · refine Ev.blk (pc' := 82) (lv' := [some (vr 12 0 80), some (vi a1), some (vi a2), some (vi a3), some (vi a4), some (vi (p_Int_bitCount a3)), none]) (st' := [vi (ii 1)]) (h' := h) 36 2 (Nat.le_of_ble_eq_true rfl) tk_R_goCheapest rfl rfl ⟨trivial, trivial, trivial⟩ ?_
      exact Ev.msk [true, true, true, true, true, false, false] (K6 _ (by first | rfl | simp only [if_pos hc9]))
    · refine Ev.blk (pc' := 33) (lv' := [some (vr 12 0 80), some (vi a1), some (vi a2), some (vi a3), some (vi a4), some (vi (p_Int_bitCount a3)), none]) (st' := [vi (h.1 80 48), vi a4]) (h' := h) 14 3 (Nat.le_of_ble_eq_true rfl) tk_R_goCheapest rfl rfl ⟨trivial, trivial, trivial, trivial⟩ ?_
      refine Ev.icmp_lt 17 77 tk_R_goCheapest rfl (by decide) (fun hc10 => ?_) (fun hc10 => ?_)
      · refine Ev.blk (pc' := 82) (lv' := [some (vr 12 0 80), some (vi a1), some (vi a2), some (vi a3), some (vi a4), some (vi (p_Int_bitCount a3)), none]) (st' := [vi (ii 1)]) (h' := h) 36 2 (Nat.le_of_ble_eq_true rfl) tk_R_goCheapest rfl rfl ⟨trivial, trivial, trivial⟩ ?_
        exact Ev.msk [true, true, true, true, true, false, false] (K6 _ (by first | rfl | simp only [if_neg hc9, if_pos hc10]))
      · refine Ev.blk (pc' := 42) (lv' := [some (vr 12 0 80), some (vi a1), some (vi a2), some (vi a3), some (vi a4), some (vi (p_Int_bitCount a3)), none]) (st' := [vi (h.1 80 48), vi a4]) (h' := h) 18 3 (Nat.le_of_ble_eq_true rfl) tk_R_goCheapest rfl rfl ⟨trivial, trivial, trivial, trivial⟩ ?_
        refine Ev.icmp_ne 21 81 tk_R_goCheapest rfl (by decide) (fun hc11 => ?_) (fun hc11 => ?_)
        · refine Ev.blk (pc' := 82) (lv' := [some (vr 12 0 80), some (vi a1), some (vi a2), some (vi a3), some (vi a4), some (vi (p_Int_bitCount a3)), none]) (st' := [vi (ii 0)]) (h' := h) 38 1 (Nat.le_of_ble_eq_true rfl) tk_R_goCheapest rfl rfl ⟨trivial, trivial⟩ ?_
          exact Ev.msk [true, true, true, true, true, false, false] (K6 _ (by first | rfl | simp only [if_neg hc9, if_neg hc10, if_neg hc11]))
        · refine Ev.blk (pc' := 51) (lv' := [some (vr 12 0 80), some (vi a1), some (vi a2), some (vi a3), some (vi a4), some (vi (p_Int_bitCount a3)), none]) (st' := [vi (h.1 80 47), vi (p_Int_bitCount a3)]) (h' := h) 22 3 (Nat.le_of_ble_eq_true rfl) tk_R_goCheapest rfl rfl ⟨trivial, trivial, trivial, trivial⟩ ?_
          refine Ev.callS (ν := m_Int_bitCount) (av := [vi (h.1 80 47)]) (rest := [vi (p_Int_bitCount a3)]) (r1 := some (vi (p_Int_bitCount (h.1 80 47)))) (h1 := h) 25 1 tk_R_goCheapest rfl bb_Int_bitCount vv_Int_bitCount lk_12_434 (by show _ ≤ 6 + (d + 1); simp only [mv, m_Int_bitCount]; omega) rfl rfl (Nat.le_of_ble_eq_true rfl) (s_Int_bitCount Γ (h.1 80 47) h) ?_
          show Ev Γ (m_R_goCheapest (d + 1)) 54 [some (vr 12 0 80), some (vi a1), some (vi a2), some (vi a3), some (vi a4), some (vi (p_Int_bitCount a3)), none] [vi (p_Int_bitCount (h.1 80 47)), vi (p_Int_bitCount a3)] h r h'
          refine Ev.icmp_lt 26 77 tk_R_goCheapest rfl (by decide) (fun hc12 => ?_) (fun hc12 => ?_)
          · refine Ev.blk (pc' := 82) (lv' := [some (vr 12 0 80), some (vi a1), some (vi a2), some (vi a3), some (vi a4), some (vi (p_Int_bitCount a3)), none]) (st' := [vi (ii 1)]) (h' := h) 36 2 (Nat.le_of_ble_eq_true rfl) tk_R_goCheapest rfl rfl ⟨trivial, trivial, trivial⟩ ?_
            exact Ev.msk [true, true, true, true, true, false, false] (K6 _ (by first | rfl | simp only [if_neg hc9, if_neg hc10, if_pos hc11, if_pos hc12]))
          · refine Ev.blk (pc' := 63) (lv' := [some (vr 12 0 80), some (vi a1), some (vi a2), some (vi a3), some (vi a4), some (vi (p_Int_bitCount a3)), none]) (st' := [vi (h.1 80 47), vi (p_Int_bitCount a3)]) (h' := h) 27 3 (Nat.le_of_ble_eq_true rfl) tk_R_goCheapest rfl rfl ⟨trivial, trivial, trivial, trivial⟩ ?_
            refine Ev.callS (ν := m_Int_bitCount) (av := [vi (h.1 80 47)]) (rest := [vi (p_Int_bitCount a3)]) (r1 := some (vi (p_Int_bitCount (h.1 80 47)))) (h1 := h) 30 1 tk_R_goCheapest rfl bb_Int_bitCount vv_Int_bitCount lk_12_434 (by show _ ≤ 6 + (d + 1); simp only [mv, m_Int_bitCount]; omega) rfl rfl (Nat.le_of_ble_eq_true rfl) (s_Int_bitCount Γ (h.1 80 47) h) ?_
            show Ev Γ (m_R_goCheapest (d + 1)) 66 [some (vr 12 0 80), some (vi a1), some (vi a2), some (vi a3), some (vi a4), some (vi (p_Int_bitCount a3)), none] [vi (p_Int_bitCount (h.1 80 47)), vi (p_Int_bitCount a3)] h r h'
            refine Ev.icmp_ne 31 81 tk_R_goCheapest rfl (by decide) (fun hc13 => ?_) (fun hc13 => ?_)
            · refine Ev.blk (pc' := 82) (lv' := [some (vr 12 0 80), some (vi a1), some (vi a2), some (vi a3), some (vi a4), some (vi (p_Int_bitCount a3)), none]) (st' := [vi (ii 0)]) (h' := h) 38 1 (Nat.le_of_ble_eq_true rfl) tk_R_goCheapest rfl rfl ⟨trivial, trivial⟩ ?_
              exact Ev.msk [true, true, true, true, true, false, false] (K6 _ (by first | rfl | simp only [if_neg hc9, if_neg hc10, if_pos hc11, if_neg hc12, if_neg hc13]))
            · refine Ev.blk (pc' := 74) (lv' := [some (vr 12 0 80), some (vi a1), some (vi a2), some (vi a3), some (vi a4), some (vi (p_Int_bitCount a3)), none]) (st' := [vi (h.1 80 47), vi a3]) (h' := h) 32 3 (Nat.le_of_ble_eq_true rfl) tk_R_goCheapest rfl rfl ⟨trivial, trivial, trivial, trivial⟩ ?_
              refine Ev.icmp_ge 35 81 tk_R_goCheapest rfl (by decide) (fun hc14 => ?_) (fun hc14 => ?_)
              · refine Ev.blk (pc' := 82) (lv' := [some (vr 12 0 80), some (vi a1), some (vi a2), some (vi a3), some (vi a4), some (vi (p_Int_bitCount a3)), none]) (st' := [vi (ii 0)]) (h' := h) 38 1 (Nat.le_of_ble_eq_true rfl) tk_R_goCheapest rfl rfl ⟨trivial, trivial⟩ ?_
                exact Ev.msk [true, true, true, true, true, false, false] (K6 _ (by first | rfl | simp only [if_neg hc9, if_neg hc10, if_pos hc11, if_neg hc12, if_pos hc13, if_pos hc14]))
              · refine Ev.blk (pc' := 82) (lv' := [some (vr 12 0 80), some (vi a1), some (vi a2), some (vi a3), some (vi a4), some (vi (p_Int_bitCount a3)), none]) (st' := [vi (ii 1)]) (h' := h) 36 2 (Nat.le_of_ble_eq_true rfl) tk_R_goCheapest rfl rfl ⟨trivial, trivial, trivial⟩ ?_
                exact Ev.msk [true, true, true, true, true, false, false] (K6 _ (by first | rfl | simp only [if_neg hc9, if_neg hc10, if_pos hc11, if_neg hc12, if_pos hc13, if_neg hc14]))
theorem gg4 (Γ : AG) : ∀ d : Nat, (∀ (b0 : Int32) (b1 : Int32) (b2 : Int32) (b3 : Int32) (h : AH) (x : AH), g4 d 0 b0 b1 b2 b3 h = some x → MetA Γ (m_R_goCheapest d) [vr 12 0 80, vi b0, vi b1, vi b2, vi b3] h (none) x) := by
  intro d
  induction d with
  | zero => exact fun b0 b1 b2 b3 h x hx => (by cases hx)
  | succ d ih =>
    have i0 := ih
    exact fun b0 b1 b2 b3 h x hx => u_R_goCheapest_ok Γ d (g4 d) i0 b0 b1 b2 b3 h x hx
theorem t_R_goCheapest (Γ : AG) (d : Nat) (b0 : Int32) (b1 : Int32) (b2 : Int32) (b3 : Int32) (h : AH) (x : AH) (hx : g4 d 0 b0 b1 b2 b3 h = some x) : MetA Γ (m_R_goCheapest d) [vr 12 0 80, vi b0, vi b1, vi b2, vi b3] h (none) x := (gg4 Γ d) b0 b1 b2 b3 h x hx
set_option maxRecDepth 4000 in
theorem s_R_cheapest (Γ : AG) (a1 : Int32) (a2 : Int32) (h : AH) (x : Int32 × AH) (hx : f_R_cheapest a1 a2 h = some x) : MetA Γ m_R_cheapest [vr 12 0 80, vi a1, vi a2] h (some (vi x.1)) x.2 := by
  refine Ev.met rfl rfl (Nat.le_of_ble_eq_true rfl) ?_
  show Ev Γ m_R_cheapest 0 [some (vr 12 0 80), some (vi a1), some (vi a2)] [] h _ _
  obtain ⟨r, hr⟩ : ∃ r : Option AV, r = some (vi x.1) := ⟨_, rfl⟩
  obtain ⟨h', hh⟩ : ∃ h' : AH, h' = x.2 := ⟨_, rfl⟩
  have hP : r = some (vi x.1) ∧ h' = x.2 := ⟨hr, hh⟩
  suffices hS : Ev Γ m_R_cheapest 0 [some (vr 12 0 80), some (vi a1), some (vi a2)] [] h r h' by rw [hr, hh] at hS; exact hS
  clear hr hh
  unfold f_R_cheapest at hx
  refine Ev.blk (pc' := 9) (lv' := [some (vr 12 0 80), some (vi a1), some (vi a2)]) (st' := [vi ((wI h 80 0 (ii 0)).1 80 34)]) (h' := (wI h 80 0 (ii 0))) 0 5 (Nat.le_of_ble_eq_true rfl) tk_R_cheapest rfl rfl ⟨trivial, trivial, trivial, trivial, trivial, trivial⟩ ?_
  refine Ev.if_eq 5 34 tk_R_cheapest rfl (by decide) (fun hc1 => ?_) (fun hc1 => ?_)
  · replace hx := ip hc1 hx
    refine Ev.blk (pc' := 35) (lv' := [some (vr 12 0 80), some (vi a1), some (vi a2)]) (st' := [vi (ii (-1))]) (h' := (wI h 80 0 (ii 0))) 18 1 (Nat.le_of_ble_eq_true rfl) tk_R_cheapest rfl rfl ⟨trivial, trivial⟩ ?_
    obtain rfl := Option.some.inj hx
    obtain ⟨rfl, rfl⟩ := hP
    exact Ev.iret 19 tk_R_cheapest rfl rfl
  · replace hx := ia hc1 hx
    refine Ev.blk (pc' := 18) (lv' := [some (vr 12 0 80), some (vi a1), some (vi a2)]) (st' := [vl (Int64.ofInt 40), vl (Int64.ofNat 1), vl a1.toInt64]) (h' := (wI h 80 0 (ii 0))) 6 4 (Nat.le_of_ble_eq_true rfl) tk_R_cheapest rfl rfl ⟨trivial, trivial, trivial, trivial, trivial⟩ ?_
    refine Ev.callS (ν := m_R_isIn) (av := [vl a1.toInt64, vl (Int64.ofNat 1), vl (Int64.ofInt 40)]) (rest := []) (r1 := some (vi (p_R_isIn a1.toInt64 (Int64.ofNat 1) (Int64.ofInt 40)))) (h1 := (wI h 80 0 (ii 0))) 10 3 tk_R_cheapest rfl bb_R_isIn vv_R_isIn lk_12_223 (by decide) rfl rfl (Nat.le_of_ble_eq_true rfl) (s_R_isIn Γ a1.toInt64 (Int64.ofNat 1) (Int64.ofInt 40) (wI h 80 0 (ii 0))) ?_
    show Ev Γ m_R_cheapest 21 [some (vr 12 0 80), some (vi a1), some (vi a2)] [vi (p_R_isIn a1.toInt64 (Int64.ofNat 1) (Int64.ofInt 40))] (wI h 80 0 (ii 0)) r h'
    refine Ev.if_eq 11 34 tk_R_cheapest rfl (by decide) (fun hc2 => ?_) (fun hc2 => ?_)
    · replace hx := ip hc2 hx
      refine Ev.blk (pc' := 35) (lv' := [some (vr 12 0 80), some (vi a1), some (vi a2)]) (st' := [vi (ii (-1))]) (h' := (wI h 80 0 (ii 0))) 18 1 (Nat.le_of_ble_eq_true rfl) tk_R_cheapest rfl rfl ⟨trivial, trivial⟩ ?_
      obtain rfl := Option.some.inj hx
      obtain ⟨rfl, rfl⟩ := hP
      exact Ev.iret 19 tk_R_cheapest rfl rfl
    · replace hx := ia hc2 hx
      refine Ev.blk (pc' := 28) (lv' := [some (vr 12 0 80), some (vi a1), some (vi a2)]) (st' := [vl (Int64.ofNat 1), vl (Int64.ofNat 0), vl a2.toInt64]) (h' := (wI h 80 0 (ii 0))) 12 4 (Nat.le_of_ble_eq_true rfl) tk_R_cheapest rfl rfl ⟨trivial, trivial, trivial, trivial, trivial⟩ ?_
      refine Ev.callS (ν := m_R_isIn) (av := [vl a2.toInt64, vl (Int64.ofNat 0), vl (Int64.ofNat 1)]) (rest := []) (r1 := some (vi (p_R_isIn a2.toInt64 (Int64.ofNat 0) (Int64.ofNat 1)))) (h1 := (wI h 80 0 (ii 0))) 16 3 tk_R_cheapest rfl bb_R_isIn vv_R_isIn lk_12_223 (by decide) rfl rfl (Nat.le_of_ble_eq_true rfl) (s_R_isIn Γ a2.toInt64 (Int64.ofNat 0) (Int64.ofNat 1) (wI h 80 0 (ii 0))) ?_
      show Ev Γ m_R_cheapest 31 [some (vr 12 0 80), some (vi a1), some (vi a2)] [vi (p_R_isIn a2.toInt64 (Int64.ofNat 0) (Int64.ofNat 1))] (wI h 80 0 (ii 0)) r h'
      refine Ev.if_ne 17 36 tk_R_cheapest rfl (by decide) (fun hc3 => ?_) (fun hc3 => ?_)
      · replace hx := ia hc3 hx
        refine Ev.blk (pc' := 44) (lv' := [some (vr 12 0 80), some (vi a1), some (vi a2)]) (st' := [vr 20 227 98, vr 20 227 97]) (h' := (wI h 80 0 (ii 0))) 20 4 (Nat.le_of_ble_eq_true rfl) tk_R_cheapest rfl rfl ⟨trivial, trivial, trivial, trivial, trivial⟩ ?_
        obtain ⟨q1, hq4, hx⟩ := bd hx
        refine Ev.callS (ν := m_R_copy) (av := [vr 20 227 97, vr 20 227 98]) (rest := []) (r1 := none) (h1 := q1) 24 2 tk_R_cheapest rfl bb_R_copy vv_R_copy lk_12_331 (by decide) rfl rfl (Nat.le_of_ble_eq_true rfl) (s_R_copy Γ 227 97 227 98 (wI h 80 0 (ii 0)) _ hq4) ?_
        show Ev Γ m_R_cheapest 47 [some (vr 12 0 80), some (vi a1), some (vi a2)] [] q1 r h'
        refine Ev.blk (pc' := 62) (lv' := [some (vr 12 0 80), some (vi a1), some (vi a2)]) (st' := [vi (ii 0), vi (ii 0), vi (ii 0), vi a1, vr 12 0 80]) (h' := (wI (wI q1 80 47 (ii (-1))) 80 48 (ii 0))) 25 11 (Nat.le_of_ble_eq_true rfl) tk_R_cheapest rfl rfl ⟨trivial, trivial, trivial, trivial, trivial, trivial, trivial, trivial, trivial, trivial, trivial, trivial⟩ ?_
        obtain ⟨q2, hq5, hx⟩ := bd hx
        refine Ev.callV (ν := (m_R_goCheapest 8)) (av := [vi a1, vi (ii 0), vi (ii 0), vi (ii 0)]) (rest := []) (r1 := none) (h1 := q2) (ci := 12) (nn := 0) (o := 80) 36 4 tk_R_cheapest rfl (bb_R_goCheapest _) (vv_R_goCheapest _) lk_12_445 (by decide) rfl rfl (Or.inl rfl) (Nat.le_of_ble_eq_true rfl) (t_R_goCheapest Γ 8 a1 (ii 0) (ii 0) (ii 0) (wI (wI q1 80 47 (ii (-1))) 80 48 (ii 0)) _ hq5) ?_
        show Ev Γ m_R_cheapest 65 [some (vr 12 0 80), some (vi a1), some (vi a2)] [] q2 r h'
        refine Ev.blk (pc' := 70) (lv' := [some (vr 12 0 80), some (vi a1), some (vi a2)]) (st' := [vi (ii (-1)), vi (q2.1 80 47)]) (h' := q2) 37 3 (Nat.le_of_ble_eq_true rfl) tk_R_cheapest rfl rfl ⟨trivial, trivial, trivial, trivial⟩ ?_
        refine Ev.icmp_eq 40 77 tk_R_cheapest rfl (by decide) (fun hc6 => ?_) (fun hc6 => ?_)
        · replace hx := ip hc6 hx
          refine Ev.blk (pc' := 88) (lv' := [some (vr 12 0 80), some (vi a1), some (vi a2)]) (st' := [vi (q2.1 80 47)]) (h' := q2) 43 3 (Nat.le_of_ble_eq_true rfl) tk_R_cheapest rfl rfl ⟨trivial, trivial, trivial, trivial⟩ ?_
          obtain rfl := Option.some.inj hx
          obtain ⟨rfl, rfl⟩ := hP
          exact Ev.iret 48 tk_R_cheapest rfl rfl
        · replace hx := ia hc6 hx
          refine Ev.blk (pc' := 74) (lv' := [some (vr 12 0 80), some (vi a1), some (vi a2)]) (st' := [vi a2]) (h' := q2) 41 1 (Nat.le_of_ble_eq_true rfl) tk_R_cheapest rfl rfl ⟨trivial, trivial⟩ ?_
          refine Ev.if_ne 42 84 tk_R_cheapest rfl (by decide) (fun hc7 => ?_) (fun hc7 => ?_)
          · replace hx := ia hc7 hx
            refine Ev.blk (pc' := 88) (lv' := [some (vr 12 0 80), some (vi a1), some (vi a2)]) (st' := [vi (q2.1 80 48)]) (h' := q2) 46 2 (Nat.le_of_ble_eq_true rfl) tk_R_cheapest rfl rfl ⟨trivial, trivial, trivial⟩ ?_
            obtain rfl := Option.some.inj hx
            obtain ⟨rfl, rfl⟩ := hP
            exact Ev.iret 48 tk_R_cheapest rfl rfl
          · replace hx := ip hc7 hx
            refine Ev.blk (pc' := 88) (lv' := [some (vr 12 0 80), some (vi a1), some (vi a2)]) (st' := [vi (q2.1 80 47)]) (h' := q2) 43 3 (Nat.le_of_ble_eq_true rfl) tk_R_cheapest rfl rfl ⟨trivial, trivial, trivial, trivial⟩ ?_
            obtain rfl := Option.some.inj hx
            obtain ⟨rfl, rfl⟩ := hP
            exact Ev.iret 48 tk_R_cheapest rfl rfl
      · replace hx := ip hc3 hx
        refine Ev.blk (pc' := 35) (lv' := [some (vr 12 0 80), some (vi a1), some (vi a2)]) (st' := [vi (ii (-1))]) (h' := (wI h 80 0 (ii 0))) 18 1 (Nat.le_of_ble_eq_true rfl) tk_R_cheapest rfl rfl ⟨trivial, trivial⟩ ?_
        obtain rfl := Option.some.inj hx
        obtain ⟨rfl, rfl⟩ := hP
        exact Ev.iret 19 tk_R_cheapest rfl rfl
set_option maxRecDepth 4000 in
theorem l_R_reach_L65 (Γ : AG) : ∀ (n : Nat) (v1 : Int32) (v2 : Int32) (v3 : Int32) (v4 : Int32) (v5 : Int32) (v6 : Int32) (v7 : Int32) (h : AH) (x : Int32), R_reach_L65 n v1 v2 v3 v4 v5 v6 v7 h = some x → ∀ (r : Option AV) (h' : AH), Ev Γ m_R_reach 133 [some (vr 12 0 80), some (vi v1), some (vi v2), some (vi v3), some (vi v4), some (vi x), some (vi v6), none, none] [] h r h' → Ev Γ m_R_reach 65 [some (vr 12 0 80), some (vi v1), some (vi v2), some (vi v3), some (vi v4), some (vi v5), some (vi v6), some (vi v7), none] [] h r h' := by
  intro n
  induction n with
  | zero => intro v1 v2 v3 v4 v5 v6 v7 h x hx; cases hx
  | succ n ih =>
    intro v1 v2 v3 v4 v5 v6 v7 h x hx r h' hP
    replace hx : R_reach_L65_b (R_reach_L65 n) v1 v2 v3 v4 v5 v6 v7 h = some x := hx
    unfold R_reach_L65_b at hx
    refine Ev.blk (pc' := 68) (lv' := [some (vr 12 0 80), some (vi v1), some (vi v2), some (vi v3), some (vi v4), some (vi v5), some (vi v6), some (vi v7), none]) (st' := [vi (ii 4), vi v7]) (h' := h) 39 2 (Nat.le_of_ble_eq_true rfl) tk_R_reach rfl rfl ⟨trivial, trivial, trivial⟩ ?_
    refine Ev.icmp_ge 41 133 tk_R_reach rfl (by decide) (fun hc1 => ?_) (fun hc1 => ?_)
    · replace hx := ip hc1 hx
      obtain rfl := Option.some.inj hx
      exact Ev.msk [true, true, true, true, true, true, true, false, false] hP
    · replace hx := ia hc1 hx
      refine Ev.blk (pc' := 74) (lv' := [some (vr 12 0 80), some (vi v1), some (vi v2), some (vi v3), some (vi v4), some (vi v5), some (vi v6), some (vi v7), none]) (st' := [vi v6, vi v3]) (h' := h) 42 2 (Nat.le_of_ble_eq_true rfl) tk_R_reach rfl rfl ⟨trivial, trivial, trivial⟩ ?_
      refine Ev.callS (ν := m_R_has) (av := [vi v3, vi v6]) (rest := []) (r1 := some (vi (p_R_has v3 v6))) (h1 := h) 44 2 tk_R_reach rfl bb_R_has vv_R_has lk_12_235 (by decide) rfl rfl (Nat.le_of_ble_eq_true rfl) (s_R_has Γ v3 v6 h) ?_
      show Ev Γ m_R_reach 77 [some (vr 12 0 80), some (vi v1), some (vi v2), some (vi v3), some (vi v4), some (vi v5), some (vi v6), some (vi v7), none] [vi (p_R_has v3 v6)] h r h'
      refine Ev.if_eq 45 133 tk_R_reach rfl (by decide) (fun hc2 => ?_) (fun hc2 => ?_)
      · replace hx := ip hc2 hx
        obtain rfl := Option.some.inj hx
        exact Ev.msk [true, true, true, true, true, true, true, false, false] hP
      · replace hx := ia hc2 hx
        refine Ev.blk (pc' := 85) (lv' := [some (vr 12 0 80), some (vi v1), some (vi v2), some (vi v3), some (vi v4), some (vi v5), some (vi v6), some (vi v7), none]) (st' := [vi v7, vi v6, vr 12 0 80]) (h' := h) 46 3 (Nat.le_of_ble_eq_true rfl) tk_R_reach rfl rfl ⟨trivial, trivial, trivial, trivial⟩ ?_
        obtain ⟨q1, hq3, hx⟩ := bd hx
        refine Ev.callV (ν := m_R_stepTo) (av := [vi v6, vi v7]) (rest := []) (r1 := some (vi q1)) (h1 := h) (ci := 12) (nn := 0) (o := 80) 49 2 tk_R_reach rfl bb_R_stepTo vv_R_stepTo lk_12_350 (by decide) rfl rfl (Or.inl rfl) (Nat.le_of_ble_eq_true rfl) (s_R_stepTo Γ v6 v7 h _ hq3) ?_
        show Ev Γ m_R_reach 88 [some (vr 12 0 80), some (vi v1), some (vi v2), some (vi v3), some (vi v4), some (vi v5), some (vi v6), some (vi v7), none] [vi q1] h r h'
        refine Ev.blk (pc' := 93) (lv' := [some (vr 12 0 80), some (vi v1), some (vi v2), some (vi v3), some (vi v4), some (vi v5), some (vi v6), some (vi v7), some (vi q1)]) (st' := [vi (ii (-1)), vi q1]) (h' := h) 50 3 (Nat.le_of_ble_eq_true rfl) tk_R_reach rfl rfl ⟨trivial, trivial, trivial, trivial⟩ ?_
        obtain ⟨q3, hq4, hx⟩ := bd hx
        have K5 : Ev Γ m_R_reach 127 [some (vr 12 0 80), some (vi v1), some (vi v2), some (vi v3), some (vi v4), some (vi q3), some (vi v6), some (vi v7), none] [] h r h' := by
          refine Ev.blk (pc' := 65) (lv' := [some (vr 12 0 80), some (vi v1), some (vi v2), some (vi v3), some (vi v4), some (vi q3), some (vi v6), some (vi (v7 + ii 1)), none]) (st' := []) (h' := h) 72 2 (Nat.le_of_ble_eq_true rfl) tk_R_reach rfl rfl ⟨trivial, trivial, trivial⟩ ?_
          exact Ev.msk [true, true, true, true, true, true, true, true, false] (ih v1 v2 v3 v4 q3 v6 (v7 + ii 1) h _ hx r h' hP)
        clear hx
        refine Ev.icmp_eq 53 127 tk_R_reach rfl (by decide) (fun hc6 => ?_) (fun hc6 => ?_)
        · replace hq4 := ip hc6 hq4
          obtain rfl := Option.some.inj hq4
          exact Ev.msk [true, true, true, true, true, true, true, true, false] K5
        · replace hq4 := ia hc6 hq4
          refine Ev.blk (pc' := 105) (lv' := [some (vr 12 0 80), some (vi v1), some (vi v2), some (vi v3), some (vi v4), some (vi v5), some (vi v6), some (vi v7), some (vi q1)]) (st' := [vi (ii 5), vi v1, vr 12 0 80, vi (ii 13), vr 20 227 97]) (h' := h) 54 6 (Nat.le_of_ble_eq_true rfl) tk_R_reach rfl rfl ⟨trivial, trivial, trivial, trivial, trivial, trivial, trivial⟩ ?_
          obtain ⟨q2, hq7, hq4⟩ := bd hq4
          refine Ev.callV (ν := m_R_told) (av := [vi v1, vi (ii 5)]) (rest := [vi (ii 13), vr 20 227 97]) (r1 := some (vi q2)) (h1 := h) (ci := 12) (nn := 0) (o := 80) 60 2 tk_R_reach rfl bb_R_told vv_R_told lk_12_338 (by decide) rfl rfl (Or.inl rfl) (Nat.le_of_ble_eq_true rfl) (s_R_told Γ v1 (ii 5) h _ hq7) ?_
          show Ev Γ m_R_reach 108 [some (vr 12 0 80), some (vi v1), some (vi v2), some (vi v3), some (vi v4), some (vi v5), some (vi v6), some (vi v7), some (vi q1)] [vi q2, vi (ii 13), vr 20 227 97] h r h'
          obtain ⟨hg8, hq4⟩ := gd hq4
          refine Ev.blk (pc' := 112) (lv' := [some (vr 12 0 80), some (vi v1), some (vi v2), some (vi v3), some (vi v4), some (vi v5), some (vi v6), some (vi v7), some (vi q1)]) (st' := [vi q1, vi (h.1 97 ((ii 13) - q2).toNatClampNeg)]) (h' := h) 61 3 (Nat.le_of_ble_eq_true rfl) tk_R_reach rfl rfl ⟨trivial, hg8, trivial, trivial⟩ ?_
          refine Ev.callS (ν := m_R_has) (av := [vi (h.1 97 ((ii 13) - q2).toNatClampNeg), vi q1]) (rest := []) (r1 := some (vi (p_R_has (h.1 97 ((ii 13) - q2).toNatClampNeg) q1))) (h1 := h) 64 2 tk_R_reach rfl bb_R_has vv_R_has lk_12_235 (by decide) rfl rfl (Nat.le_of_ble_eq_true rfl) (s_R_has Γ (h.1 97 ((ii 13) - q2).toNatClampNeg) q1 h) ?_
          show Ev Γ m_R_reach 115 [some (vr 12 0 80), some (vi v1), some (vi v2), some (vi v3), some (vi v4), some (vi v5), some (vi v6), some (vi v7), some (vi q1)] [vi (p_R_has (h.1 97 ((ii 13) - q2).toNatClampNeg) q1)] h r h'
          refine Ev.if_ne 65 127 tk_R_reach rfl (by decide) (fun hc9 => ?_) (fun hc9 => ?_)
          · replace hq4 := ia hc9 hq4
            obtain rfl := Option.some.inj hq4
            exact Ev.msk [true, true, true, true, true, true, true, true, false] K5
          · replace hq4 := ip hc9 hq4
            refine Ev.blk (pc' := 127) (lv' := [some (vr 12 0 80), some (vi v1), some (vi v2), some (vi v3), some (vi v4), some (vi (v5 ||| (shlI (ii 1) q1))), some (vi v6), some (vi v7), some (vi q1)]) (st' := []) (h' := h) 66 6 (Nat.le_of_ble_eq_true rfl) tk_R_reach rfl rfl ⟨trivial, trivial, trivial, trivial, trivial, trivial, trivial⟩ ?_
            obtain rfl := Option.some.inj hq4
            exact Ev.msk [true, true, true, true, true, true, true, true, false] K5
set_option maxRecDepth 4000 in
theorem l_R_reach_L53 (Γ : AG) : ∀ (n : Nat) (v1 : Int32) (v2 : Int32) (v3 : Int32) (v4 : Int32) (v5 : Int32) (v6 : Int32) (h : AH) (x : Int32), R_reach_L53 n v1 v2 v3 v4 v5 v6 h = some x → ∀ (r : Option AV) (h' : AH), Ev Γ m_R_reach 139 [some (vr 12 0 80), some (vi v1), some (vi v2), none, some (vi v4), some (vi x), none, none, none] [] h r h' → Ev Γ m_R_reach 53 [some (vr 12 0 80), some (vi v1), some (vi v2), some (vi v3), some (vi v4), some (vi v5), some (vi v6), none, none] [] h r h' := by
  intro n
  induction n with
  | zero => intro v1 v2 v3 v4 v5 v6 h x hx; cases hx
  | succ n ih =>
    intro v1 v2 v3 v4 v5 v6 h x hx r h' hP
    replace hx : R_reach_L53_b (R_reach_L53 n) v1 v2 v3 v4 v5 v6 h = some x := hx
    unfold R_reach_L53_b at hx
    refine Ev.blk (pc' := 59) (lv' := [some (vr 12 0 80), some (vi v1), some (vi v2), some (vi v3), some (vi v4), some (vi v5), some (vi v6), none, none]) (st' := [vi (h.1 80 34), vi v6]) (h' := h) 33 3 (Nat.le_of_ble_eq_true rfl) tk_R_reach rfl rfl ⟨trivial, trivial, trivial, trivial⟩ ?_
    refine Ev.icmp_ge 36 139 tk_R_reach rfl (by decide) (fun hc1 => ?_) (fun hc1 => ?_)
    · replace hx := ip hc1 hx
      obtain rfl := Option.some.inj hx
      exact Ev.msk [true, true, true, false, true, true, false, false, false] hP
    · replace hx := ia hc1 hx
      refine Ev.blk (pc' := 65) (lv' := [some (vr 12 0 80), some (vi v1), some (vi v2), some (vi v3), some (vi v4), some (vi v5), some (vi v6), some (vi (ii 0)), none]) (st' := []) (h' := h) 37 2 (Nat.le_of_ble_eq_true rfl) tk_R_reach rfl rfl ⟨trivial, trivial, trivial⟩ ?_
      obtain ⟨q1, hq2, hx⟩ := bd hx
      refine Ev.msk [true, true, true, true, true, true, true, true, false] ?_
      show Ev Γ m_R_reach 65 [some (vr 12 0 80), some (vi v1), some (vi v2), some (vi v3), some (vi v4), some (vi v5), some (vi v6), some (vi (ii 0)), none] [] h r h'
      refine l_R_reach_L65 Γ FU v1 v2 v3 v4 v5 v6 (ii 0) h _ hq2 r h' ?_
      show Ev Γ m_R_reach 133 [some (vr 12 0 80), some (vi v1), some (vi v2), some (vi v3), some (vi v4), some (vi q1), some (vi v6), none, none] [] h r h'
      refine Ev.blk (pc' := 53) (lv' := [some (vr 12 0 80), some (vi v1), some (vi v2), some (vi v3), some (vi v4), some (vi q1), some (vi (v6 + ii 1)), none, none]) (st' := []) (h' := h) 74 2 (Nat.le_of_ble_eq_true rfl) tk_R_reach rfl rfl ⟨trivial, trivial, trivial⟩ ?_
      exact Ev.msk [true, true, true, true, true, true, true, false, false] (ih v1 v2 v3 v4 q1 (v6 + ii 1) h _ hx r h' hP)
set_option maxRecDepth 4000 in
theorem l_R_reach_L41 (Γ : AG) : ∀ (n : Nat) (v1 : Int32) (v2 : Int32) (v3 : Int32) (v4 : Int32) (h : AH) (x : Int32 × AH), R_reach_L41 n v1 v2 v3 v4 h = some x → ∀ (r : Option AV) (h' : AH), r = some (vi x.1) ∧ h' = x.2 → Ev Γ m_R_reach 41 [some (vr 12 0 80), some (vi v1), some (vi v2), some (vi v3), some (vi v4), none, none, none, none] [] h r h' := by
  intro n
  induction n with
  | zero => intro v1 v2 v3 v4 h x hx; cases hx
  | succ n ih =>
    intro v1 v2 v3 v4 h x hx r h' hP
    replace hx : R_reach_L41_b (R_reach_L41 n) v1 v2 v3 v4 h = some x := hx
    unfold R_reach_L41_b at hx
    refine Ev.blk (pc' := 44) (lv' := [some (vr 12 0 80), some (vi v1), some (vi v2), some (vi v3), some (vi v4), none, none, none, none]) (st' := [vi v2, vi v4]) (h' := h) 26 2 (Nat.le_of_ble_eq_true rfl) tk_R_reach rfl rfl ⟨trivial, trivial, trivial⟩ ?_
    refine Ev.icmp_ge 28 148 tk_R_reach rfl (by decide) (fun hc1 => ?_) (fun hc1 => ?_)
    · replace hx := ip hc1 hx
      refine Ev.blk (pc' := 149) (lv' := [some (vr 12 0 80), some (vi v1), some (vi v2), some (vi v3), some (vi v4), none, none, none, none]) (st' := [vi v3]) (h' := h) 80 1 (Nat.le_of_ble_eq_true rfl) tk_R_reach rfl rfl ⟨trivial, trivial⟩ ?_
      obtain rfl := Option.some.inj hx
      obtain ⟨rfl, rfl⟩ := hP
      exact Ev.iret 81 tk_R_reach rfl rfl
    · replace hx := ia hc1 hx
      refine Ev.blk (pc' := 53) (lv' := [some (vr 12 0 80), some (vi v1), some (vi v2), some (vi v3), some (vi v4), some (vi v3), some (vi (ii 0)), none, none]) (st' := []) (h' := h) 29 4 (Nat.le_of_ble_eq_true rfl) tk_R_reach rfl rfl ⟨trivial, trivial, trivial, trivial, trivial⟩ ?_
      obtain ⟨q1, hq2, hx⟩ := bd hx
      refine Ev.msk [true, true, true, true, true, true, true, false, false] ?_
      show Ev Γ m_R_reach 53 [some (vr 12 0 80), some (vi v1), some (vi v2), some (vi v3), some (vi v4), some (vi v3), some (vi (ii 0)), none, none] [] h r h'
      refine l_R_reach_L53 Γ FU v1 v2 v3 v4 v3 (ii 0) h _ hq2 r h' ?_
      show Ev Γ m_R_reach 139 [some (vr 12 0 80), some (vi v1), some (vi v2), none, some (vi v4), some (vi q1), none, none, none] [] h r h'
      refine Ev.blk (pc' := 41) (lv' := [some (vr 12 0 80), some (vi v1), some (vi v2), some (vi q1), some (vi (v4 + ii 1)), some (vi q1), none, none, none]) (st' := []) (h' := h) 76 4 (Nat.le_of_ble_eq_true rfl) tk_R_reach rfl rfl ⟨trivial, trivial, trivial, trivial, trivial⟩ ?_
      exact Ev.msk [true, true, true, true, true, false, false, false, false] (ih v1 v2 q1 (v4 + ii 1) h _ hx r h' hP)
set_option maxRecDepth 4000 in
theorem s_R_reach (Γ : AG) (a1 : Int32) (a2 : Int32) (h : AH) (x : Int32 × AH) (hx : f_R_reach a1 a2 h = some x) : MetA Γ m_R_reach [vr 12 0 80, vi a1, vi a2] h (some (vi x.1)) x.2 := by
  refine Ev.met rfl rfl (Nat.le_of_ble_eq_true rfl) ?_
  show Ev Γ m_R_reach 0 [some (vr 12 0 80), some (vi a1), some (vi a2), none, none, none, none, none, none] [] h _ _
  obtain ⟨r, hr⟩ : ∃ r : Option AV, r = some (vi x.1) := ⟨_, rfl⟩
  obtain ⟨h', hh⟩ : ∃ h' : AH, h' = x.2 := ⟨_, rfl⟩
  have hP : r = some (vi x.1) ∧ h' = x.2 := ⟨hr, hh⟩
  suffices hS : Ev Γ m_R_reach 0 [some (vr 12 0 80), some (vi a1), some (vi a2), none, none, none, none, none, none] [] h r h' by rw [hr, hh] at hS; exact hS
  clear hr hh
  unfold f_R_reach at hx
  refine Ev.blk (pc' := 7) (lv' := [some (vr 12 0 80), some (vi a1), some (vi a2), none, none, none, none, none, none]) (st' := [vi a1, vr 12 0 80]) (h' := (wI h 80 0 (ii 0))) 0 5 (Nat.le_of_ble_eq_true rfl) tk_R_reach rfl rfl ⟨trivial, trivial, trivial, trivial, trivial, trivial⟩ ?_
  refine Ev.callV (ν := m_R_isFork) (av := [vi a1]) (rest := []) (r1 := some (vi (p_R_isFork a1 (wI h 80 0 (ii 0))))) (h1 := (wI h 80 0 (ii 0))) (ci := 12) (nn := 0) (o := 80) 5 1 tk_R_reach rfl bb_R_isFork vv_R_isFork lk_12_377 (by decide) rfl rfl (Or.inl rfl) (Nat.le_of_ble_eq_true rfl) (s_R_isFork Γ a1 (wI h 80 0 (ii 0))) ?_
  show Ev Γ m_R_reach 10 [some (vr 12 0 80), some (vi a1), some (vi a2), none, none, none, none, none, none] [vi (p_R_isFork a1 (wI h 80 0 (ii 0)))] (wI h 80 0 (ii 0)) r h'
  refine Ev.if_eq 6 25 tk_R_reach rfl (by decide) (fun hc1 => ?_) (fun hc1 => ?_)
  · replace hx := ip hc1 hx
    refine Ev.blk (pc' := 26) (lv' := [some (vr 12 0 80), some (vi a1), some (vi a2), none, none, none, none, none, none]) (st' := [vi (ii (-1))]) (h' := (wI h 80 0 (ii 0))) 13 1 (Nat.le_of_ble_eq_true rfl) tk_R_reach rfl rfl ⟨trivial, trivial⟩ ?_
    obtain rfl := Option.some.inj hx
    obtain ⟨rfl, rfl⟩ := hP
    exact Ev.iret 14 tk_R_reach rfl rfl
  · replace hx := ia hc1 hx
    refine Ev.blk (pc' := 19) (lv' := [some (vr 12 0 80), some (vi a1), some (vi a2), none, none, none, none, none, none]) (st' := [vl (Int64.ofInt 9), vl (Int64.ofNat 0), vl a2.toInt64]) (h' := (wI h 80 0 (ii 0))) 7 4 (Nat.le_of_ble_eq_true rfl) tk_R_reach rfl rfl ⟨trivial, trivial, trivial, trivial, trivial⟩ ?_
    refine Ev.callS (ν := m_R_isIn) (av := [vl a2.toInt64, vl (Int64.ofNat 0), vl (Int64.ofInt 9)]) (rest := []) (r1 := some (vi (p_R_isIn a2.toInt64 (Int64.ofNat 0) (Int64.ofInt 9)))) (h1 := (wI h 80 0 (ii 0))) 11 3 tk_R_reach rfl bb_R_isIn vv_R_isIn lk_12_223 (by decide) rfl rfl (Nat.le_of_ble_eq_true rfl) (s_R_isIn Γ a2.toInt64 (Int64.ofNat 0) (Int64.ofInt 9) (wI h 80 0 (ii 0))) ?_
    show Ev Γ m_R_reach 22 [some (vr 12 0 80), some (vi a1), some (vi a2), none, none, none, none, none, none] [vi (p_R_isIn a2.toInt64 (Int64.ofNat 0) (Int64.ofInt 9))] (wI h 80 0 (ii 0)) r h'
    refine Ev.if_ne 12 27 tk_R_reach rfl (by decide) (fun hc2 => ?_) (fun hc2 => ?_)
    · replace hx := ia hc2 hx
      obtain ⟨hg3, hx⟩ := gd hx
      refine Ev.blk (pc' := 41) (lv' := [some (vr 12 0 80), some (vi a1), some (vi a2), some (vi (shlI (ii 1) ((wI h 80 0 (ii 0)).1 97 ((ii 2) * a1).toNatClampNeg))), some (vi (ii 0)), none, none, none, none]) (st' := []) (h' := (wI h 80 0 (ii 0))) 15 11 (Nat.le_of_ble_eq_true rfl) tk_R_reach rfl rfl ⟨trivial, trivial, trivial, trivial, trivial, trivial, hg3, trivial, trivial, trivial, trivial, trivial⟩ ?_
      refine Ev.msk [true, true, true, true, true, false, false, false, false] ?_
      show Ev Γ m_R_reach 41 [some (vr 12 0 80), some (vi a1), some (vi a2), some (vi (shlI (ii 1) ((wI h 80 0 (ii 0)).1 97 ((ii 2) * a1).toNatClampNeg))), some (vi (ii 0)), none, none, none, none] [] (wI h 80 0 (ii 0)) r h'
      exact l_R_reach_L41 Γ FU a1 a2 (shlI (ii 1) ((wI h 80 0 (ii 0)).1 97 ((ii 2) * a1).toNatClampNeg)) (ii 0) (wI h 80 0 (ii 0)) _ hx r h' hP
    · replace hx := ip hc2 hx
      refine Ev.blk (pc' := 26) (lv' := [some (vr 12 0 80), some (vi a1), some (vi a2), none, none, none, none, none, none]) (st' := [vi (ii (-1))]) (h' := (wI h 80 0 (ii 0))) 13 1 (Nat.le_of_ble_eq_true rfl) tk_R_reach rfl rfl ⟨trivial, trivial⟩ ?_
      obtain rfl := Option.some.inj hx
      obtain ⟨rfl, rfl⟩ := hP
      exact Ev.iret 14 tk_R_reach rfl rfl
set_option maxRecDepth 4000 in
theorem l_R_stuck_L31 (Γ : AG) : ∀ (n : Nat) (v1 : Int32) (v2 : Int32) (v3 : Int32) (v4 : Int32) (h : AH) (x : Int32), R_stuck_L31 n v1 v2 v3 v4 h = some x → ∀ (r : Option AV) (h' : AH), Ev Γ m_R_stuck 68 [some (vr 12 0 80), some (vi v1), some (vi v2), some (vi x), none] [] h r h' → Ev Γ m_R_stuck 31 [some (vr 12 0 80), some (vi v1), some (vi v2), some (vi v3), some (vi v4)] [] h r h' := by
  intro n
  induction n with
  | zero => intro v1 v2 v3 v4 h x hx; cases hx
  | succ n ih =>
    intro v1 v2 v3 v4 h x hx r h' hP
    replace hx : R_stuck_L31_b (R_stuck_L31 n) v1 v2 v3 v4 h = some x := hx
    unfold R_stuck_L31_b at hx
    refine Ev.blk (pc' := 34) (lv' := [some (vr 12 0 80), some (vi v1), some (vi v2), some (vi v3), some (vi v4)]) (st' := [vi (ii 4), vi v4]) (h' := h) 20 2 (Nat.le_of_ble_eq_true rfl) tk_R_stuck rfl rfl ⟨trivial, trivial, trivial⟩ ?_
    refine Ev.icmp_ge 22 68 tk_R_stuck rfl (by decide) (fun hc1 => ?_) (fun hc1 => ?_)
    · replace hx := ip hc1 hx
      obtain rfl := Option.some.inj hx
      exact Ev.msk [true, true, true, true, false] hP
    · replace hx := ia hc1 hx
      refine Ev.blk (pc' := 38) (lv' := [some (vr 12 0 80), some (vi v1), some (vi v2), some (vi v3), some (vi v4)]) (st' := [vi v3]) (h' := h) 23 1 (Nat.le_of_ble_eq_true rfl) tk_R_stuck rfl rfl ⟨trivial, trivial⟩ ?_
      obtain ⟨q2, hq2, hx⟩ := bd hx
      have K3 : Ev Γ m_R_stuck 61 [some (vr 12 0 80), some (vi v1), some (vi v2), none, some (vi v4)] [vi q2] h r h' := by
        refine Ev.blk (pc' := 31) (lv' := [some (vr 12 0 80), some (vi v1), some (vi v2), some (vi q2), some (vi (v4 + ii 1))]) (st' := []) (h' := h) 36 3 (Nat.le_of_ble_eq_true rfl) tk_R_stuck rfl rfl ⟨trivial, trivial, trivial, trivial⟩ ?_
        exact Ev.msk [true, true, true, true, true] (ih v1 v2 q2 (v4 + ii 1) h _ hx r h' hP)
      clear hx
      refine Ev.if_ne 24 56 tk_R_stuck rfl (by decide) (fun hc4 => ?_) (fun hc4 => ?_)
      · replace hq2 := ia hc4 hq2
        refine Ev.blk (pc' := 61) (lv' := [some (vr 12 0 80), some (vi v1), some (vi v2), some (vi v3), some (vi v4)]) (st' := [vi (ii 1)]) (h' := h) 33 2 (Nat.le_of_ble_eq_true rfl) tk_R_stuck rfl rfl ⟨trivial, trivial, trivial⟩ ?_
        obtain rfl := Option.some.inj hq2
        exact Ev.msk [true, true, true, false, true] K3
      · replace hq2 := ip hc4 hq2
        refine Ev.blk (pc' := 49) (lv' := [some (vr 12 0 80), some (vi v1), some (vi v2), some (vi v3), some (vi v4)]) (st' := [vi v4, vi v2, vr 20 227 97, vr 12 0 80]) (h' := h) 25 5 (Nat.le_of_ble_eq_true rfl) tk_R_stuck rfl rfl ⟨trivial, trivial, trivial, trivial, trivial, trivial⟩ ?_
        obtain ⟨q1, hq5, hq2⟩ := bd hq2
        refine Ev.callV (ν := m_R_whereTo) (av := [vr 20 227 97, vi v2, vi v4]) (rest := []) (r1 := some (vi q1)) (h1 := h) (ci := 12) (nn := 0) (o := 80) 30 3 tk_R_stuck rfl bb_R_whereTo vv_R_whereTo lk_12_385 (by decide) rfl rfl (Or.inl rfl) (Nat.le_of_ble_eq_true rfl) (s_R_whereTo Γ 227 97 v2 v4 h _ hq5) ?_
        show Ev Γ m_R_stuck 52 [some (vr 12 0 80), some (vi v1), some (vi v2), some (vi v3), some (vi v4)] [vi q1] h r h'
        refine Ev.blk (pc' := 53) (lv' := [some (vr 12 0 80), some (vi v1), some (vi v2), some (vi v3), some (vi v4)]) (st' := [vi (ii (-1)), vi q1]) (h' := h) 31 1 (Nat.le_of_ble_eq_true rfl) tk_R_stuck rfl rfl ⟨trivial, trivial⟩ ?_
        refine Ev.icmp_eq 32 60 tk_R_stuck rfl (by decide) (fun hc6 => ?_) (fun hc6 => ?_)
        · replace hq2 := ip hc6 hq2
          refine Ev.blk (pc' := 61) (lv' := [some (vr 12 0 80), some (vi v1), some (vi v2), some (vi v3), some (vi v4)]) (st' := [vi (ii 0)]) (h' := h) 35 1 (Nat.le_of_ble_eq_true rfl) tk_R_stuck rfl rfl ⟨trivial, trivial⟩ ?_
          obtain rfl := Option.some.inj hq2
          exact Ev.msk [true, true, true, false, true] K3
        · replace hq2 := ia hc6 hq2
          refine Ev.blk (pc' := 61) (lv' := [some (vr 12 0 80), some (vi v1), some (vi v2), some (vi v3), some (vi v4)]) (st' := [vi (ii 1)]) (h' := h) 33 2 (Nat.le_of_ble_eq_true rfl) tk_R_stuck rfl rfl ⟨trivial, trivial, trivial⟩ ?_
          obtain rfl := Option.some.inj hq2
          exact Ev.msk [true, true, true, false, true] K3
set_option maxRecDepth 4000 in
theorem l_R_stuck_L18 (Γ : AG) : ∀ (n : Nat) (v1 : Int32) (v2 : Int32) (h : AH) (x : Int32 × AH), R_stuck_L18 n v1 v2 h = some x → ∀ (r : Option AV) (h' : AH), r = some (vi x.1) ∧ h' = x.2 → Ev Γ m_R_stuck 18 [some (vr 12 0 80), some (vi v1), some (vi v2), none, none] [] h r h' := by
  intro n
  induction n with
  | zero => intro v1 v2 h x hx; cases hx
  | succ n ih =>
    intro v1 v2 h x hx r h' hP
    replace hx : R_stuck_L18_b (R_stuck_L18 n) v1 v2 h = some x := hx
    unfold R_stuck_L18_b at hx
    refine Ev.blk (pc' := 23) (lv' := [some (vr 12 0 80), some (vi v1), some (vi v2), none, none]) (st' := [vi (h.1 80 33), vi v2]) (h' := h) 12 3 (Nat.le_of_ble_eq_true rfl) tk_R_stuck rfl rfl ⟨trivial, trivial, trivial, trivial⟩ ?_
    refine Ev.icmp_ge 15 88 tk_R_stuck rfl (by decide) (fun hc1 => ?_) (fun hc1 => ?_)
    · replace hx := ip hc1 hx
      refine Ev.blk (pc' := 89) (lv' := [some (vr 12 0 80), some (vi v1), some (vi v2), none, none]) (st' := [vi v1]) (h' := h) 51 1 (Nat.le_of_ble_eq_true rfl) tk_R_stuck rfl rfl ⟨trivial, trivial⟩ ?_
      obtain rfl := Option.some.inj hx
      obtain ⟨rfl, rfl⟩ := hP
      exact Ev.iret 52 tk_R_stuck rfl rfl
    · replace hx := ia hc1 hx
      refine Ev.blk (pc' := 31) (lv' := [some (vr 12 0 80), some (vi v1), some (vi v2), some (vi (ii 0)), some (vi (ii 0))]) (st' := []) (h' := h) 16 4 (Nat.le_of_ble_eq_true rfl) tk_R_stuck rfl rfl ⟨trivial, trivial, trivial, trivial, trivial⟩ ?_
      obtain ⟨q1, hq2, hx⟩ := bd hx
      refine Ev.msk [true, true, true, true, true] ?_
      show Ev Γ m_R_stuck 31 [some (vr 12 0 80), some (vi v1), some (vi v2), some (vi (ii 0)), some (vi (ii 0))] [] h r h'
      refine l_R_stuck_L31 Γ FU v1 v2 (ii 0) (ii 0) h _ hq2 r h' ?_
      show Ev Γ m_R_stuck 68 [some (vr 12 0 80), some (vi v1), some (vi v2), some (vi q1), none] [] h r h'
      refine Ev.blk (pc' := 70) (lv' := [some (vr 12 0 80), some (vi v1), some (vi v2), some (vi q1), none]) (st' := [vi q1, vi v1]) (h' := h) 39 2 (Nat.le_of_ble_eq_true rfl) tk_R_stuck rfl rfl ⟨trivial, trivial, trivial⟩ ?_
      have K3 : ∀ v3_0 : Int32, v3_0 = (if q1 = 0 then (shlI (ii 1) v2) else (ii 0)) → Ev Γ m_R_stuck 80 [some (vr 12 0 80), none, some (vi v2), none, none] [vi v3_0, vi v1] h r h' := by
        intro v3_0 e4
        subst e4
        refine Ev.blk (pc' := 18) (lv' := [some (vr 12 0 80), some (vi (v1 ||| (if q1 = 0 then (shlI (ii 1) v2) else (ii 0)))), some (vi (v2 + ii 1)), none, none]) (st' := []) (h' := h) 47 4 (Nat.le_of_ble_eq_true rfl) tk_R_stuck rfl rfl ⟨trivial, trivial, trivial, trivial, trivial⟩ ?_
        exact Ev.msk [true, true, true, false, false] (ih (v1 ||| (if q1 = 0 then (shlI (ii 1) v2) else (ii 0))) (v2 + ii 1) h _ hx r h' hP)
      refine Ev.if_eq 41 77 tk_R_stuck rfl (by decide) (fun hc5 => ?_) (fun hc5 => ?_)
      · refine Ev.blk (pc' := 80) (lv' := [some (vr 12 0 80), some (vi v1), some (vi v2), some (vi q1), none]) (st' := [vi (shlI (ii 1) v2), vi v1]) (h' := h) 44 3 (Nat.le_of_ble_eq_true rfl) tk_R_stuck rfl rfl ⟨trivial, trivial, trivial, trivial⟩ ?_
        exact Ev.msk [true, false, true, false, false] (K3 _ (by first | rfl | simp only [if_pos hc5]))
      · refine Ev.blk (pc' := 80) (lv' := [some (vr 12 0 80), some (vi v1), some (vi v2), some (vi q1), none]) (st' := [vi (ii 0), vi v1]) (h' := h) 42 2 (Nat.le_of_ble_eq_true rfl) tk_R_stuck rfl rfl ⟨trivial, trivial, trivial⟩ ?_
        exact Ev.msk [true, false, true, false, false] (K3 _ (by first | rfl | simp only [if_neg hc5]))
set_option maxRecDepth 4000 in
theorem s_R_stuck (Γ : AG) (h : AH) (x : Int32 × AH) (hx : f_R_stuck  h = some x) : MetA Γ m_R_stuck [vr 12 0 80] h (some (vi x.1)) x.2 := by
  refine Ev.met rfl rfl (Nat.le_of_ble_eq_true rfl) ?_
  show Ev Γ m_R_stuck 0 [some (vr 12 0 80), none, none, none, none] [] h _ _
  obtain ⟨r, hr⟩ : ∃ r : Option AV, r = some (vi x.1) := ⟨_, rfl⟩
  obtain ⟨h', hh⟩ : ∃ h' : AH, h' = x.2 := ⟨_, rfl⟩
  have hP : r = some (vi x.1) ∧ h' = x.2 := ⟨hr, hh⟩
  suffices hS : Ev Γ m_R_stuck 0 [some (vr 12 0 80), none, none, none, none] [] h r h' by rw [hr, hh] at hS; exact hS
  clear hr hh
  unfold f_R_stuck at hx
  refine Ev.blk (pc' := 9) (lv' := [some (vr 12 0 80), none, none, none, none]) (st' := [vi ((wI h 80 0 (ii 0)).1 80 34)]) (h' := (wI h 80 0 (ii 0))) 0 5 (Nat.le_of_ble_eq_true rfl) tk_R_stuck rfl rfl ⟨trivial, trivial, trivial, trivial, trivial, trivial⟩ ?_
  refine Ev.if_ne 5 14 tk_R_stuck rfl (by decide) (fun hc1 => ?_) (fun hc1 => ?_)
  · replace hx := ia hc1 hx
    refine Ev.blk (pc' := 18) (lv' := [some (vr 12 0 80), some (vi (ii 0)), some (vi (ii 0)), none, none]) (st' := []) (h' := (wI h 80 0 (ii 0))) 8 4 (Nat.le_of_ble_eq_true rfl) tk_R_stuck rfl rfl ⟨trivial, trivial, trivial, trivial, trivial⟩ ?_
    refine Ev.msk [true, true, true, false, false] ?_
    show Ev Γ m_R_stuck 18 [some (vr 12 0 80), some (vi (ii 0)), some (vi (ii 0)), none, none] [] (wI h 80 0 (ii 0)) r h'
    exact l_R_stuck_L18 Γ FU (ii 0) (ii 0) (wI h 80 0 (ii 0)) _ hx r h' hP
  · replace hx := ip hc1 hx
    refine Ev.blk (pc' := 13) (lv' := [some (vr 12 0 80), none, none, none, none]) (st' := [vi (ii (-1))]) (h' := (wI h 80 0 (ii 0))) 6 1 (Nat.le_of_ble_eq_true rfl) tk_R_stuck rfl rfl ⟨trivial, trivial⟩ ?_
    obtain rfl := Option.some.inj hx
    obtain ⟨rfl, rfl⟩ := hP
    exact Ev.iret 7 tk_R_stuck rfl rfl
set_option maxRecDepth 4000 in
theorem s_R_trail (Γ : AG) (a1 : Int32) (a2 : Int32) (h : AH) (x : Int32 × AH) (hx : f_R_trail a1 a2 h = some x) : MetA Γ m_R_trail [vr 12 0 80, vi a1, vi a2] h (some (vi x.1)) x.2 := by
  refine Ev.met rfl rfl (Nat.le_of_ble_eq_true rfl) ?_
  show Ev Γ m_R_trail 0 [some (vr 12 0 80), some (vi a1), some (vi a2)] [] h _ _
  obtain ⟨r, hr⟩ : ∃ r : Option AV, r = some (vi x.1) := ⟨_, rfl⟩
  obtain ⟨h', hh⟩ : ∃ h' : AH, h' = x.2 := ⟨_, rfl⟩
  have hP : r = some (vi x.1) ∧ h' = x.2 := ⟨hr, hh⟩
  suffices hS : Ev Γ m_R_trail 0 [some (vr 12 0 80), some (vi a1), some (vi a2)] [] h r h' by rw [hr, hh] at hS; exact hS
  clear hr hh
  unfold f_R_trail at hx
  refine Ev.blk (pc' := 9) (lv' := [some (vr 12 0 80), some (vi a1), some (vi a2)]) (st' := [vi ((wI h 80 0 (ii 0)).1 80 34)]) (h' := (wI h 80 0 (ii 0))) 0 5 (Nat.le_of_ble_eq_true rfl) tk_R_trail rfl rfl ⟨trivial, trivial, trivial, trivial, trivial, trivial⟩ ?_
  refine Ev.if_eq 5 32 tk_R_trail rfl (by decide) (fun hc1 => ?_) (fun hc1 => ?_)
  · replace hx := ip hc1 hx
    refine Ev.blk (pc' := 33) (lv' := [some (vr 12 0 80), some (vi a1), some (vi a2)]) (st' := [vi (ii (-1))]) (h' := (wI h 80 0 (ii 0))) 18 1 (Nat.le_of_ble_eq_true rfl) tk_R_trail rfl rfl ⟨trivial, trivial⟩ ?_
    obtain rfl := Option.some.inj hx
    obtain ⟨rfl, rfl⟩ := hP
    exact Ev.iret 19 tk_R_trail rfl rfl
  · replace hx := ia hc1 hx
    refine Ev.blk (pc' := 16) (lv' := [some (vr 12 0 80), some (vi a1), some (vi a2)]) (st' := [vl (Int64.ofNat 1), vl (Int64.ofNat 0), vl a1.toInt64]) (h' := (wI h 80 0 (ii 0))) 6 4 (Nat.le_of_ble_eq_true rfl) tk_R_trail rfl rfl ⟨trivial, trivial, trivial, trivial, trivial⟩ ?_
    refine Ev.callS (ν := m_R_isIn) (av := [vl a1.toInt64, vl (Int64.ofNat 0), vl (Int64.ofNat 1)]) (rest := []) (r1 := some (vi (p_R_isIn a1.toInt64 (Int64.ofNat 0) (Int64.ofNat 1)))) (h1 := (wI h 80 0 (ii 0))) 10 3 tk_R_trail rfl bb_R_isIn vv_R_isIn lk_12_223 (by decide) rfl rfl (Nat.le_of_ble_eq_true rfl) (s_R_isIn Γ a1.toInt64 (Int64.ofNat 0) (Int64.ofNat 1) (wI h 80 0 (ii 0))) ?_
    show Ev Γ m_R_trail 19 [some (vr 12 0 80), some (vi a1), some (vi a2)] [vi (p_R_isIn a1.toInt64 (Int64.ofNat 0) (Int64.ofNat 1))] (wI h 80 0 (ii 0)) r h'
    refine Ev.if_eq 11 32 tk_R_trail rfl (by decide) (fun hc2 => ?_) (fun hc2 => ?_)
    · replace hx := ip hc2 hx
      refine Ev.blk (pc' := 33) (lv' := [some (vr 12 0 80), some (vi a1), some (vi a2)]) (st' := [vi (ii (-1))]) (h' := (wI h 80 0 (ii 0))) 18 1 (Nat.le_of_ble_eq_true rfl) tk_R_trail rfl rfl ⟨trivial, trivial⟩ ?_
      obtain rfl := Option.some.inj hx
      obtain ⟨rfl, rfl⟩ := hP
      exact Ev.iret 19 tk_R_trail rfl rfl
    · replace hx := ia hc2 hx
      refine Ev.blk (pc' := 26) (lv' := [some (vr 12 0 80), some (vi a1), some (vi a2)]) (st' := [vl (Int64.ofNat 1), vl (Int64.ofNat 0), vl a2.toInt64]) (h' := (wI h 80 0 (ii 0))) 12 4 (Nat.le_of_ble_eq_true rfl) tk_R_trail rfl rfl ⟨trivial, trivial, trivial, trivial, trivial⟩ ?_
      refine Ev.callS (ν := m_R_isIn) (av := [vl a2.toInt64, vl (Int64.ofNat 0), vl (Int64.ofNat 1)]) (rest := []) (r1 := some (vi (p_R_isIn a2.toInt64 (Int64.ofNat 0) (Int64.ofNat 1)))) (h1 := (wI h 80 0 (ii 0))) 16 3 tk_R_trail rfl bb_R_isIn vv_R_isIn lk_12_223 (by decide) rfl rfl (Nat.le_of_ble_eq_true rfl) (s_R_isIn Γ a2.toInt64 (Int64.ofNat 0) (Int64.ofNat 1) (wI h 80 0 (ii 0))) ?_
      show Ev Γ m_R_trail 29 [some (vr 12 0 80), some (vi a1), some (vi a2)] [vi (p_R_isIn a2.toInt64 (Int64.ofNat 0) (Int64.ofNat 1))] (wI h 80 0 (ii 0)) r h'
      refine Ev.if_ne 17 34 tk_R_trail rfl (by decide) (fun hc3 => ?_) (fun hc3 => ?_)
      · replace hx := ia hc3 hx
        refine Ev.blk (pc' := 35) (lv' := [some (vr 12 0 80), some (vi a1), some (vi a2)]) (st' := [vi a2]) (h' := (wI h 80 0 (ii 0))) 20 1 (Nat.le_of_ble_eq_true rfl) tk_R_trail rfl rfl ⟨trivial, trivial⟩ ?_
        refine Ev.if_ne 21 50 tk_R_trail rfl (by decide) (fun hc4 => ?_) (fun hc4 => ?_)
        · replace hx := ia hc4 hx
          obtain ⟨hg5, hx⟩ := gd hx
          refine Ev.blk (pc' := 70) (lv' := [some (vr 12 0 80), some (vi a1), some (vi a2)]) (st' := [vi (((shlI (ii 1) ((wI h 80 0 (ii 0)).1 80 34)) - (ii 1)) &&& (((wI h 80 0 (ii 0)).1 97 ((ii 13) - a1).toNatClampNeg) ^^^ (ii (-1))))]) (h' := (wI h 80 0 (ii 0))) 29 15 (Nat.le_of_ble_eq_true rfl) tk_R_trail rfl rfl ⟨trivial, trivial, trivial, trivial, trivial, trivial, trivial, trivial, trivial, trivial, trivial, hg5, trivial, trivial, trivial, trivial⟩ ?_
          obtain rfl := Option.some.inj hx
          obtain ⟨rfl, rfl⟩ := hP
          exact Ev.iret 44 tk_R_trail rfl rfl
        · replace hx := ip hc4 hx
          obtain ⟨hg6, hx⟩ := gd hx
          refine Ev.blk (pc' := 70) (lv' := [some (vr 12 0 80), some (vi a1), some (vi a2)]) (st' := [vi ((wI h 80 0 (ii 0)).1 97 ((ii 12) + a1).toNatClampNeg)]) (h' := (wI h 80 0 (ii 0))) 22 7 (Nat.le_of_ble_eq_true rfl) tk_R_trail rfl rfl ⟨trivial, trivial, trivial, trivial, trivial, hg6, trivial, trivial⟩ ?_
          obtain rfl := Option.some.inj hx
          obtain ⟨rfl, rfl⟩ := hP
          exact Ev.iret 44 tk_R_trail rfl rfl
      · replace hx := ip hc3 hx
        refine Ev.blk (pc' := 33) (lv' := [some (vr 12 0 80), some (vi a1), some (vi a2)]) (st' := [vi (ii (-1))]) (h' := (wI h 80 0 (ii 0))) 18 1 (Nat.le_of_ble_eq_true rfl) tk_R_trail rfl rfl ⟨trivial, trivial⟩ ?_
        obtain rfl := Option.some.inj hx
        obtain ⟨rfl, rfl⟩ := hP
        exact Ev.iret 19 tk_R_trail rfl rfl
set_option maxRecDepth 4000 in
theorem s_R_hear (Γ : AG) (a1 : Int32) (a2 : Int32) (a3 : Int32) (h : AH) (x : Int32 × AH) (hx : f_R_hear a1 a2 a3 h = some x) : MetA Γ m_R_hear [vr 12 0 80, vi a1, vi a2, vi a3] h (some (vi x.1)) x.2 := by
  refine Ev.met rfl rfl (Nat.le_of_ble_eq_true rfl) ?_
  show Ev Γ m_R_hear 0 [some (vr 12 0 80), some (vi a1), some (vi a2), some (vi a3)] [] h _ _
  obtain ⟨r, hr⟩ : ∃ r : Option AV, r = some (vi x.1) := ⟨_, rfl⟩
  obtain ⟨h', hh⟩ : ∃ h' : AH, h' = x.2 := ⟨_, rfl⟩
  have hP : r = some (vi x.1) ∧ h' = x.2 := ⟨hr, hh⟩
  suffices hS : Ev Γ m_R_hear 0 [some (vr 12 0 80), some (vi a1), some (vi a2), some (vi a3)] [] h r h' by rw [hr, hh] at hS; exact hS
  clear hr hh
  unfold f_R_hear at hx
  refine Ev.blk (pc' := 7) (lv' := [some (vr 12 0 80), some (vi a1), some (vi a2), some (vi a3)]) (st' := [vi a1, vr 12 0 80]) (h' := (wI h 80 0 (ii 0))) 0 5 (Nat.le_of_ble_eq_true rfl) tk_R_hear rfl rfl ⟨trivial, trivial, trivial, trivial, trivial, trivial⟩ ?_
  refine Ev.callV (ν := m_R_isFork) (av := [vi a1]) (rest := []) (r1 := some (vi (p_R_isFork a1 (wI h 80 0 (ii 0))))) (h1 := (wI h 80 0 (ii 0))) (ci := 12) (nn := 0) (o := 80) 5 1 tk_R_hear rfl bb_R_isFork vv_R_isFork lk_12_377 (by decide) rfl rfl (Or.inl rfl) (Nat.le_of_ble_eq_true rfl) (s_R_isFork Γ a1 (wI h 80 0 (ii 0))) ?_
  show Ev Γ m_R_hear 10 [some (vr 12 0 80), some (vi a1), some (vi a2), some (vi a3)] [vi (p_R_isFork a1 (wI h 80 0 (ii 0)))] (wI h 80 0 (ii 0)) r h'
  refine Ev.if_eq 6 30 tk_R_hear rfl (by decide) (fun hc1 => ?_) (fun hc1 => ?_)
  · replace hx := ip hc1 hx
    refine Ev.blk (pc' := 31) (lv' := [some (vr 12 0 80), some (vi a1), some (vi a2), some (vi a3)]) (st' := [vi (ii (-1))]) (h' := (wI h 80 0 (ii 0))) 15 1 (Nat.le_of_ble_eq_true rfl) tk_R_hear rfl rfl ⟨trivial, trivial⟩ ?_
    obtain rfl := Option.some.inj hx
    obtain ⟨rfl, rfl⟩ := hP
    exact Ev.iret 16 tk_R_hear rfl rfl
  · replace hx := ia hc1 hx
    refine Ev.blk (pc' := 15) (lv' := [some (vr 12 0 80), some (vi a1), some (vi a2), some (vi a3)]) (st' := [vi a2, vr 12 0 80]) (h' := (wI h 80 0 (ii 0))) 7 2 (Nat.le_of_ble_eq_true rfl) tk_R_hear rfl rfl ⟨trivial, trivial, trivial⟩ ?_
    refine Ev.callV (ν := m_R_isCell) (av := [vi a2]) (rest := []) (r1 := some (vi (p_R_isCell a2 (wI h 80 0 (ii 0))))) (h1 := (wI h 80 0 (ii 0))) (ci := 12) (nn := 0) (o := 80) 9 1 tk_R_hear rfl bb_R_isCell vv_R_isCell lk_12_372 (by decide) rfl rfl (Or.inl rfl) (Nat.le_of_ble_eq_true rfl) (s_R_isCell Γ a2 (wI h 80 0 (ii 0))) ?_
    show Ev Γ m_R_hear 18 [some (vr 12 0 80), some (vi a1), some (vi a2), some (vi a3)] [vi (p_R_isCell a2 (wI h 80 0 (ii 0)))] (wI h 80 0 (ii 0)) r h'
    refine Ev.if_eq 10 30 tk_R_hear rfl (by decide) (fun hc2 => ?_) (fun hc2 => ?_)
    · replace hx := ip hc2 hx
      refine Ev.blk (pc' := 31) (lv' := [some (vr 12 0 80), some (vi a1), some (vi a2), some (vi a3)]) (st' := [vi (ii (-1))]) (h' := (wI h 80 0 (ii 0))) 15 1 (Nat.le_of_ble_eq_true rfl) tk_R_hear rfl rfl ⟨trivial, trivial⟩ ?_
      obtain rfl := Option.some.inj hx
      obtain ⟨rfl, rfl⟩ := hP
      exact Ev.iret 16 tk_R_hear rfl rfl
    · replace hx := ia hc2 hx
      refine Ev.blk (pc' := 27) (lv' := [some (vr 12 0 80), some (vi a1), some (vi a2), some (vi a3)]) (st' := [vi (ii 12), vi ((wI h 80 0 (ii 0)).1 80 52)]) (h' := (wI h 80 0 (ii 0))) 11 3 (Nat.le_of_ble_eq_true rfl) tk_R_hear rfl rfl ⟨trivial, trivial, trivial, trivial⟩ ?_
      refine Ev.icmp_ne 14 32 tk_R_hear rfl (by decide) (fun hc3 => ?_) (fun hc3 => ?_)
      · replace hx := ia hc3 hx
        obtain ⟨hg4, hx⟩ := gd hx
        obtain ⟨hg5, hx⟩ := gd hx
        obtain ⟨hg6, hx⟩ := gd hx
        refine Ev.blk (pc' := 62) (lv' := [some (vr 12 0 80), some (vi a1), some (vi a2), some (vi a3)]) (st' := []) (h' := (wI (wI (wI (wI h 80 0 (ii 0)) 100 ((wI h 80 0 (ii 0)).1 80 52).toNatClampNeg a1) 101 ((wI (wI h 80 0 (ii 0)) 100 ((wI h 80 0 (ii 0)).1 80 52).toNatClampNeg a1).1 80 52).toNatClampNeg a2) 102 ((wI (wI (wI h 80 0 (ii 0)) 100 ((wI h 80 0 (ii 0)).1 80 52).toNatClampNeg a1) 101 ((wI (wI h 80 0 (ii 0)) 100 ((wI h 80 0 (ii 0)).1 80 52).toNatClampNeg a1).1 80 52).toNatClampNeg a2).1 80 52).toNatClampNeg (vp_nar .boolean a3))) 17 18 (Nat.le_of_ble_eq_true rfl) tk_R_hear rfl rfl ⟨trivial, trivial, trivial, trivial, trivial, hg4, trivial, trivial, trivial, trivial, trivial, hg5, trivial, trivial, trivial, trivial, trivial, hg6, trivial⟩ ?_
        obtain ⟨q1, hq7, hx⟩ := bd hx
        rw [Option.some.inj hq7]
        show Ev Γ m_R_hear 62 [some (vr 12 0 80), some (vi a1), some (vi a2), some (vi a3)] [] q1 r h'
        refine Ev.blk (pc' := 76) (lv' := [some (vr 12 0 80), some (vi a1), some (vi a2), some (vi a3)]) (st' := [vi ((wI q1 80 52 ((q1.1 80 52) + (ii 1))).1 80 52)]) (h' := (wI q1 80 52 ((q1.1 80 52) + (ii 1)))) 35 8 (Nat.le_of_ble_eq_true rfl) tk_R_hear rfl rfl ⟨trivial, trivial, trivial, trivial, trivial, trivial, trivial, trivial, trivial⟩ ?_
        obtain rfl := Option.some.inj hx
        obtain ⟨rfl, rfl⟩ := hP
        exact Ev.iret 43 tk_R_hear rfl rfl
      · replace hx := ip hc3 hx
        refine Ev.blk (pc' := 31) (lv' := [some (vr 12 0 80), some (vi a1), some (vi a2), some (vi a3)]) (st' := [vi (ii (-1))]) (h' := (wI h 80 0 (ii 0))) 15 1 (Nat.le_of_ble_eq_true rfl) tk_R_hear rfl rfl ⟨trivial, trivial⟩ ?_
        obtain rfl := Option.some.inj hx
        obtain ⟨rfl, rfl⟩ := hP
        exact Ev.iret 16 tk_R_hear rfl rfl
theorem s_R_isLong (Γ : AG) (a1 : Int32) (h : AH) : MetA Γ m_R_isLong [vr 12 0 80, vi a1] h (some (vi (p_R_isLong a1 h))) h := by
  refine Ev.met rfl rfl (Nat.le_of_ble_eq_true rfl) ?_
  generalize hx : p_R_isLong a1 h = x
  show Ev Γ m_R_isLong 0 [some (vr 12 0 80), some (vi a1)] [] h _ _
  obtain ⟨r, hr⟩ : ∃ r : Option AV, r = some (vi x) := ⟨_, rfl⟩
  obtain ⟨h', hh⟩ : ∃ h' : AH, h' = h := ⟨_, rfl⟩
  have hP : r = some (vi x) ∧ h' = h := ⟨hr, hh⟩
  suffices hS : Ev Γ m_R_isLong 0 [some (vr 12 0 80), some (vi a1)] [] h r h' by rw [hr, hh] at hS; exact hS
  clear hr hh
  unfold p_R_isLong at hx
  refine Ev.blk (pc' := 4) (lv' := [some (vr 12 0 80), some (vi a1)]) (st' := [vi (h.1 80 34)]) (h' := h) 0 2 (Nat.le_of_ble_eq_true rfl) tk_R_isLong rfl rfl ⟨trivial, trivial, trivial⟩ ?_
  refine Ev.if_le 2 25 tk_R_isLong rfl (by decide) (fun hc1 => ?_) (fun hc1 => ?_)
  · replace hx := ip hc1 hx
    refine Ev.blk (pc' := 26) (lv' := [some (vr 12 0 80), some (vi a1)]) (st' := [vi (ii 0)]) (h' := h) 11 1 (Nat.le_of_ble_eq_true rfl) tk_R_isLong rfl rfl ⟨trivial, trivial⟩ ?_
    subst hx
    obtain ⟨rfl, rfl⟩ := hP
    exact Ev.zret 12 tk_R_isLong rfl rfl rfl
  · replace hx := ia hc1 hx
    refine Ev.blk (pc' := 15) (lv' := [some (vr 12 0 80), some (vi a1)]) (st' := [vl (Int64.ofInt 5), vl (Int64.ofInt 2), vl a1.toInt64]) (h' := h) 3 4 (Nat.le_of_ble_eq_true rfl) tk_R_isLong rfl rfl ⟨trivial, trivial, trivial, trivial, trivial⟩ ?_
    refine Ev.callS (ν := m_R_isIn) (av := [vl a1.toInt64, vl (Int64.ofInt 2), vl (Int64.ofInt 5)]) (rest := []) (r1 := some (vi (p_R_isIn a1.toInt64 (Int64.ofInt 2) (Int64.ofInt 5)))) (h1 := h) 7 3 tk_R_isLong rfl bb_R_isIn vv_R_isIn lk_12_223 (by decide) rfl rfl (Nat.le_of_ble_eq_true rfl) (s_R_isIn Γ a1.toInt64 (Int64.ofInt 2) (Int64.ofInt 5) h) ?_
    show Ev Γ m_R_isLong 18 [some (vr 12 0 80), some (vi a1)] [vi (p_R_isIn a1.toInt64 (Int64.ofInt 2) (Int64.ofInt 5))] h r h'
    refine Ev.if_eq 8 25 tk_R_isLong rfl (by decide) (fun hc2 => ?_) (fun hc2 => ?_)
    · replace hx := ip hc2 hx
      refine Ev.blk (pc' := 26) (lv' := [some (vr 12 0 80), some (vi a1)]) (st' := [vi (ii 0)]) (h' := h) 11 1 (Nat.le_of_ble_eq_true rfl) tk_R_isLong rfl rfl ⟨trivial, trivial⟩ ?_
      subst hx
      obtain ⟨rfl, rfl⟩ := hP
      exact Ev.zret 12 tk_R_isLong rfl rfl rfl
    · replace hx := ia hc2 hx
      refine Ev.blk (pc' := 26) (lv' := [some (vr 12 0 80), some (vi a1)]) (st' := [vi (ii 1)]) (h' := h) 9 2 (Nat.le_of_ble_eq_true rfl) tk_R_isLong rfl rfl ⟨trivial, trivial, trivial⟩ ?_
      subst hx
      obtain ⟨rfl, rfl⟩ := hP
      exact Ev.zret 12 tk_R_isLong rfl rfl rfl
set_option maxRecDepth 4000 in
theorem l_R_lineOf_L13 (Γ : AG) : ∀ (n : Nat) (v2 : Int32) (v4 : Int32) (v5 : Int32) (v6 : Int32) (h : AH) (x : Int32), R_lineOf_L13 n v2 v4 v5 v6 h = some x → ∀ (r : Option AV) (h' : AH), r = some (vi x) ∧ h' = h → Ev Γ m_R_lineOf 13 [some (vr 12 0 80), none, some (vi v2), none, some (vi v4), some (vi v5), some (vi v6)] [] h r h' := by
  intro n
  induction n with
  | zero => intro v2 v4 v5 v6 h x hx; cases hx
  | succ n ih =>
    intro v2 v4 v5 v6 h x hx r h' hP
    replace hx : R_lineOf_L13_b (R_lineOf_L13 n) v2 v4 v5 v6 h = some x := hx
    unfold R_lineOf_L13_b at hx
    refine Ev.blk (pc' := 15) (lv' := [some (vr 12 0 80), none, some (vi v2), none, some (vi v4), some (vi v5), some (vi v6)]) (st' := [vi v6]) (h' := h) 10 1 (Nat.le_of_ble_eq_true rfl) tk_R_lineOf rfl rfl ⟨trivial, trivial⟩ ?_
    refine Ev.if_lt 11 55 tk_R_lineOf rfl (by decide) (fun hc1 => ?_) (fun hc1 => ?_)
    · replace hx := ip hc1 hx
      refine Ev.blk (pc' := 57) (lv' := [some (vr 12 0 80), none, some (vi v2), none, some (vi v4), some (vi v5), some (vi v6)]) (st' := [vi v5]) (h' := h) 34 1 (Nat.le_of_ble_eq_true rfl) tk_R_lineOf rfl rfl ⟨trivial, trivial⟩ ?_
      obtain rfl := Option.some.inj hx
      obtain ⟨rfl, rfl⟩ := hP
      exact Ev.iret 35 tk_R_lineOf rfl rfl
    · replace hx := ia hc1 hx
      refine Ev.blk (pc' := 27) (lv' := [some (vr 12 0 80), none, some (vi v2), none, some (vi v4), some (vi v5), some (vi v6)]) (st' := [vi ((shrI v2 v6) &&& (ii 1)), vi v4, vr 12 0 80]) (h' := h) 12 7 (Nat.le_of_ble_eq_true rfl) tk_R_lineOf rfl rfl ⟨trivial, trivial, trivial, trivial, trivial, trivial, trivial, trivial⟩ ?_
      obtain ⟨q1, hq2, hx⟩ := bd hx
      refine Ev.callV (ν := m_R_stepTo) (av := [vi v4, vi ((shrI v2 v6) &&& (ii 1))]) (rest := []) (r1 := some (vi q1)) (h1 := h) (ci := 12) (nn := 0) (o := 80) 19 2 tk_R_lineOf rfl bb_R_stepTo vv_R_stepTo lk_12_350 (by decide) rfl rfl (Or.inl rfl) (Nat.le_of_ble_eq_true rfl) (s_R_stepTo Γ v4 ((shrI v2 v6) &&& (ii 1)) h _ hq2) ?_
      show Ev Γ m_R_lineOf 30 [some (vr 12 0 80), none, some (vi v2), none, some (vi v4), some (vi v5), some (vi v6)] [vi q1] h r h'
      refine Ev.blk (pc' := 35) (lv' := [some (vr 12 0 80), none, some (vi v2), none, some (vi q1), some (vi v5), some (vi v6)]) (st' := [vi (ii (-1)), vi q1]) (h' := h) 20 3 (Nat.le_of_ble_eq_true rfl) tk_R_lineOf rfl rfl ⟨trivial, trivial, trivial, trivial⟩ ?_
      refine Ev.icmp_ne 23 40 tk_R_lineOf rfl (by decide) (fun hc3 => ?_) (fun hc3 => ?_)
      · replace hx := ia hc3 hx
        refine Ev.blk (pc' := 13) (lv' := [some (vr 12 0 80), none, some (vi v2), none, some (vi q1), some (vi (v5 ||| (shlI (ii 1) q1))), some (vi (v6 + ii (-1)))]) (st' := []) (h' := h) 26 8 (Nat.le_of_ble_eq_true rfl) tk_R_lineOf rfl rfl ⟨trivial, trivial, trivial, trivial, trivial, trivial, trivial, trivial, trivial⟩ ?_
        exact Ev.msk [true, false, true, false, true, true, true] (ih v2 q1 (v5 ||| (shlI (ii 1) q1)) (v6 + ii (-1)) h _ hx r h' hP)
      · replace hx := ip hc3 hx
        refine Ev.blk (pc' := 39) (lv' := [some (vr 12 0 80), none, some (vi v2), none, some (vi q1), some (vi v5), some (vi v6)]) (st' := [vi (ii (-1))]) (h' := h) 24 1 (Nat.le_of_ble_eq_true rfl) tk_R_lineOf rfl rfl ⟨trivial, trivial⟩ ?_
        obtain rfl := Option.some.inj hx
        obtain ⟨rfl, rfl⟩ := hP
        exact Ev.iret 25 tk_R_lineOf rfl rfl
set_option maxRecDepth 4000 in
theorem s_R_lineOf (Γ : AG) (a1 : Int32) (a2 : Int32) (a3 : Int32) (h : AH) (x : Int32) (hx : f_R_lineOf a1 a2 a3 h = some x) : MetA Γ m_R_lineOf [vr 12 0 80, vi a1, vi a2, vi a3] h (some (vi x)) h := by
  refine Ev.met rfl rfl (Nat.le_of_ble_eq_true rfl) ?_
  show Ev Γ m_R_lineOf 0 [some (vr 12 0 80), some (vi a1), some (vi a2), some (vi a3), none, none, none] [] h _ _
  obtain ⟨r, hr⟩ : ∃ r : Option AV, r = some (vi x) := ⟨_, rfl⟩
  obtain ⟨h', hh⟩ : ∃ h' : AH, h' = h := ⟨_, rfl⟩
  have hP : r = some (vi x) ∧ h' = h := ⟨hr, hh⟩
  suffices hS : Ev Γ m_R_lineOf 0 [some (vr 12 0 80), some (vi a1), some (vi a2), some (vi a3), none, none, none] [] h r h' by rw [hr, hh] at hS; exact hS
  clear hr hh
  unfold f_R_lineOf at hx
  refine Ev.blk (pc' := 13) (lv' := [some (vr 12 0 80), some (vi a1), some (vi a2), some (vi a3), some (vi a1), some (vi (shlI (ii 1) a1)), some (vi (a3 - (ii 2)))]) (st' := []) (h' := h) 0 10 (Nat.le_of_ble_eq_true rfl) tk_R_lineOf rfl rfl ⟨trivial, trivial, trivial, trivial, trivial, trivial, trivial, trivial, trivial, trivial, trivial⟩ ?_
  refine Ev.msk [true, false, true, false, true, true, true] ?_
  show Ev Γ m_R_lineOf 13 [some (vr 12 0 80), none, some (vi a2), none, some (vi a1), some (vi (shlI (ii 1) a1)), some (vi (a3 - (ii 2)))] [] h r h'
  exact l_R_lineOf_L13 Γ FU a2 a1 (shlI (ii 1) a1) (a3 - (ii 2)) h _ hx r h' hP
set_option maxRecDepth 4000 in
theorem l_R_isSo_L2 (Γ : AG) : ∀ (n : Nat) (v1 : Int32) (v2 : Int32) (v3 : Int32) (h : AH) (x : Int32), R_isSo_L2 n v1 v2 v3 h = some x → ∀ (r : Option AV) (h' : AH), r = some (vi x) ∧ h' = h → Ev Γ m_R_isSo 2 [some (vr 12 0 80), some (vi v1), some (vi v2), some (vi v3)] [] h r h' := by
  intro n
  induction n with
  | zero => intro v1 v2 v3 h x hx; cases hx
  | succ n ih =>
    intro v1 v2 v3 h x hx r h' hP
    replace hx : R_isSo_L2_b (R_isSo_L2 n) v1 v2 v3 h = some x := hx
    unfold R_isSo_L2_b at hx
    refine Ev.blk (pc' := 7) (lv' := [some (vr 12 0 80), some (vi v1), some (vi v2), some (vi v3)]) (st' := [vi (h.1 80 52), vi v3]) (h' := h) 2 3 (Nat.le_of_ble_eq_true rfl) tk_R_isSo rfl rfl ⟨trivial, trivial, trivial, trivial⟩ ?_
    refine Ev.icmp_ge 5 47 tk_R_isSo rfl (by decide) (fun hc1 => ?_) (fun hc1 => ?_)
    · replace hx := ip hc1 hx
      refine Ev.blk (pc' := 48) (lv' := [some (vr 12 0 80), some (vi v1), some (vi v2), some (vi v3)]) (st' := [vi (ii 1)]) (h' := h) 27 1 (Nat.le_of_ble_eq_true rfl) tk_R_isSo rfl rfl ⟨trivial, trivial⟩ ?_
      obtain rfl := Option.some.inj hx
      obtain ⟨rfl, rfl⟩ := hP
      exact Ev.zret 28 tk_R_isSo rfl rfl rfl
    · replace hx := ia hc1 hx
      obtain ⟨hg2, hx⟩ := gd hx
      refine Ev.blk (pc' := 17) (lv' := [some (vr 12 0 80), some (vi v1), some (vi v2), some (vi v3)]) (st' := [vi v2, vi (h.1 100 (v3).toNatClampNeg)]) (h' := h) 6 5 (Nat.le_of_ble_eq_true rfl) tk_R_isSo rfl rfl ⟨trivial, trivial, trivial, hg2, trivial, trivial⟩ ?_
      refine Ev.icmp_eq 11 41 tk_R_isSo rfl (by decide) (fun hc3 => ?_) (fun hc3 => ?_)
      · replace hx := ip hc3 hx
        refine Ev.blk (pc' := 2) (lv' := [some (vr 12 0 80), some (vi v1), some (vi v2), some (vi (v3 + ii 1))]) (st' := []) (h' := h) 25 2 (Nat.le_of_ble_eq_true rfl) tk_R_isSo rfl rfl ⟨trivial, trivial, trivial⟩ ?_
        exact Ev.msk [true, true, true, true] (ih v1 v2 (v3 + ii 1) h _ hx r h' hP)
      · replace hx := ia hc3 hx
        obtain ⟨hg4, hx⟩ := gd hx
        refine Ev.blk (pc' := 27) (lv' := [some (vr 12 0 80), some (vi v1), some (vi v2), some (vi v3)]) (st' := [vi (h.1 101 (v3).toNatClampNeg), vi v1]) (h' := h) 12 5 (Nat.le_of_ble_eq_true rfl) tk_R_isSo rfl rfl ⟨trivial, trivial, trivial, trivial, hg4, trivial⟩ ?_
        refine Ev.callS (ν := m_R_has) (av := [vi v1, vi (h.1 101 (v3).toNatClampNeg)]) (rest := []) (r1 := some (vi (p_R_has v1 (h.1 101 (v3).toNatClampNeg)))) (h1 := h) 17 2 tk_R_isSo rfl bb_R_has vv_R_has lk_12_235 (by decide) rfl rfl (Nat.le_of_ble_eq_true rfl) (s_R_has Γ v1 (h.1 101 (v3).toNatClampNeg) h) ?_
        show Ev Γ m_R_isSo 30 [some (vr 12 0 80), some (vi v1), some (vi v2), some (vi v3)] [vi (p_R_has v1 (h.1 101 (v3).toNatClampNeg))] h r h'
        obtain ⟨hg5, hx⟩ := gd hx
        refine Ev.blk (pc' := 36) (lv' := [some (vr 12 0 80), some (vi v1), some (vi v2), some (vi v3)]) (st' := [vi (h.1 102 (v3).toNatClampNeg), vi (p_R_has v1 (h.1 101 (v3).toNatClampNeg))]) (h' := h) 18 4 (Nat.le_of_ble_eq_true rfl) tk_R_isSo rfl rfl ⟨trivial, trivial, trivial, hg5, trivial⟩ ?_
        refine Ev.icmp_eq 22 41 tk_R_isSo rfl (by decide) (fun hc6 => ?_) (fun hc6 => ?_)
        · replace hx := ip hc6 hx
          refine Ev.blk (pc' := 2) (lv' := [some (vr 12 0 80), some (vi v1), some (vi v2), some (vi (v3 + ii 1))]) (st' := []) (h' := h) 25 2 (Nat.le_of_ble_eq_true rfl) tk_R_isSo rfl rfl ⟨trivial, trivial, trivial⟩ ?_
          exact Ev.msk [true, true, true, true] (ih v1 v2 (v3 + ii 1) h _ hx r h' hP)
        · replace hx := ia hc6 hx
          refine Ev.blk (pc' := 40) (lv' := [some (vr 12 0 80), some (vi v1), some (vi v2), some (vi v3)]) (st' := [vi (ii 0)]) (h' := h) 23 1 (Nat.le_of_ble_eq_true rfl) tk_R_isSo rfl rfl ⟨trivial, trivial⟩ ?_
          obtain rfl := Option.some.inj hx
          obtain ⟨rfl, rfl⟩ := hP
          exact Ev.zret 24 tk_R_isSo rfl rfl rfl
set_option maxRecDepth 4000 in
theorem s_R_isSo (Γ : AG) (a1 : Int32) (a2 : Int32) (h : AH) (x : Int32) (hx : f_R_isSo a1 a2 h = some x) : MetA Γ m_R_isSo [vr 12 0 80, vi a1, vi a2] h (some (vi x)) h := by
  refine Ev.met rfl rfl (Nat.le_of_ble_eq_true rfl) ?_
  show Ev Γ m_R_isSo 0 [some (vr 12 0 80), some (vi a1), some (vi a2), none] [] h _ _
  obtain ⟨r, hr⟩ : ∃ r : Option AV, r = some (vi x) := ⟨_, rfl⟩
  obtain ⟨h', hh⟩ : ∃ h' : AH, h' = h := ⟨_, rfl⟩
  have hP : r = some (vi x) ∧ h' = h := ⟨hr, hh⟩
  suffices hS : Ev Γ m_R_isSo 0 [some (vr 12 0 80), some (vi a1), some (vi a2), none] [] h r h' by rw [hr, hh] at hS; exact hS
  clear hr hh
  unfold f_R_isSo at hx
  refine Ev.blk (pc' := 2) (lv' := [some (vr 12 0 80), some (vi a1), some (vi a2), some (vi (ii 0))]) (st' := []) (h' := h) 0 2 (Nat.le_of_ble_eq_true rfl) tk_R_isSo rfl rfl ⟨trivial, trivial, trivial⟩ ?_
  refine Ev.msk [true, true, true, true] ?_
  show Ev Γ m_R_isSo 2 [some (vr 12 0 80), some (vi a1), some (vi a2), some (vi (ii 0))] [] h r h'
  exact l_R_isSo_L2 Γ FU a1 a2 (ii 0) h _ hx r h' hP
set_option maxRecDepth 4000 in
theorem l_R_fitsBy_L18 (Γ : AG) : ∀ (n : Nat) (v1 : Int32) (v2 : Int32) (v3 : Int32) (v4 : Int32) (v5 : Int32) (v6 : Int32) (h : AH) (x : (Int32) ⊕ (Int32)), R_fitsBy_L18 n v1 v2 v3 v4 v5 v6 h = some x → ∀ (r : Option AV) (h' : AH), (∀ z, x = .inl z → r = some (vi z) ∧ h' = h) → (∀ z, x = .inr z → Ev Γ m_R_fitsBy 82 [some (vr 12 0 80), some (vi v1), some (vi v2), some (vi v3), some (vi z), some (vi v5), none, none] [] h r h') → Ev Γ m_R_fitsBy 18 [some (vr 12 0 80), some (vi v1), some (vi v2), some (vi v3), some (vi v4), some (vi v5), some (vi v6), none] [] h r h' := by
  intro n
  induction n with
  | zero => intro v1 v2 v3 v4 v5 v6 h x hx; cases hx
  | succ n ih =>
    intro v1 v2 v3 v4 v5 v6 h x hx r h' hI hP
    replace hx : R_fitsBy_L18_b (R_fitsBy_L18 n) v1 v2 v3 v4 v5 v6 h = some x := hx
    unfold R_fitsBy_L18_b at hx
    refine Ev.blk (pc' := 25) (lv' := [some (vr 12 0 80), some (vi v1), some (vi v2), some (vi v3), some (vi v4), some (vi v5), some (vi v6), none]) (st' := [vi (shlI (ii 1) (v1 - (ii 1))), vi v6]) (h' := h) 10 6 (Nat.le_of_ble_eq_true rfl) tk_R_fitsBy rfl rfl ⟨trivial, trivial, trivial, trivial, trivial, trivial, trivial⟩ ?_
    refine Ev.icmp_ge 16 82 tk_R_fitsBy rfl (by decide) (fun hc1 => ?_) (fun hc1 => ?_)
    · replace hx := ip hc1 hx
      obtain rfl := Option.some.inj hx
      exact Ev.msk [true, true, true, true, true, true, false, false] (hP _ rfl)
    · replace hx := ia hc1 hx
      refine Ev.blk (pc' := 34) (lv' := [some (vr 12 0 80), some (vi v1), some (vi v2), some (vi v3), some (vi v4), some (vi v5), some (vi v6), none]) (st' := [vi v1, vi v6, vi v5, vr 12 0 80]) (h' := h) 17 4 (Nat.le_of_ble_eq_true rfl) tk_R_fitsBy rfl rfl ⟨trivial, trivial, trivial, trivial, trivial⟩ ?_
      obtain ⟨q1, hq2, hx⟩ := bd hx
      refine Ev.callV (ν := m_R_lineOf) (av := [vi v5, vi v6, vi v1]) (rest := []) (r1 := some (vi q1)) (h1 := h) (ci := 12) (nn := 0) (o := 80) 21 3 tk_R_fitsBy rfl bb_R_lineOf vv_R_lineOf lk_12_455 (by decide) rfl rfl (Or.inl rfl) (Nat.le_of_ble_eq_true rfl) (s_R_lineOf Γ v5 v6 v1 h _ hq2) ?_
      show Ev Γ m_R_fitsBy 37 [some (vr 12 0 80), some (vi v1), some (vi v2), some (vi v3), some (vi v4), some (vi v5), some (vi v6), none] [vi q1] h r h'
      refine Ev.blk (pc' := 42) (lv' := [some (vr 12 0 80), some (vi v1), some (vi v2), some (vi v3), some (vi v4), some (vi v5), some (vi v6), some (vi q1)]) (st' := [vi (ii (-1)), vi q1]) (h' := h) 22 3 (Nat.le_of_ble_eq_true rfl) tk_R_fitsBy rfl rfl ⟨trivial, trivial, trivial, trivial⟩ ?_
      refine Ev.icmp_eq 25 76 tk_R_fitsBy rfl (by decide) (fun hc3 => ?_) (fun hc3 => ?_)
      · replace hx := ip hc3 hx
        refine Ev.blk (pc' := 18) (lv' := [some (vr 12 0 80), some (vi v1), some (vi v2), some (vi v3), some (vi v4), some (vi v5), some (vi (v6 + ii 1)), some (vi q1)]) (st' := []) (h' := h) 42 2 (Nat.le_of_ble_eq_true rfl) tk_R_fitsBy rfl rfl ⟨trivial, trivial, trivial⟩ ?_
        exact Ev.msk [true, true, true, true, true, true, true, false] (ih v1 v2 v3 v4 v5 (v6 + ii 1) h _ hx r h' hI hP)
      · replace hx := ia hc3 hx
        refine Ev.blk (pc' := 49) (lv' := [some (vr 12 0 80), some (vi v1), some (vi v2), some (vi v3), some (vi v4), some (vi v5), some (vi v6), some (vi q1)]) (st' := [vi v3, vi q1, vr 12 0 80]) (h' := h) 26 3 (Nat.le_of_ble_eq_true rfl) tk_R_fitsBy rfl rfl ⟨trivial, trivial, trivial, trivial⟩ ?_
        obtain ⟨q2, hq4, hx⟩ := bd hx
        refine Ev.callV (ν := m_R_isSo) (av := [vi q1, vi v3]) (rest := []) (r1 := some (vi q2)) (h1 := h) (ci := 12) (nn := 0) (o := 80) 29 2 tk_R_fitsBy rfl bb_R_isSo vv_R_isSo lk_12_459 (by decide) rfl rfl (Or.inl rfl) (Nat.le_of_ble_eq_true rfl) (s_R_isSo Γ q1 v3 h _ hq4) ?_
        show Ev Γ m_R_fitsBy 52 [some (vr 12 0 80), some (vi v1), some (vi v2), some (vi v3), some (vi v4), some (vi v5), some (vi v6), some (vi q1)] [vi q2] h r h'
        refine Ev.if_ne 30 58 tk_R_fitsBy rfl (by decide) (fun hc5 => ?_) (fun hc5 => ?_)
        · replace hx := ia hc5 hx
          refine Ev.blk (pc' := 61) (lv' := [some (vr 12 0 80), some (vi v1), some (vi v2), some (vi v3), some (vi v4), some (vi v5), some (vi v6), some (vi q1)]) (st' := [vi v2, vi v4]) (h' := h) 32 2 (Nat.le_of_ble_eq_true rfl) tk_R_fitsBy rfl rfl ⟨trivial, trivial, trivial⟩ ?_
          refine Ev.icmp_ne 34 73 tk_R_fitsBy rfl (by decide) (fun hc6 => ?_) (fun hc6 => ?_)
          · replace hx := ia hc6 hx
            refine Ev.blk (pc' := 18) (lv' := [some (vr 12 0 80), some (vi v1), some (vi v2), some (vi v3), some (vi (v4 + ii 1)), some (vi v5), some (vi (v6 + ii 1)), some (vi q1)]) (st' := []) (h' := h) 41 3 (Nat.le_of_ble_eq_true rfl) tk_R_fitsBy rfl rfl ⟨trivial, trivial, trivial, trivial⟩ ?_
            exact Ev.msk [true, true, true, true, true, true, true, false] (ih v1 v2 v3 (v4 + ii 1) v5 (v6 + ii 1) h _ hx r h' hI hP)
          · replace hx := ip hc6 hx
            refine Ev.blk (pc' := 72) (lv' := [some (vr 12 0 80), some (vi v1), some (vi v2), some (vi v3), some (vi v4), some (vi v5), some (vi v6), some (vi q1)]) (st' := [vi (((ii 100) * v5) + v6)]) (h' := h) 35 5 (Nat.le_of_ble_eq_true rfl) tk_R_fitsBy rfl rfl ⟨trivial, trivial, trivial, trivial, trivial, trivial⟩ ?_
            obtain rfl := Option.some.inj hx
            obtain ⟨rfl, rfl⟩ := hI _ rfl
            exact Ev.iret 40 tk_R_fitsBy rfl rfl
        · replace hx := ip hc5 hx
          refine Ev.blk (pc' := 76) (lv' := [some (vr 12 0 80), some (vi v1), some (vi v2), some (vi v3), some (vi v4), some (vi v5), some (vi v6), some (vi q1)]) (st' := []) (h' := h) 31 1 (Nat.le_of_ble_eq_true rfl) tk_R_fitsBy rfl rfl ⟨trivial, trivial⟩ ?_
          refine Ev.blk (pc' := 18) (lv' := [some (vr 12 0 80), some (vi v1), some (vi v2), some (vi v3), some (vi v4), some (vi v5), some (vi (v6 + ii 1)), some (vi q1)]) (st' := []) (h' := h) 42 2 (Nat.le_of_ble_eq_true rfl) tk_R_fitsBy rfl rfl ⟨trivial, trivial, trivial⟩ ?_
          exact Ev.msk [true, true, true, true, true, true, true, false] (ih v1 v2 v3 v4 v5 (v6 + ii 1) h _ hx r h' hI hP)
set_option maxRecDepth 4000 in
theorem l_R_fitsBy_L6 (Γ : AG) : ∀ (n : Nat) (v1 : Int32) (v2 : Int32) (v3 : Int32) (v4 : Int32) (v5 : Int32) (h : AH) (x : Int32), R_fitsBy_L6 n v1 v2 v3 v4 v5 h = some x → ∀ (r : Option AV) (h' : AH), r = some (vi x) ∧ h' = h → Ev Γ m_R_fitsBy 6 [some (vr 12 0 80), some (vi v1), some (vi v2), some (vi v3), some (vi v4), some (vi v5), none, none] [] h r h' := by
  intro n
  induction n with
  | zero => intro v1 v2 v3 v4 v5 h x hx; cases hx
  | succ n ih =>
    intro v1 v2 v3 v4 v5 h x hx r h' hP
    replace hx : R_fitsBy_L6_b (R_fitsBy_L6 n) v1 v2 v3 v4 v5 h = some x := hx
    unfold R_fitsBy_L6_b at hx
    refine Ev.blk (pc' := 12) (lv' := [some (vr 12 0 80), some (vi v1), some (vi v2), some (vi v3), some (vi v4), some (vi v5), none, none]) (st' := [vi (h.1 80 34), vi v5]) (h' := h) 4 3 (Nat.le_of_ble_eq_true rfl) tk_R_fitsBy rfl rfl ⟨trivial, trivial, trivial, trivial⟩ ?_
    refine Ev.icmp_ge 7 88 tk_R_fitsBy rfl (by decide) (fun hc1 => ?_) (fun hc1 => ?_)
    · replace hx := ip hc1 hx
      refine Ev.blk (pc' := 90) (lv' := [some (vr 12 0 80), some (vi v1), some (vi v2), some (vi v3), some (vi v4), some (vi v5), none, none]) (st' := [vi (ii (-1)), vi v2]) (h' := h) 46 2 (Nat.le_of_ble_eq_true rfl) tk_R_fitsBy rfl rfl ⟨trivial, trivial, trivial⟩ ?_
      refine Ev.icmp_ne 48 98 tk_R_fitsBy rfl (by decide) (fun hc2 => ?_) (fun hc2 => ?_)
      · replace hx := ia hc2 hx
        refine Ev.blk (pc' := 99) (lv' := [some (vr 12 0 80), some (vi v1), some (vi v2), some (vi v3), some (vi v4), some (vi v5), none, none]) (st' := [vi (ii (-1))]) (h' := h) 51 1 (Nat.le_of_ble_eq_true rfl) tk_R_fitsBy rfl rfl ⟨trivial, trivial⟩ ?_
        obtain rfl := Option.some.inj hx
        obtain ⟨rfl, rfl⟩ := hP
        exact Ev.iret 52 tk_R_fitsBy rfl rfl
      · replace hx := ip hc2 hx
        refine Ev.blk (pc' := 99) (lv' := [some (vr 12 0 80), some (vi v1), some (vi v2), some (vi v3), some (vi v4), some (vi v5), none, none]) (st' := [vi v4]) (h' := h) 49 2 (Nat.le_of_ble_eq_true rfl) tk_R_fitsBy rfl rfl ⟨trivial, trivial, trivial⟩ ?_
        obtain rfl := Option.some.inj hx
        obtain ⟨rfl, rfl⟩ := hP
        exact Ev.iret 52 tk_R_fitsBy rfl rfl
    · replace hx := ia hc1 hx
      refine Ev.blk (pc' := 18) (lv' := [some (vr 12 0 80), some (vi v1), some (vi v2), some (vi v3), some (vi v4), some (vi v5), some (vi (ii 0)), none]) (st' := []) (h' := h) 8 2 (Nat.le_of_ble_eq_true rfl) tk_R_fitsBy rfl rfl ⟨trivial, trivial, trivial⟩ ?_
      obtain ⟨q1, hq3, hx⟩ := bd hx
      rcases q1 with w | q1
      · cases hx
        refine Ev.msk [true, true, true, true, true, true, true, false] ?_
        show Ev Γ m_R_fitsBy 18 [some (vr 12 0 80), some (vi v1), some (vi v2), some (vi v3), some (vi v4), some (vi v5), some (vi (ii 0)), none] [] h r h'
        exact l_R_fitsBy_L18 Γ FU v1 v2 v3 v4 v5 (ii 0) h _ hq3 r h' (fun z hz => by cases hz; exact hP) (fun z hz => by cases hz)
      · refine Ev.msk [true, true, true, true, true, true, true, false] ?_
        show Ev Γ m_R_fitsBy 18 [some (vr 12 0 80), some (vi v1), some (vi v2), some (vi v3), some (vi v4), some (vi v5), some (vi (ii 0)), none] [] h r h'
        refine l_R_fitsBy_L18 Γ FU v1 v2 v3 v4 v5 (ii 0) h _ hq3 r h' (fun z hz => by cases hz) (fun z hz => ?_)
        cases hz
        replace hx := smr hx
        show Ev Γ m_R_fitsBy 82 [some (vr 12 0 80), some (vi v1), some (vi v2), some (vi v3), some (vi q1), some (vi v5), none, none] [] h r h'
        refine Ev.blk (pc' := 6) (lv' := [some (vr 12 0 80), some (vi v1), some (vi v2), some (vi v3), some (vi q1), some (vi (v5 + ii 1)), none, none]) (st' := []) (h' := h) 44 2 (Nat.le_of_ble_eq_true rfl) tk_R_fitsBy rfl rfl ⟨trivial, trivial, trivial⟩ ?_
        exact Ev.msk [true, true, true, true, true, true, false, false] (ih v1 v2 v3 q1 (v5 + ii 1) h _ hx r h' hP)
set_option maxRecDepth 4000 in
theorem s_R_fitsBy (Γ : AG) (a1 : Int32) (a2 : Int32) (a3 : Int32) (h : AH) (x : Int32) (hx : f_R_fitsBy a1 a2 a3 h = some x) : MetA Γ m_R_fitsBy [vr 12 0 80, vi a1, vi a2, vi a3] h (some (vi x)) h := by
  refine Ev.met rfl rfl (Nat.le_of_ble_eq_true rfl) ?_
  show Ev Γ m_R_fitsBy 0 [some (vr 12 0 80), some (vi a1), some (vi a2), some (vi a3), none, none, none, none] [] h _ _
  obtain ⟨r, hr⟩ : ∃ r : Option AV, r = some (vi x) := ⟨_, rfl⟩
  obtain ⟨h', hh⟩ : ∃ h' : AH, h' = h := ⟨_, rfl⟩
  have hP : r = some (vi x) ∧ h' = h := ⟨hr, hh⟩
  suffices hS : Ev Γ m_R_fitsBy 0 [some (vr 12 0 80), some (vi a1), some (vi a2), some (vi a3), none, none, none, none] [] h r h' by rw [hr, hh] at hS; exact hS
  clear hr hh
  unfold f_R_fitsBy at hx
  refine Ev.blk (pc' := 6) (lv' := [some (vr 12 0 80), some (vi a1), some (vi a2), some (vi a3), some (vi (ii 0)), some (vi (ii 0)), none, none]) (st' := []) (h' := h) 0 4 (Nat.le_of_ble_eq_true rfl) tk_R_fitsBy rfl rfl ⟨trivial, trivial, trivial, trivial, trivial⟩ ?_
  refine Ev.msk [true, true, true, true, true, true, false, false] ?_
  show Ev Γ m_R_fitsBy 6 [some (vr 12 0 80), some (vi a1), some (vi a2), some (vi a3), some (vi (ii 0)), some (vi (ii 0)), none, none] [] h r h'
  exact l_R_fitsBy_L6 Γ FU a1 a2 a3 (ii 0) (ii 0) h _ hx r h' hP
set_option maxRecDepth 4000 in
theorem s_R_fits (Γ : AG) (a1 : Int32) (a2 : Int32) (h : AH) (x : Int32 × AH) (hx : f_R_fits a1 a2 h = some x) : MetA Γ m_R_fits [vr 12 0 80, vi a1, vi a2] h (some (vi x.1)) x.2 := by
  refine Ev.met rfl rfl (Nat.le_of_ble_eq_true rfl) ?_
  show Ev Γ m_R_fits 0 [some (vr 12 0 80), some (vi a1), some (vi a2)] [] h _ _
  obtain ⟨r, hr⟩ : ∃ r : Option AV, r = some (vi x.1) := ⟨_, rfl⟩
  obtain ⟨h', hh⟩ : ∃ h' : AH, h' = x.2 := ⟨_, rfl⟩
  have hP : r = some (vi x.1) ∧ h' = x.2 := ⟨hr, hh⟩
  suffices hS : Ev Γ m_R_fits 0 [some (vr 12 0 80), some (vi a1), some (vi a2)] [] h r h' by rw [hr, hh] at hS; exact hS
  clear hr hh
  unfold f_R_fits at hx
  refine Ev.blk (pc' := 7) (lv' := [some (vr 12 0 80), some (vi a1), some (vi a2)]) (st' := [vi a1, vr 12 0 80]) (h' := (wI h 80 0 (ii 0))) 0 5 (Nat.le_of_ble_eq_true rfl) tk_R_fits rfl rfl ⟨trivial, trivial, trivial, trivial, trivial, trivial⟩ ?_
  refine Ev.callV (ν := m_R_isLong) (av := [vi a1]) (rest := []) (r1 := some (vi (p_R_isLong a1 (wI h 80 0 (ii 0))))) (h1 := (wI h 80 0 (ii 0))) (ci := 12) (nn := 0) (o := 80) 5 1 tk_R_fits rfl bb_R_isLong vv_R_isLong lk_12_462 (by decide) rfl rfl (Or.inl rfl) (Nat.le_of_ble_eq_true rfl) (s_R_isLong Γ a1 (wI h 80 0 (ii 0))) ?_
  show Ev Γ m_R_fits 10 [some (vr 12 0 80), some (vi a1), some (vi a2)] [vi (p_R_isLong a1 (wI h 80 0 (ii 0)))] (wI h 80 0 (ii 0)) r h'
  refine Ev.if_eq 6 28 tk_R_fits rfl (by decide) (fun hc1 => ?_) (fun hc1 => ?_)
  · replace hx := ip hc1 hx
    refine Ev.blk (pc' := 29) (lv' := [some (vr 12 0 80), some (vi a1), some (vi a2)]) (st' := [vi (ii (-1))]) (h' := (wI h 80 0 (ii 0))) 16 1 (Nat.le_of_ble_eq_true rfl) tk_R_fits rfl rfl ⟨trivial, trivial⟩ ?_
    obtain rfl := Option.some.inj hx
    obtain ⟨rfl, rfl⟩ := hP
    exact Ev.iret 17 tk_R_fits rfl rfl
  · replace hx := ia hc1 hx
    refine Ev.blk (pc' := 15) (lv' := [some (vr 12 0 80), some (vi a1), some (vi a2)]) (st' := [vi (ii (-1)), vi a2]) (h' := (wI h 80 0 (ii 0))) 7 2 (Nat.le_of_ble_eq_true rfl) tk_R_fits rfl rfl ⟨trivial, trivial, trivial⟩ ?_
    refine Ev.icmp_lt 9 28 tk_R_fits rfl (by decide) (fun hc2 => ?_) (fun hc2 => ?_)
    · replace hx := ip hc2 hx
      refine Ev.blk (pc' := 29) (lv' := [some (vr 12 0 80), some (vi a1), some (vi a2)]) (st' := [vi (ii (-1))]) (h' := (wI h 80 0 (ii 0))) 16 1 (Nat.le_of_ble_eq_true rfl) tk_R_fits rfl rfl ⟨trivial, trivial⟩ ?_
      obtain rfl := Option.some.inj hx
      obtain ⟨rfl, rfl⟩ := hP
      exact Ev.iret 17 tk_R_fits rfl rfl
    · replace hx := ia hc2 hx
      refine Ev.blk (pc' := 22) (lv' := [some (vr 12 0 80), some (vi a1), some (vi a2)]) (st' := [vi (ii (-1)), vi a2, vi a1, vr 12 0 80]) (h' := (wI h 80 0 (ii 0))) 10 4 (Nat.le_of_ble_eq_true rfl) tk_R_fits rfl rfl ⟨trivial, trivial, trivial, trivial, trivial⟩ ?_
      obtain ⟨q1, hq3, hx⟩ := bd hx
      refine Ev.callV (ν := m_R_fitsBy) (av := [vi a1, vi a2, vi (ii (-1))]) (rest := []) (r1 := some (vi q1)) (h1 := (wI h 80 0 (ii 0))) (ci := 12) (nn := 0) (o := 80) 14 3 tk_R_fits rfl bb_R_fitsBy vv_R_fitsBy lk_12_465 (by decide) rfl rfl (Or.inl rfl) (Nat.le_of_ble_eq_true rfl) (s_R_fitsBy Γ a1 a2 (ii (-1)) (wI h 80 0 (ii 0)) _ hq3) ?_
      show Ev Γ m_R_fits 25 [some (vr 12 0 80), some (vi a1), some (vi a2)] [vi q1] (wI h 80 0 (ii 0)) r h'
      refine Ev.blk (pc' := 29) (lv' := [some (vr 12 0 80), some (vi a1), some (vi a2)]) (st' := [vi q1]) (h' := (wI h 80 0 (ii 0))) 15 1 (Nat.le_of_ble_eq_true rfl) tk_R_fits rfl rfl ⟨trivial, trivial⟩ ?_
      obtain rfl := Option.some.inj hx
      obtain ⟨rfl, rfl⟩ := hP
      exact Ev.iret 17 tk_R_fits rfl rfl
