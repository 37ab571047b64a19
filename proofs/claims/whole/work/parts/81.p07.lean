set_option maxRecDepth 4000 in
theorem l_HF_allBring_L5 (Γ : AG) : ∀ (n : Nat) (v1 : Int32) (v2 : Int32) (v3 : Int32) (v4 : Int32) (h : AH) (x : Int32), HF_allBring_L5 n v1 v2 v3 v4 h = some x → ∀ (r : Option AV) (h' : AH), r = some (vi x) ∧ h' = h → Ev Γ m_HF_allBring 5 [some (vr 0 0 0), some (vi v1), some (vi v2), some (vi v3), some (vi v4)] [] h r h' := by
  intro n
  induction n with
  | zero => intro v1 v2 v3 v4 h x hx; cases hx
  | succ n ih =>
    intro v1 v2 v3 v4 h x hx r h' hP
    replace hx : HF_allBring_L5_b (HF_allBring_L5 n) v1 v2 v3 v4 h = some x := hx
    unfold HF_allBring_L5_b at hx
    refine Ev.blk (pc' := 14) (lv' := [some (vr 0 0 0), some (vi v1), some (vi v2), some (vi v3), some (vi v4)]) (st' := [vi (h.1 (h.2.2 0 13) 9), vi v4]) (h' := h) 4 4 (Nat.le_of_ble_eq_true rfl) tk_HF_allBring rfl rfl ⟨trivial, trivial, trivial, trivial, trivial⟩ ?_
    refine Ev.icmp_ge 8 49 tk_HF_allBring rfl (by decide) (fun hc1 => ?_) (fun hc1 => ?_)
    · replace hx := ip hc1 hx
      refine Ev.blk (pc' := 50) (lv' := [some (vr 0 0 0), some (vi v1), some (vi v2), some (vi v3), some (vi v4)]) (st' := [vi v3]) (h' := h) 25 1 (Nat.le_of_ble_eq_true rfl) tk_HF_allBring rfl rfl ⟨trivial, trivial⟩ ?_
      obtain rfl := Option.some.inj hx
      obtain ⟨rfl, rfl⟩ := hP
      exact Ev.iret 26 tk_HF_allBring rfl rfl
    · replace hx := ia hc1 hx
      refine Ev.blk (pc' := 26) (lv' := [some (vr 0 0 0), some (vi v1), some (vi v2), some (vi v3), some (vi v4)]) (st' := [vi v4, vi (h.1 13 6)]) (h' := h) 9 4 (Nat.le_of_ble_eq_true rfl) tk_HF_allBring rfl rfl ⟨trivial, trivial, trivial, trivial, trivial⟩ ?_
      refine Ev.callS (ν := m_HF_holds) (av := [vi (h.1 13 6), vi v4]) (rest := []) (r1 := some (vi (p_HF_holds (h.1 13 6) v4))) (h1 := h) 13 2 tk_HF_allBring rfl bb_HF_holds vv_HF_holds lk_0_173 (by decide) rfl rfl (Nat.le_of_ble_eq_true rfl) (s_HF_holds Γ (h.1 13 6) v4 h) ?_
      show Ev Γ m_HF_allBring 29 [some (vr 0 0 0), some (vi v1), some (vi v2), some (vi v3), some (vi v4)] [vi (p_HF_holds (h.1 13 6) v4)] h r h'
      obtain ⟨q2, hq2, hx⟩ := bd hx
      have K3 : Ev Γ m_HF_allBring 43 [some (vr 0 0 0), some (vi v1), some (vi v2), some (vi q2), some (vi v4)] [] h r h' := by
        refine Ev.blk (pc' := 5) (lv' := [some (vr 0 0 0), some (vi v1), some (vi v2), some (vi q2), some (vi (v4 + ii 1))]) (st' := []) (h' := h) 23 2 (Nat.le_of_ble_eq_true rfl) tk_HF_allBring rfl rfl ⟨trivial, trivial, trivial⟩ ?_
        exact Ev.msk [true, true, true, true, true] (ih v1 v2 q2 (v4 + ii 1) h _ hx r h' hP)
      clear hx
      refine Ev.if_eq 14 43 tk_HF_allBring rfl (by decide) (fun hc4 => ?_) (fun hc4 => ?_)
      · replace hq2 := ip hc4 hq2
        obtain rfl := Option.some.inj hq2
        exact Ev.msk [true, true, true, true, true] K3
      · replace hq2 := ia hc4 hq2
        refine Ev.blk (pc' := 38) (lv' := [some (vr 0 0 0), some (vi v1), some (vi v2), some (vi v3), some (vi v4)]) (st' := [vi v2, vi v1, vi v4, vr 0 0 0, vi v3]) (h' := h) 15 5 (Nat.le_of_ble_eq_true rfl) tk_HF_allBring rfl rfl ⟨trivial, trivial, trivial, trivial, trivial, trivial⟩ ?_
        obtain ⟨q1, hq5, hq2⟩ := bd hq2
        refine Ev.callV (ν := m_HF_wellBrings) (av := [vi v4, vi v1, vi v2]) (rest := [vi v3]) (r1 := some (vi q1)) (h1 := h) (ci := 0) (nn := 0) (o := 0) 20 3 tk_HF_allBring rfl bb_HF_wellBrings vv_HF_wellBrings lk_0_304 (by decide) rfl rfl (Or.inl rfl) (Nat.le_of_ble_eq_true rfl) (s_HF_wellBrings Γ v4 v1 v2 h _ hq5) ?_
        show Ev Γ m_HF_allBring 41 [some (vr 0 0 0), some (vi v1), some (vi v2), some (vi v3), some (vi v4)] [vi q1, vi v3] h r h'
        refine Ev.blk (pc' := 43) (lv' := [some (vr 0 0 0), some (vi v1), some (vi v2), some (vi (v3 + q1)), some (vi v4)]) (st' := []) (h' := h) 21 2 (Nat.le_of_ble_eq_true rfl) tk_HF_allBring rfl rfl ⟨trivial, trivial, trivial⟩ ?_
        obtain rfl := Option.some.inj hq2
        exact Ev.msk [true, true, true, true, true] K3
set_option maxRecDepth 4000 in
theorem s_HF_allBring (Γ : AG) (a1 : Int32) (a2 : Int32) (h : AH) (x : Int32) (hx : f_HF_allBring a1 a2 h = some x) : MetA Γ m_HF_allBring [vr 0 0 0, vi a1, vi a2] h (some (vi x)) h := by
  refine Ev.met rfl rfl (Nat.le_of_ble_eq_true rfl) ?_
  show Ev Γ m_HF_allBring 0 [some (vr 0 0 0), some (vi a1), some (vi a2), none, none] [] h _ _
  obtain ⟨r, hr⟩ : ∃ r : Option AV, r = some (vi x) := ⟨_, rfl⟩
  obtain ⟨h', hh⟩ : ∃ h' : AH, h' = h := ⟨_, rfl⟩
  have hP : r = some (vi x) ∧ h' = h := ⟨hr, hh⟩
  suffices hS : Ev Γ m_HF_allBring 0 [some (vr 0 0 0), some (vi a1), some (vi a2), none, none] [] h r h' by rw [hr, hh] at hS; exact hS
  clear hr hh
  unfold f_HF_allBring at hx
  refine Ev.blk (pc' := 5) (lv' := [some (vr 0 0 0), some (vi a1), some (vi a2), some (vi (ii 0)), some (vi (ii 0))]) (st' := []) (h' := h) 0 4 (Nat.le_of_ble_eq_true rfl) tk_HF_allBring rfl rfl ⟨trivial, trivial, trivial, trivial, trivial⟩ ?_
  refine Ev.msk [true, true, true, true, true] ?_
  show Ev Γ m_HF_allBring 5 [some (vr 0 0 0), some (vi a1), some (vi a2), some (vi (ii 0)), some (vi (ii 0))] [] h r h'
  exact l_HF_allBring_L5 Γ FU a1 a2 (ii 0) (ii 0) h _ hx r h' hP
set_option maxRecDepth 4000 in
theorem s_HF_brings (Γ : AG) (a1 : Int32) (a2 : Int32) (h : AH) (x : Int32) (hx : f_HF_brings a1 a2 h = some x) : MetA Γ m_HF_brings [vr 0 0 0, vi a1, vi a2] h (some (vi x)) h := by
  refine Ev.met rfl rfl (Nat.le_of_ble_eq_true rfl) ?_
  show Ev Γ m_HF_brings 0 [some (vr 0 0 0), some (vi a1), some (vi a2)] [] h _ _
  obtain ⟨r, hr⟩ : ∃ r : Option AV, r = some (vi x) := ⟨_, rfl⟩
  obtain ⟨h', hh⟩ : ∃ h' : AH, h' = h := ⟨_, rfl⟩
  have hP : r = some (vi x) ∧ h' = h := ⟨hr, hh⟩
  suffices hS : Ev Γ m_HF_brings 0 [some (vr 0 0 0), some (vi a1), some (vi a2)] [] h r h' by rw [hr, hh] at hS; exact hS
  clear hr hh
  unfold f_HF_brings at hx
  refine Ev.blk (pc' := 1) (lv' := [some (vr 0 0 0), some (vi a1), some (vi a2)]) (st' := [vr 0 0 0]) (h' := h) 0 1 (Nat.le_of_ble_eq_true rfl) tk_HF_brings rfl rfl ⟨trivial, trivial⟩ ?_
  refine Ev.callV (ν := m_HF_hasHeath) (av := []) (rest := []) (r1 := some (vi (p_HF_hasHeath h))) (h1 := h) (ci := 0) (nn := 0) (o := 0) 1 0 tk_HF_brings rfl bb_HF_hasHeath vv_HF_hasHeath lk_0_137 (by decide) rfl rfl (Or.inl rfl) (Nat.le_of_ble_eq_true rfl) (s_HF_hasHeath Γ h) ?_
  show Ev Γ m_HF_brings 4 [some (vr 0 0 0), some (vi a1), some (vi a2)] [vi (p_HF_hasHeath h)] h r h'
  refine Ev.if_eq 2 16 tk_HF_brings rfl (by decide) (fun hc1 => ?_) (fun hc1 => ?_)
  · replace hx := ip hc1 hx
    refine Ev.blk (pc' := 17) (lv' := [some (vr 0 0 0), some (vi a1), some (vi a2)]) (st' := [vi (ii (-1))]) (h' := h) 8 1 (Nat.le_of_ble_eq_true rfl) tk_HF_brings rfl rfl ⟨trivial, trivial⟩ ?_
    obtain rfl := Option.some.inj hx
    obtain ⟨rfl, rfl⟩ := hP
    exact Ev.iret 9 tk_HF_brings rfl rfl
  · replace hx := ia hc1 hx
    refine Ev.blk (pc' := 8) (lv' := [some (vr 0 0 0), some (vi a1), some (vi a2)]) (st' := [vi a2]) (h' := h) 3 1 (Nat.le_of_ble_eq_true rfl) tk_HF_brings rfl rfl ⟨trivial, trivial⟩ ?_
    refine Ev.if_lt 4 16 tk_HF_brings rfl (by decide) (fun hc2 => ?_) (fun hc2 => ?_)
    · replace hx := ip hc2 hx
      refine Ev.blk (pc' := 17) (lv' := [some (vr 0 0 0), some (vi a1), some (vi a2)]) (st' := [vi (ii (-1))]) (h' := h) 8 1 (Nat.le_of_ble_eq_true rfl) tk_HF_brings rfl rfl ⟨trivial, trivial⟩ ?_
      obtain rfl := Option.some.inj hx
      obtain ⟨rfl, rfl⟩ := hP
      exact Ev.iret 9 tk_HF_brings rfl rfl
    · replace hx := ia hc2 hx
      refine Ev.blk (pc' := 13) (lv' := [some (vr 0 0 0), some (vi a1), some (vi a2)]) (st' := [vi (ii 4), vi a2]) (h' := h) 5 2 (Nat.le_of_ble_eq_true rfl) tk_HF_brings rfl rfl ⟨trivial, trivial, trivial⟩ ?_
      refine Ev.icmp_lt 7 18 tk_HF_brings rfl (by decide) (fun hc3 => ?_) (fun hc3 => ?_)
      · replace hx := ip hc3 hx
        refine Ev.blk (pc' := 20) (lv' := [some (vr 0 0 0), some (vi a1), some (vi a2)]) (st' := [vi (ii (-1)), vi a1]) (h' := h) 10 2 (Nat.le_of_ble_eq_true rfl) tk_HF_brings rfl rfl ⟨trivial, trivial, trivial⟩ ?_
        refine Ev.icmp_ne 12 36 tk_HF_brings rfl (by decide) (fun hc4 => ?_) (fun hc4 => ?_)
        · replace hx := ia hc4 hx
          refine Ev.blk (pc' := 41) (lv' := [some (vr 0 0 0), some (vi a1), some (vi a2)]) (st' := [vi a1, vr 3 0 (h.2.2 0 13)]) (h' := h) 20 3 (Nat.le_of_ble_eq_true rfl) tk_HF_brings rfl rfl ⟨trivial, trivial, trivial, trivial⟩ ?_
          refine Ev.callV (ν := m_Heath_isCell) (av := [vi a1]) (rest := []) (r1 := some (vi (p_Heath_isCell (h.2.2 0 13) a1 h))) (h1 := h) (ci := 3) (nn := 0) (o := (h.2.2 0 13)) 23 1 tk_HF_brings rfl bb_Heath_isCell vv_Heath_isCell lk_0_153 (by decide) rfl rfl (Or.inl rfl) (Nat.le_of_ble_eq_true rfl) (s_Heath_isCell Γ (h.2.2 0 13) a1 h) ?_
          show Ev Γ m_HF_brings 44 [some (vr 0 0 0), some (vi a1), some (vi a2)] [vi (p_Heath_isCell (h.2.2 0 13) a1 h)] h r h'
          refine Ev.if_eq 24 61 tk_HF_brings rfl (by decide) (fun hc5 => ?_) (fun hc5 => ?_)
          · replace hx := ip hc5 hx
            refine Ev.blk (pc' := 62) (lv' := [some (vr 0 0 0), some (vi a1), some (vi a2)]) (st' := [vi (ii (-1))]) (h' := h) 31 1 (Nat.le_of_ble_eq_true rfl) tk_HF_brings rfl rfl ⟨trivial, trivial⟩ ?_
            obtain rfl := Option.some.inj hx
            obtain ⟨rfl, rfl⟩ := hP
            exact Ev.iret 32 tk_HF_brings rfl rfl
          · replace hx := ia hc5 hx
            refine Ev.blk (pc' := 55) (lv' := [some (vr 0 0 0), some (vi a1), some (vi a2)]) (st' := [vi a1, vi (h.1 13 6)]) (h' := h) 25 4 (Nat.le_of_ble_eq_true rfl) tk_HF_brings rfl rfl ⟨trivial, trivial, trivial, trivial, trivial⟩ ?_
            refine Ev.callS (ν := m_HF_holds) (av := [vi (h.1 13 6), vi a1]) (rest := []) (r1 := some (vi (p_HF_holds (h.1 13 6) a1))) (h1 := h) 29 2 tk_HF_brings rfl bb_HF_holds vv_HF_holds lk_0_173 (by decide) rfl rfl (Nat.le_of_ble_eq_true rfl) (s_HF_holds Γ (h.1 13 6) a1 h) ?_
            show Ev Γ m_HF_brings 58 [some (vr 0 0 0), some (vi a1), some (vi a2)] [vi (p_HF_holds (h.1 13 6) a1)] h r h'
            refine Ev.if_ne 30 63 tk_HF_brings rfl (by decide) (fun hc6 => ?_) (fun hc6 => ?_)
            · replace hx := ia hc6 hx
              refine Ev.blk (pc' := 73) (lv' := [some (vr 0 0 0), some (vi a1), some (vi a2)]) (st' := [vi (h.1 13 6), vi a2, vi a1, vr 0 0 0]) (h' := h) 33 6 (Nat.le_of_ble_eq_true rfl) tk_HF_brings rfl rfl ⟨trivial, trivial, trivial, trivial, trivial, trivial, trivial⟩ ?_
              obtain ⟨q1, hq7, hx⟩ := bd hx
              refine Ev.callV (ν := m_HF_wellBrings) (av := [vi a1, vi a2, vi (h.1 13 6)]) (rest := []) (r1 := some (vi q1)) (h1 := h) (ci := 0) (nn := 0) (o := 0) 39 3 tk_HF_brings rfl bb_HF_wellBrings vv_HF_wellBrings lk_0_304 (by decide) rfl rfl (Or.inl rfl) (Nat.le_of_ble_eq_true rfl) (s_HF_wellBrings Γ a1 a2 (h.1 13 6) h _ hq7) ?_
              show Ev Γ m_HF_brings 76 [some (vr 0 0 0), some (vi a1), some (vi a2)] [vi q1] h r h'
              obtain rfl := Option.some.inj hx
              obtain ⟨rfl, rfl⟩ := hP
              exact Ev.iret 40 tk_HF_brings rfl rfl
            · replace hx := ip hc6 hx
              refine Ev.blk (pc' := 62) (lv' := [some (vr 0 0 0), some (vi a1), some (vi a2)]) (st' := [vi (ii (-1))]) (h' := h) 31 1 (Nat.le_of_ble_eq_true rfl) tk_HF_brings rfl rfl ⟨trivial, trivial⟩ ?_
              obtain rfl := Option.some.inj hx
              obtain ⟨rfl, rfl⟩ := hP
              exact Ev.iret 32 tk_HF_brings rfl rfl
        · replace hx := ip hc4 hx
          refine Ev.blk (pc' := 32) (lv' := [some (vr 0 0 0), some (vi a1), some (vi a2)]) (st' := [vi (h.1 13 6), vi a2, vr 0 0 0]) (h' := h) 13 5 (Nat.le_of_ble_eq_true rfl) tk_HF_brings rfl rfl ⟨trivial, trivial, trivial, trivial, trivial, trivial⟩ ?_
          obtain ⟨q2, hq8, hx⟩ := bd hx
          refine Ev.callV (ν := m_HF_allBring) (av := [vi a2, vi (h.1 13 6)]) (rest := []) (r1 := some (vi q2)) (h1 := h) (ci := 0) (nn := 0) (o := 0) 18 2 tk_HF_brings rfl bb_HF_allBring vv_HF_allBring lk_0_301 (by decide) rfl rfl (Or.inl rfl) (Nat.le_of_ble_eq_true rfl) (s_HF_allBring Γ a2 (h.1 13 6) h _ hq8) ?_
          show Ev Γ m_HF_brings 35 [some (vr 0 0 0), some (vi a1), some (vi a2)] [vi q2] h r h'
          obtain rfl := Option.some.inj hx
          obtain ⟨rfl, rfl⟩ := hP
          exact Ev.iret 19 tk_HF_brings rfl rfl
      · replace hx := ia hc3 hx
        refine Ev.blk (pc' := 17) (lv' := [some (vr 0 0 0), some (vi a1), some (vi a2)]) (st' := [vi (ii (-1))]) (h' := h) 8 1 (Nat.le_of_ble_eq_true rfl) tk_HF_brings rfl rfl ⟨trivial, trivial⟩ ?_
        obtain rfl := Option.some.inj hx
        obtain ⟨rfl, rfl⟩ := hP
        exact Ev.iret 9 tk_HF_brings rfl rfl
set_option maxRecDepth 4000 in
theorem l_Plan_prepare_L39 (Γ : AG) : ∀ (n : Nat) (o1 : Nat) (o2 : Nat) (v4 : Int32) (h : AH) (x : AH), Plan_prepare_L39 n o1 o2 v4 h = some x → ∀ (r : Option AV) (h' : AH), r = none ∧ h' = x → Ev Γ m_Plan_prepare 39 [some (vr 11 0 39), some (vr 3 0 o1), some (vr 8 0 o2), none, some (vi v4), none, none, none, none] [] h r h' := by
  intro n
  induction n with
  | zero => intro o1 o2 v4 h x hx; cases hx
  | succ n ih =>
    intro o1 o2 v4 h x hx r h' hP
    replace hx : Plan_prepare_L39_b (Plan_prepare_L39 n) o1 o2 v4 h = some x := hx
    unfold Plan_prepare_L39_b at hx
    refine Ev.blk (pc' := 45) (lv' := [some (vr 11 0 39), some (vr 3 0 o1), some (vr 8 0 o2), none, some (vi v4), none, none, none, none]) (st' := [vi (h.1 39 3), vi v4]) (h' := h) 21 3 (Nat.le_of_ble_eq_true rfl) tk_Plan_prepare rfl rfl ⟨trivial, trivial, trivial, trivial⟩ ?_
    refine Ev.icmp_ge 24 207 tk_Plan_prepare rfl (by decide) (fun hc1 => ?_) (fun hc1 => ?_)
    · replace hx := ip hc1 hx
      obtain rfl := Option.some.inj hx
      obtain ⟨rfl, rfl⟩ := hP
      exact Ev.vret 104 tk_Plan_prepare rfl rfl
    · replace hx := ia hc1 hx
      refine Ev.blk (pc' := 52) (lv' := [some (vr 11 0 39), some (vr 3 0 o1), some (vr 8 0 o2), none, some (vi v4), none, none, none, none]) (st' := [vi (ii 2), vi v4, vr 3 0 o1]) (h' := h) 25 3 (Nat.le_of_ble_eq_true rfl) tk_Plan_prepare rfl rfl ⟨trivial, trivial, trivial, trivial⟩ ?_
      obtain ⟨q1, hq2, hx⟩ := bd hx
      refine Ev.callV (ν := m_Heath_waterIn) (av := [vi v4, vi (ii 2)]) (rest := []) (r1 := some (vi q1)) (h1 := h) (ci := 3) (nn := 0) (o := o1) 28 2 tk_Plan_prepare rfl bb_Heath_waterIn vv_Heath_waterIn lk_11_59 (by decide) rfl rfl (Or.inl rfl) (Nat.le_of_ble_eq_true rfl) (s_Heath_waterIn Γ o1 v4 (ii 2) h _ hq2) ?_
      show Ev Γ m_Plan_prepare 55 [some (vr 11 0 39), some (vr 3 0 o1), some (vr 8 0 o2), none, some (vi v4), none, none, none, none] [vi q1] h r h'
      refine Ev.blk (pc' := 63) (lv' := [some (vr 11 0 39), some (vr 3 0 o1), some (vr 8 0 o2), none, some (vi v4), some (vi q1), none, none, none]) (st' := [vi v4, vi (h.1 39 4)]) (h' := h) 29 4 (Nat.le_of_ble_eq_true rfl) tk_Plan_prepare rfl rfl ⟨trivial, trivial, trivial, trivial, trivial⟩ ?_
      refine Ev.callSN (ν := m_HF_holds) (av := [vi (h.1 39 4), vi v4]) (rest := []) (r1 := some (vi (p_HF_holds (h.1 39 4) v4))) (h1 := h) 33 2 tk_Plan_prepare rfl bb_HF_holds vv_HF_holds lk_11_62 (by decide) rfl rfl (Nat.le_of_ble_eq_true rfl) (s_HF_holds Γ (h.1 39 4) v4 h) ?_
      show Ev Γ m_Plan_prepare 66 [some (vr 11 0 39), some (vr 3 0 o1), some (vr 8 0 o2), none, some (vi v4), some (vi q1), none, none, none] [vi (p_HF_holds (h.1 39 4) v4)] h r h'
      refine Ev.blk (pc' := 70) (lv' := [some (vr 11 0 39), some (vr 3 0 o1), some (vr 8 0 o2), none, some (vi v4), some (vi q1), some (vi (p_HF_holds (h.1 39 4) v4)), none, none]) (st' := [vi (p_HF_holds (h.1 39 4) v4)]) (h' := h) 34 2 (Nat.le_of_ble_eq_true rfl) tk_Plan_prepare rfl rfl ⟨trivial, trivial, trivial⟩ ?_
      obtain ⟨q3, hq3, hx⟩ := bd hx
      have K4 : Ev Γ m_Plan_prepare 84 [some (vr 11 0 39), some (vr 3 0 o1), some (vr 8 0 o2), none, some (vi v4), some (vi q1), some (vi (p_HF_holds (h.1 39 4) v4)), none, none] [vi q3] h r h' := by
        refine Ev.blk (pc' := 89) (lv' := [some (vr 11 0 39), some (vr 3 0 o1), some (vr 8 0 o2), none, some (vi v4), some (vi q1), some (vi (p_HF_holds (h.1 39 4) v4)), some (vi q3), none]) (st' := [vi (ii (-1)), vi q1]) (h' := h) 42 3 (Nat.le_of_ble_eq_true rfl) tk_Plan_prepare rfl rfl ⟨trivial, trivial, trivial, trivial⟩ ?_
        have K5 : ∀ v5_0 : Int32, v5_0 = (if q1 = (ii (-1)) then (ii 0) else (if q3 < q1 then (ii 0) else (ii 1))) → Ev Γ m_Plan_prepare 104 [some (vr 11 0 39), some (vr 3 0 o1), some (vr 8 0 o2), none, some (vi v4), some (vi q1), some (vi (p_HF_holds (h.1 39 4) v4)), none, none] [vi v5_0] h r h' := by
          intro v5_0 e6
          subst e6
          refine Ev.blk (pc' := 114) (lv' := [some (vr 11 0 39), some (vr 3 0 o1), some (vr 8 0 o2), none, some (vi v4), some (vi q1), some (vi (p_HF_holds (h.1 39 4) v4)), none, some (vi (if q1 = (ii (-1)) then (ii 0) else (if q3 < q1 then (ii 0) else (ii 1))))]) (st' := [vi (if q1 = (ii (-1)) then (ii 0) else (if q3 < q1 then (ii 0) else (ii 1))), vi v4, vr 20 30 40]) (h' := h) 52 5 (Nat.le_of_ble_eq_true rfl) tk_Plan_prepare rfl rfl ⟨trivial, trivial, trivial, trivial, trivial, trivial⟩ ?_
          obtain ⟨q4, hq7, hx⟩ := bd hx
          have K8 : Ev Γ m_Plan_prepare 129 [some (vr 11 0 39), some (vr 3 0 o1), some (vr 8 0 o2), none, some (vi v4), some (vi q1), some (vi (p_HF_holds (h.1 39 4) v4)), none, some (vi (if q1 = (ii (-1)) then (ii 0) else (if q3 < q1 then (ii 0) else (ii 1))))] [vi q4, vi v4, vr 20 30 40] h r h' := by
            obtain ⟨hg9, hx⟩ := gd hx
            refine Ev.blk (pc' := 138) (lv' := [some (vr 11 0 39), some (vr 3 0 o1), some (vr 8 0 o2), none, some (vi v4), some (vi q1), some (vi (p_HF_holds (h.1 39 4) v4)), none, some (vi (if q1 = (ii (-1)) then (ii 0) else (if q3 < q1 then (ii 0) else (ii 1))))]) (st' := [vi (if q1 = (ii (-1)) then (ii 0) else (if q3 < q1 then (ii 0) else (ii 1))), vi v4, vr 20 30 41]) (h' := (wI h 40 v4.toNatClampNeg q4)) 65 5 (Nat.le_of_ble_eq_true rfl) tk_Plan_prepare rfl rfl ⟨hg9, trivial, trivial, trivial, trivial, trivial⟩ ?_
            obtain ⟨q6, hq10, hx⟩ := bd hx
            have K11 : Ev Γ m_Plan_prepare 159 [some (vr 11 0 39), some (vr 3 0 o1), some (vr 8 0 o2), none, some (vi v4), none, some (vi (p_HF_holds (h.1 39 4) v4)), none, some (vi (if q1 = (ii (-1)) then (ii 0) else (if q3 < q1 then (ii 0) else (ii 1))))] [vi q6, vi v4, vr 20 30 41] (wI h 40 v4.toNatClampNeg q4) r h' := by
              obtain ⟨hg12, hx⟩ := gd hx
              refine Ev.blk (pc' := 169) (lv' := [some (vr 11 0 39), some (vr 3 0 o1), some (vr 8 0 o2), none, some (vi v4), none, some (vi (p_HF_holds (h.1 39 4) v4)), none, some (vi (if q1 = (ii (-1)) then (ii 0) else (if q3 < q1 then (ii 0) else (ii 1))))]) (st' := [vi v4, vr 3 0 o1, vi v4, vr 20 30 42]) (h' := (wI (wI h 40 v4.toNatClampNeg q4) 41 v4.toNatClampNeg q6)) 81 6 (Nat.le_of_ble_eq_true rfl) tk_Plan_prepare rfl rfl ⟨hg12, trivial, trivial, trivial, trivial, trivial, trivial⟩ ?_
              obtain ⟨q7, hq13, hx⟩ := bd hx
              refine Ev.callV (ν := m_Heath_besideOf) (av := [vi v4]) (rest := [vi v4, vr 20 30 42]) (r1 := some (vi q7)) (h1 := (wI (wI h 40 v4.toNatClampNeg q4) 41 v4.toNatClampNeg q6)) (ci := 3) (nn := 0) (o := o1) 87 1 tk_Plan_prepare rfl bb_Heath_besideOf vv_Heath_besideOf lk_11_76 (by decide) rfl rfl (Or.inl rfl) (Nat.le_of_ble_eq_true rfl) (s_Heath_besideOf Γ o1 v4 (wI (wI h 40 v4.toNatClampNeg q4) 41 v4.toNatClampNeg q6) _ hq13) ?_
              show Ev Γ m_Plan_prepare 172 [some (vr 11 0 39), some (vr 3 0 o1), some (vr 8 0 o2), none, some (vi v4), none, some (vi (p_HF_holds (h.1 39 4) v4)), none, some (vi (if q1 = (ii (-1)) then (ii 0) else (if q3 < q1 then (ii 0) else (ii 1))))] [vi q7, vi v4, vr 20 30 42] (wI (wI h 40 v4.toNatClampNeg q4) 41 v4.toNatClampNeg q6) r h'
              obtain ⟨hg14, hx⟩ := gd hx
              refine Ev.blk (pc' := 180) (lv' := [some (vr 11 0 39), some (vr 3 0 o1), some (vr 8 0 o2), none, some (vi v4), none, some (vi (p_HF_holds (h.1 39 4) v4)), none, some (vi (if q1 = (ii (-1)) then (ii 0) else (if q3 < q1 then (ii 0) else (ii 1))))]) (st' := [vi (if q1 = (ii (-1)) then (ii 0) else (if q3 < q1 then (ii 0) else (ii 1))), vi ((wI (wI (wI h 40 v4.toNatClampNeg q4) 41 v4.toNatClampNeg q6) 42 v4.toNatClampNeg q7).1 39 5), vr 11 0 39]) (h' := (wI (wI (wI h 40 v4.toNatClampNeg q4) 41 v4.toNatClampNeg q6) 42 v4.toNatClampNeg q7)) 88 5 (Nat.le_of_ble_eq_true rfl) tk_Plan_prepare rfl rfl ⟨hg14, trivial, trivial, trivial, trivial, trivial⟩ ?_
              have K15 : ∀ v15_0 : Int32, v15_0 = (if (if q1 = (ii (-1)) then (ii 0) else (if q3 < q1 then (ii 0) else (ii 1))) = 0 then (ii 0) else (if (p_HF_holds (h.1 39 4) v4) = 0 then (p_HF_bit v4) else (ii 0))) → Ev Γ m_Plan_prepare 197 [some (vr 11 0 39), some (vr 3 0 o1), some (vr 8 0 o2), none, some (vi v4), none, none, none, none] [vi v15_0, vi ((wI (wI (wI h 40 v4.toNatClampNeg q4) 41 v4.toNatClampNeg q6) 42 v4.toNatClampNeg q7).1 39 5), vr 11 0 39] (wI (wI (wI h 40 v4.toNatClampNeg q4) 41 v4.toNatClampNeg q6) 42 v4.toNatClampNeg q7) r h' := by
                intro v15_0 e16
                subst e16
                refine Ev.blk (pc' := 39) (lv' := [some (vr 11 0 39), some (vr 3 0 o1), some (vr 8 0 o2), none, some (vi (v4 + ii 1)), none, none, none, none]) (st' := []) (h' := (wI (wI (wI (wI h 40 v4.toNatClampNeg q4) 41 v4.toNatClampNeg q6) 42 v4.toNatClampNeg q7) 39 5 (((wI (wI (wI h 40 v4.toNatClampNeg q4) 41 v4.toNatClampNeg q6) 42 v4.toNatClampNeg q7).1 39 5) ||| (if (if q1 = (ii (-1)) then (ii 0) else (if q3 < q1 then (ii 0) else (ii 1))) = 0 then (ii 0) else (if (p_HF_holds (h.1 39 4) v4) = 0 then (p_HF_bit v4) else (ii 0)))))) 100 4 (Nat.le_of_ble_eq_true rfl) tk_Plan_prepare rfl rfl ⟨trivial, trivial, trivial, trivial, trivial⟩ ?_
                exact Ev.msk [true, true, true, false, true, false, false, false, false] (ih o1 o2 (v4 + ii 1) (wI (wI (wI (wI h 40 v4.toNatClampNeg q4) 41 v4.toNatClampNeg q6) 42 v4.toNatClampNeg q7) 39 5 (((wI (wI (wI h 40 v4.toNatClampNeg q4) 41 v4.toNatClampNeg q6) 42 v4.toNatClampNeg q7).1 39 5) ||| (if (if q1 = (ii (-1)) then (ii 0) else (if q3 < q1 then (ii 0) else (ii 1))) = 0 then (ii 0) else (if (p_HF_holds (h.1 39 4) v4) = 0 then (p_HF_bit v4) else (ii 0))))) _ hx r h' hP)
              refine Ev.if_eq 93 196 tk_Plan_prepare rfl (by decide) (fun hc17 => ?_) (fun hc17 => ?_)
              · refine Ev.blk (pc' := 197) (lv' := [some (vr 11 0 39), some (vr 3 0 o1), some (vr 8 0 o2), none, some (vi v4), none, some (vi (p_HF_holds (h.1 39 4) v4)), none, some (vi (if q1 = (ii (-1)) then (ii 0) else (if q3 < q1 then (ii 0) else (ii 1))))]) (st' := [vi (ii 0), vi ((wI (wI (wI h 40 v4.toNatClampNeg q4) 41 v4.toNatClampNeg q6) 42 v4.toNatClampNeg q7).1 39 5), vr 11 0 39]) (h' := (wI (wI (wI h 40 v4.toNatClampNeg q4) 41 v4.toNatClampNeg q6) 42 v4.toNatClampNeg q7)) 99 1 (Nat.le_of_ble_eq_true rfl) tk_Plan_prepare rfl rfl ⟨trivial, trivial⟩ ?_
                exact Ev.msk [true, true, true, false, true, false, false, false, false] (K15 _ (by first | rfl | simp only [if_pos hc17]))
              · refine Ev.blk (pc' := 185) (lv' := [some (vr 11 0 39), some (vr 3 0 o1), some (vr 8 0 o2), none, some (vi v4), none, some (vi (p_HF_holds (h.1 39 4) v4)), none, some (vi (if q1 = (ii (-1)) then (ii 0) else (if q3 < q1 then (ii 0) else (ii 1))))]) (st' := [vi (p_HF_holds (h.1 39 4) v4), vi ((wI (wI (wI h 40 v4.toNatClampNeg q4) 41 v4.toNatClampNeg q6) 42 v4.toNatClampNeg q7).1 39 5), vr 11 0 39]) (h' := (wI (wI (wI h 40 v4.toNatClampNeg q4) 41 v4.toNatClampNeg q6) 42 v4.toNatClampNeg q7)) 94 1 (Nat.le_of_ble_eq_true rfl) tk_Plan_prepare rfl rfl ⟨trivial, trivial⟩ ?_
                refine Ev.if_ne 95 196 tk_Plan_prepare rfl (by decide) (fun hc18 => ?_) (fun hc18 => ?_)
                · refine Ev.blk (pc' := 197) (lv' := [some (vr 11 0 39), some (vr 3 0 o1), some (vr 8 0 o2), none, some (vi v4), none, some (vi (p_HF_holds (h.1 39 4) v4)), none, some (vi (if q1 = (ii (-1)) then (ii 0) else (if q3 < q1 then (ii 0) else (ii 1))))]) (st' := [vi (ii 0), vi ((wI (wI (wI h 40 v4.toNatClampNeg q4) 41 v4.toNatClampNeg q6) 42 v4.toNatClampNeg q7).1 39 5), vr 11 0 39]) (h' := (wI (wI (wI h 40 v4.toNatClampNeg q4) 41 v4.toNatClampNeg q6) 42 v4.toNatClampNeg q7)) 99 1 (Nat.le_of_ble_eq_true rfl) tk_Plan_prepare rfl rfl ⟨trivial, trivial⟩ ?_
                  exact Ev.msk [true, true, true, false, true, false, false, false, false] (K15 _ (by first | rfl | simp only [if_neg hc17, if_neg hc18]))
                · refine Ev.blk (pc' := 190) (lv' := [some (vr 11 0 39), some (vr 3 0 o1), some (vr 8 0 o2), none, some (vi v4), none, some (vi (p_HF_holds (h.1 39 4) v4)), none, some (vi (if q1 = (ii (-1)) then (ii 0) else (if q3 < q1 then (ii 0) else (ii 1))))]) (st' := [vi v4, vi ((wI (wI (wI h 40 v4.toNatClampNeg q4) 41 v4.toNatClampNeg q6) 42 v4.toNatClampNeg q7).1 39 5), vr 11 0 39]) (h' := (wI (wI (wI h 40 v4.toNatClampNeg q4) 41 v4.toNatClampNeg q6) 42 v4.toNatClampNeg q7)) 96 1 (Nat.le_of_ble_eq_true rfl) tk_Plan_prepare rfl rfl ⟨trivial, trivial⟩ ?_
                  refine Ev.callSN (ν := m_HF_bit) (av := [vi v4]) (rest := [vi ((wI (wI (wI h 40 v4.toNatClampNeg q4) 41 v4.toNatClampNeg q6) 42 v4.toNatClampNeg q7).1 39 5), vr 11 0 39]) (r1 := some (vi (p_HF_bit v4))) (h1 := (wI (wI (wI h 40 v4.toNatClampNeg q4) 41 v4.toNatClampNeg q6) 42 v4.toNatClampNeg q7)) 97 1 tk_Plan_prepare rfl bb_HF_bit vv_HF_bit lk_11_79 (by decide) rfl rfl (Nat.le_of_ble_eq_true rfl) (s_HF_bit Γ v4 (wI (wI (wI h 40 v4.toNatClampNeg q4) 41 v4.toNatClampNeg q6) 42 v4.toNatClampNeg q7)) ?_
                  show Ev Γ m_Plan_prepare 193 [some (vr 11 0 39), some (vr 3 0 o1), some (vr 8 0 o2), none, some (vi v4), none, some (vi (p_HF_holds (h.1 39 4) v4)), none, some (vi (if q1 = (ii (-1)) then (ii 0) else (if q3 < q1 then (ii 0) else (ii 1))))] [vi (p_HF_bit v4), vi ((wI (wI (wI h 40 v4.toNatClampNeg q4) 41 v4.toNatClampNeg q6) 42 v4.toNatClampNeg q7).1 39 5), vr 11 0 39] (wI (wI (wI h 40 v4.toNatClampNeg q4) 41 v4.toNatClampNeg q6) 42 v4.toNatClampNeg q7) r h'
                  refine Ev.blk (pc' := 197) (lv' := [some (vr 11 0 39), some (vr 3 0 o1), some (vr 8 0 o2), none, some (vi v4), none, some (vi (p_HF_holds (h.1 39 4) v4)), none, some (vi (if q1 = (ii (-1)) then (ii 0) else (if q3 < q1 then (ii 0) else (ii 1))))]) (st' := [vi (p_HF_bit v4), vi ((wI (wI (wI h 40 v4.toNatClampNeg q4) 41 v4.toNatClampNeg q6) 42 v4.toNatClampNeg q7).1 39 5), vr 11 0 39]) (h' := (wI (wI (wI h 40 v4.toNatClampNeg q4) 41 v4.toNatClampNeg q6) 42 v4.toNatClampNeg q7)) 98 1 (Nat.le_of_ble_eq_true rfl) tk_Plan_prepare rfl rfl ⟨trivial, trivial⟩ ?_
                  exact Ev.msk [true, true, true, false, true, false, false, false, false] (K15 _ (by first | rfl | simp only [if_neg hc17, if_pos hc18]))
            clear hx
            refine Ev.if_eq 70 158 tk_Plan_prepare rfl (by decide) (fun hc19 => ?_) (fun hc19 => ?_)
            · replace hq10 := ip hc19 hq10
              refine Ev.blk (pc' := 159) (lv' := [some (vr 11 0 39), some (vr 3 0 o1), some (vr 8 0 o2), none, some (vi v4), some (vi q1), some (vi (p_HF_holds (h.1 39 4) v4)), none, some (vi (if q1 = (ii (-1)) then (ii 0) else (if q3 < q1 then (ii 0) else (ii 1))))]) (st' := [vi (ii 0), vi v4, vr 20 30 41]) (h' := (wI h 40 v4.toNatClampNeg q4)) 80 1 (Nat.le_of_ble_eq_true rfl) tk_Plan_prepare rfl rfl ⟨trivial, trivial⟩ ?_
              obtain rfl := Option.some.inj hq10
              exact Ev.msk [true, true, true, false, true, false, true, false, true] K11
            · replace hq10 := ia hc19 hq10
              refine Ev.blk (pc' := 150) (lv' := [some (vr 11 0 39), some (vr 3 0 o1), some (vr 8 0 o2), none, some (vi v4), some (vi q1), some (vi (p_HF_holds (h.1 39 4) v4)), none, some (vi (if q1 = (ii (-1)) then (ii 0) else (if q3 < q1 then (ii 0) else (ii 1))))]) (st' := [vi v4, vr 3 0 o1, vi ((wI h 40 v4.toNatClampNeg q4).1 o1 8), vi q1, vi v4, vr 20 30 41]) (h' := (wI h 40 v4.toNatClampNeg q4)) 71 5 (Nat.le_of_ble_eq_true rfl) tk_Plan_prepare rfl rfl ⟨trivial, trivial, trivial, trivial, trivial, trivial⟩ ?_
              obtain ⟨q5, hq20, hq10⟩ := bd hq10
              refine Ev.callV (ν := m_Heath_rockIn) (av := [vi v4]) (rest := [vi ((wI h 40 v4.toNatClampNeg q4).1 o1 8), vi q1, vi v4, vr 20 30 41]) (r1 := some (vi q5)) (h1 := (wI h 40 v4.toNatClampNeg q4)) (ci := 3) (nn := 0) (o := o1) 76 1 tk_Plan_prepare rfl bb_Heath_rockIn vv_Heath_rockIn lk_11_73 (by decide) rfl rfl (Or.inl rfl) (Nat.le_of_ble_eq_true rfl) (s_Heath_rockIn Γ o1 v4 (wI h 40 v4.toNatClampNeg q4) _ hq20) ?_
              show Ev Γ m_Plan_prepare 153 [some (vr 11 0 39), some (vr 3 0 o1), some (vr 8 0 o2), none, some (vi v4), some (vi q1), some (vi (p_HF_holds (h.1 39 4) v4)), none, some (vi (if q1 = (ii (-1)) then (ii 0) else (if q3 < q1 then (ii 0) else (ii 1))))] [vi q5, vi ((wI h 40 v4.toNatClampNeg q4).1 o1 8), vi q1, vi v4, vr 20 30 41] (wI h 40 v4.toNatClampNeg q4) r h'
              refine Ev.blk (pc' := 159) (lv' := [some (vr 11 0 39), some (vr 3 0 o1), some (vr 8 0 o2), none, some (vi v4), some (vi q1), some (vi (p_HF_holds (h.1 39 4) v4)), none, some (vi (if q1 = (ii (-1)) then (ii 0) else (if q3 < q1 then (ii 0) else (ii 1))))]) (st' := [vi (q1 * (((wI h 40 v4.toNatClampNeg q4).1 o1 8) + q5)), vi v4, vr 20 30 41]) (h' := (wI h 40 v4.toNatClampNeg q4)) 77 3 (Nat.le_of_ble_eq_true rfl) tk_Plan_prepare rfl rfl ⟨trivial, trivial, trivial, trivial⟩ ?_
              obtain rfl := Option.some.inj hq10
              exact Ev.msk [true, true, true, false, true, false, true, false, true] K11
          clear hx
          refine Ev.if_eq 57 128 tk_Plan_prepare rfl (by decide) (fun hc21 => ?_) (fun hc21 => ?_)
          · replace hq7 := ip hc21 hq7
            refine Ev.blk (pc' := 129) (lv' := [some (vr 11 0 39), some (vr 3 0 o1), some (vr 8 0 o2), none, some (vi v4), some (vi q1), some (vi (p_HF_holds (h.1 39 4) v4)), none, some (vi (if q1 = (ii (-1)) then (ii 0) else (if q3 < q1 then (ii 0) else (ii 1))))]) (st' := [vi (ii 0), vi v4, vr 20 30 40]) (h' := h) 64 1 (Nat.le_of_ble_eq_true rfl) tk_Plan_prepare rfl rfl ⟨trivial, trivial⟩ ?_
            obtain rfl := Option.some.inj hq7
            exact Ev.msk [true, true, true, false, true, true, true, false, true] K8
          · replace hq7 := ia hc21 hq7
            obtain ⟨hg22, hq7⟩ := gd hq7
            refine Ev.blk (pc' := 129) (lv' := [some (vr 11 0 39), some (vr 3 0 o1), some (vr 8 0 o2), none, some (vi v4), some (vi q1), some (vi (p_HF_holds (h.1 39 4) v4)), none, some (vi (if q1 = (ii (-1)) then (ii 0) else (if q3 < q1 then (ii 0) else (ii 1))))]) (st' := [vi ((ii 10) - (q1 / (ii 10))), vi v4, vr 20 30 40]) (h' := h) 58 6 (Nat.le_of_ble_eq_true rfl) tk_Plan_prepare rfl rfl ⟨trivial, trivial, trivial, hg22, trivial, trivial, trivial⟩ ?_
            obtain rfl := Option.some.inj hq7
            exact Ev.msk [true, true, true, false, true, true, true, false, true] K8
        refine Ev.icmp_eq 45 103 tk_Plan_prepare rfl (by decide) (fun hc23 => ?_) (fun hc23 => ?_)
        · refine Ev.blk (pc' := 104) (lv' := [some (vr 11 0 39), some (vr 3 0 o1), some (vr 8 0 o2), none, some (vi v4), some (vi q1), some (vi (p_HF_holds (h.1 39 4) v4)), some (vi q3), none]) (st' := [vi (ii 0)]) (h' := h) 51 1 (Nat.le_of_ble_eq_true rfl) tk_Plan_prepare rfl rfl ⟨trivial, trivial⟩ ?_
          exact Ev.msk [true, true, true, false, true, true, true, false, false] (K5 _ (by first | rfl | simp only [if_pos hc23]))
        · refine Ev.blk (pc' := 96) (lv' := [some (vr 11 0 39), some (vr 3 0 o1), some (vr 8 0 o2), none, some (vi v4), some (vi q1), some (vi (p_HF_holds (h.1 39 4) v4)), some (vi q3), none]) (st' := [vi q3, vi q1]) (h' := h) 46 2 (Nat.le_of_ble_eq_true rfl) tk_Plan_prepare rfl rfl ⟨trivial, trivial, trivial⟩ ?_
          refine Ev.icmp_gt 48 103 tk_Plan_prepare rfl (by decide) (fun hc24 => ?_) (fun hc24 => ?_)
          · refine Ev.blk (pc' := 104) (lv' := [some (vr 11 0 39), some (vr 3 0 o1), some (vr 8 0 o2), none, some (vi v4), some (vi q1), some (vi (p_HF_holds (h.1 39 4) v4)), some (vi q3), none]) (st' := [vi (ii 0)]) (h' := h) 51 1 (Nat.le_of_ble_eq_true rfl) tk_Plan_prepare rfl rfl ⟨trivial, trivial⟩ ?_
            exact Ev.msk [true, true, true, false, true, true, true, false, false] (K5 _ (by first | rfl | simp only [if_neg hc23, if_pos hc24]))
          · refine Ev.blk (pc' := 104) (lv' := [some (vr 11 0 39), some (vr 3 0 o1), some (vr 8 0 o2), none, some (vi v4), some (vi q1), some (vi (p_HF_holds (h.1 39 4) v4)), some (vi q3), none]) (st' := [vi (ii 1)]) (h' := h) 49 2 (Nat.le_of_ble_eq_true rfl) tk_Plan_prepare rfl rfl ⟨trivial, trivial, trivial⟩ ?_
            exact Ev.msk [true, true, true, false, true, true, true, false, false] (K5 _ (by first | rfl | simp only [if_neg hc23, if_neg hc24]))
      clear hx
      refine Ev.if_eq 36 82 tk_Plan_prepare rfl (by decide) (fun hc25 => ?_) (fun hc25 => ?_)
      · replace hq3 := ip hc25 hq3
        refine Ev.blk (pc' := 84) (lv' := [some (vr 11 0 39), some (vr 3 0 o1), some (vr 8 0 o2), none, some (vi v4), some (vi q1), some (vi (p_HF_holds (h.1 39 4) v4)), none, none]) (st' := [vi (ii 60)]) (h' := h) 41 1 (Nat.le_of_ble_eq_true rfl) tk_Plan_prepare rfl rfl ⟨trivial, trivial⟩ ?_
        obtain rfl := Option.some.inj hq3
        exact Ev.msk [true, true, true, false, true, true, true, false, false] K4
      · replace hq3 := ia hc25 hq3
        refine Ev.blk (pc' := 76) (lv' := [some (vr 11 0 39), some (vr 3 0 o1), some (vr 8 0 o2), none, some (vi v4), some (vi q1), some (vi (p_HF_holds (h.1 39 4) v4)), none, none]) (st' := [vi v4, vr 8 0 o2]) (h' := h) 37 2 (Nat.le_of_ble_eq_true rfl) tk_Plan_prepare rfl rfl ⟨trivial, trivial, trivial⟩ ?_
        obtain ⟨q2, hq26, hq3⟩ := bd hq3
        refine Ev.callV (ν := m_Moor_sunkTo) (av := [vi v4]) (rest := []) (r1 := some (vi q2)) (h1 := h) (ci := 8) (nn := 0) (o := o2) 39 1 tk_Plan_prepare rfl bb_Moor_sunkTo vv_Moor_sunkTo lk_11_66 (by decide) rfl rfl (Or.inl rfl) (Nat.le_of_ble_eq_true rfl) (s_Moor_sunkTo Γ o2 v4 h _ hq26) ?_
        show Ev Γ m_Plan_prepare 79 [some (vr 11 0 39), some (vr 3 0 o1), some (vr 8 0 o2), none, some (vi v4), some (vi q1), some (vi (p_HF_holds (h.1 39 4) v4)), none, none] [vi q2] h r h'
        refine Ev.blk (pc' := 84) (lv' := [some (vr 11 0 39), some (vr 3 0 o1), some (vr 8 0 o2), none, some (vi v4), some (vi q1), some (vi (p_HF_holds (h.1 39 4) v4)), none, none]) (st' := [vi q2]) (h' := h) 40 1 (Nat.le_of_ble_eq_true rfl) tk_Plan_prepare rfl rfl ⟨trivial, trivial⟩ ?_
        obtain rfl := Option.some.inj hq3
        exact Ev.msk [true, true, true, false, true, true, true, false, false] K4
set_option maxRecDepth 4000 in
theorem s_Plan_prepare (Γ : AG) (o1 : Nat) (o2 : Nat) (a3 : Int32) (h : AH) (x : AH) (hx : f_Plan_prepare o1 o2 a3 h = some x) : MetA Γ m_Plan_prepare [vr 11 0 39, vr 3 0 o1, vr 8 0 o2, vi a3] h (none) x := by
  refine Ev.met rfl rfl (Nat.le_of_ble_eq_true rfl) ?_
  show Ev Γ m_Plan_prepare 0 [some (vr 11 0 39), some (vr 3 0 o1), some (vr 8 0 o2), some (vi a3), none, none, none, none, none] [] h _ _
  obtain ⟨r, hr⟩ : ∃ r : Option AV, r = none := ⟨_, rfl⟩
  obtain ⟨h', hh⟩ : ∃ h' : AH, h' = x := ⟨_, rfl⟩
  have hP : r = none ∧ h' = x := ⟨hr, hh⟩
  suffices hS : Ev Γ m_Plan_prepare 0 [some (vr 11 0 39), some (vr 3 0 o1), some (vr 8 0 o2), some (vi a3), none, none, none, none, none] [] h r h' by rw [hr, hh] at hS; exact hS
  clear hr hh
  unfold f_Plan_prepare at hx
  refine Ev.blk (pc' := 7) (lv' := [some (vr 11 0 39), some (vr 3 0 o1), some (vr 8 0 o2), some (vi a3), none, none, none, none, none]) (st' := [vi (ii 30), vi (h.1 o1 9), vr 11 0 39]) (h' := h) 0 4 (Nat.le_of_ble_eq_true rfl) tk_Plan_prepare rfl rfl ⟨trivial, trivial, trivial, trivial, trivial⟩ ?_
  refine Ev.mmin (rest := [vr 11 0 39]) 4 tk_Plan_prepare rfl lk_11_50 (by decide) (Nat.le_of_ble_eq_true rfl) ?_
  show Ev Γ m_Plan_prepare 10 [some (vr 11 0 39), some (vr 3 0 o1), some (vr 8 0 o2), some (vi a3), none, none, none, none, none] [vi (p_Math_min (h.1 o1 9) (ii 30)), vr 11 0 39] h r h'
  refine Ev.blk (pc' := 39) (lv' := [some (vr 11 0 39), some (vr 3 0 o1), some (vr 8 0 o2), some (vi a3), some (vi (ii 0)), none, none, none, none]) (st' := []) (h' := (wI (wI (wI (wI (wI h 39 3 (p_Math_min (h.1 o1 9) (ii 30))) 39 4 ((wI h 39 3 (p_Math_min (h.1 o1 9) (ii 30))).1 o2 6)) 39 6 a3) 39 5 (ii 0)) 39 7 (ii 0))) 5 16 (Nat.le_of_ble_eq_true rfl) tk_Plan_prepare rfl rfl ⟨trivial, trivial, trivial, trivial, trivial, trivial, trivial, trivial, trivial, trivial, trivial, trivial, trivial, (by decide), trivial, trivial, trivial⟩ ?_
  refine Ev.msk [true, true, true, false, true, false, false, false, false] ?_
  show Ev Γ m_Plan_prepare 39 [some (vr 11 0 39), some (vr 3 0 o1), some (vr 8 0 o2), none, some (vi (ii 0)), none, none, none, none] [] (wI (wI (wI (wI (wI h 39 3 (p_Math_min (h.1 o1 9) (ii 30))) 39 4 ((wI h 39 3 (p_Math_min (h.1 o1 9) (ii 30))).1 o2 6)) 39 6 a3) 39 5 (ii 0)) 39 7 (ii 0)) r h'
  exact l_Plan_prepare_L39 Γ FU o1 o2 (ii 0) (wI (wI (wI (wI (wI h 39 3 (p_Math_min (h.1 o1 9) (ii 30))) 39 4 ((wI h 39 3 (p_Math_min (h.1 o1 9) (ii 30))).1 o2 6)) 39 6 a3) 39 5 (ii 0)) 39 7 (ii 0)) _ hx r h' hP
theorem s_Plan_isBetter (Γ : AG) (a1 : Int32) (a2 : Int32) (a3 : Int32) (h : AH) : MetA Γ m_Plan_isBetter [vr 11 0 39, vi a1, vi a2, vi a3] h (some (vi (p_Plan_isBetter a1 a2 a3 h))) h := by
  refine Ev.met rfl rfl (Nat.le_of_ble_eq_true rfl) ?_
  generalize hx : p_Plan_isBetter a1 a2 a3 h = x
  show Ev Γ m_Plan_isBetter 0 [some (vr 11 0 39), some (vi a1), some (vi a2), some (vi a3)] [] h _ _
  obtain ⟨r, hr⟩ : ∃ r : Option AV, r = some (vi x) := ⟨_, rfl⟩
  obtain ⟨h', hh⟩ : ∃ h' : AH, h' = h := ⟨_, rfl⟩
  have hP : r = some (vi x) ∧ h' = h := ⟨hr, hh⟩
  suffices hS : Ev Γ m_Plan_isBetter 0 [some (vr 11 0 39), some (vi a1), some (vi a2), some (vi a3)] [] h r h' by rw [hr, hh] at hS; exact hS
  clear hr hh
  unfold p_Plan_isBetter at hx
  refine Ev.blk (pc' := 4) (lv' := [some (vr 11 0 39), some (vi a1), some (vi a2), some (vi a3)]) (st' := [vi (h.1 39 7)]) (h' := h) 0 2 (Nat.le_of_ble_eq_true rfl) tk_Plan_isBetter rfl rfl ⟨trivial, trivial, trivial⟩ ?_
  refine Ev.if_eq 2 15 tk_Plan_isBetter rfl (by decide) (fun hc1 => ?_) (fun hc1 => ?_)
  · replace hx := ip hc1 hx
    refine Ev.blk (pc' := 19) (lv' := [some (vr 11 0 39), some (vi a1), some (vi a2), some (vi a3)]) (st' := [vi (h.1 39 7)]) (h' := h) 7 2 (Nat.le_of_ble_eq_true rfl) tk_Plan_isBetter rfl rfl ⟨trivial, trivial, trivial⟩ ?_
    refine Ev.if_eq 9 30 tk_Plan_isBetter rfl (by decide) (fun hc2 => ?_) (fun hc2 => ?_)
    · replace hx := ip hc2 hx
      refine Ev.blk (pc' := 35) (lv' := [some (vr 11 0 39), some (vi a1), some (vi a2), some (vi a3)]) (st' := [vi (ii 1)]) (h' := h) 14 2 (Nat.le_of_ble_eq_true rfl) tk_Plan_isBetter rfl rfl ⟨trivial, trivial, trivial⟩ ?_
      subst hx
      obtain ⟨rfl, rfl⟩ := hP
      exact Ev.zret 17 tk_Plan_isBetter rfl rfl rfl
    · replace hx := ia hc2 hx
      refine Ev.blk (pc' := 27) (lv' := [some (vr 11 0 39), some (vi a1), some (vi a2), some (vi a3)]) (st' := [vi (h.1 39 9), vi a2]) (h' := h) 10 3 (Nat.le_of_ble_eq_true rfl) tk_Plan_isBetter rfl rfl ⟨trivial, trivial, trivial, trivial⟩ ?_
      refine Ev.icmp_ge 13 34 tk_Plan_isBetter rfl (by decide) (fun hc3 => ?_) (fun hc3 => ?_)
      · replace hx := ip hc3 hx
        refine Ev.blk (pc' := 35) (lv' := [some (vr 11 0 39), some (vi a1), some (vi a2), some (vi a3)]) (st' := [vi (ii 0)]) (h' := h) 16 1 (Nat.le_of_ble_eq_true rfl) tk_Plan_isBetter rfl rfl ⟨trivial, trivial⟩ ?_
        subst hx
        obtain ⟨rfl, rfl⟩ := hP
        exact Ev.zret 17 tk_Plan_isBetter rfl rfl rfl
      · replace hx := ia hc3 hx
        refine Ev.blk (pc' := 35) (lv' := [some (vr 11 0 39), some (vi a1), some (vi a2), some (vi a3)]) (st' := [vi (ii 1)]) (h' := h) 14 2 (Nat.le_of_ble_eq_true rfl) tk_Plan_isBetter rfl rfl ⟨trivial, trivial, trivial⟩ ?_
        subst hx
        obtain ⟨rfl, rfl⟩ := hP
        exact Ev.zret 17 tk_Plan_isBetter rfl rfl rfl
  · replace hx := ia hc1 hx
    refine Ev.blk (pc' := 12) (lv' := [some (vr 11 0 39), some (vi a1), some (vi a2), some (vi a3)]) (st' := [vi (h.1 39 9), vi a2]) (h' := h) 3 3 (Nat.le_of_ble_eq_true rfl) tk_Plan_isBetter rfl rfl ⟨trivial, trivial, trivial, trivial⟩ ?_
    refine Ev.icmp_eq 6 36 tk_Plan_isBetter rfl (by decide) (fun hc4 => ?_) (fun hc4 => ?_)
    · replace hx := ip hc4 hx
      refine Ev.blk (pc' := 41) (lv' := [some (vr 11 0 39), some (vi a1), some (vi a2), some (vi a3)]) (st' := [vi (h.1 39 10), vi a3]) (h' := h) 18 3 (Nat.le_of_ble_eq_true rfl) tk_Plan_isBetter rfl rfl ⟨trivial, trivial, trivial, trivial⟩ ?_
      refine Ev.icmp_eq 21 60 tk_Plan_isBetter rfl (by decide) (fun hc5 => ?_) (fun hc5 => ?_)
      · replace hx := ip hc5 hx
        refine Ev.blk (pc' := 65) (lv' := [some (vr 11 0 39), some (vi a1), some (vi a2), some (vi a3)]) (st' := [vi (h.1 39 8), vi a1]) (h' := h) 30 3 (Nat.le_of_ble_eq_true rfl) tk_Plan_isBetter rfl rfl ⟨trivial, trivial, trivial, trivial⟩ ?_
        refine Ev.icmp_ge 33 72 tk_Plan_isBetter rfl (by decide) (fun hc6 => ?_) (fun hc6 => ?_)
        · replace hx := ip hc6 hx
          refine Ev.blk (pc' := 73) (lv' := [some (vr 11 0 39), some (vi a1), some (vi a2), some (vi a3)]) (st' := [vi (ii 0)]) (h' := h) 36 1 (Nat.le_of_ble_eq_true rfl) tk_Plan_isBetter rfl rfl ⟨trivial, trivial⟩ ?_
          subst hx
          obtain ⟨rfl, rfl⟩ := hP
          exact Ev.zret 37 tk_Plan_isBetter rfl rfl rfl
        · replace hx := ia hc6 hx
          refine Ev.blk (pc' := 73) (lv' := [some (vr 11 0 39), some (vi a1), some (vi a2), some (vi a3)]) (st' := [vi (ii 1)]) (h' := h) 34 2 (Nat.le_of_ble_eq_true rfl) tk_Plan_isBetter rfl rfl ⟨trivial, trivial, trivial⟩ ?_
          subst hx
          obtain ⟨rfl, rfl⟩ := hP
          exact Ev.zret 37 tk_Plan_isBetter rfl rfl rfl
      · replace hx := ia hc5 hx
        refine Ev.blk (pc' := 49) (lv' := [some (vr 11 0 39), some (vi a1), some (vi a2), some (vi a3)]) (st' := [vi (h.1 39 10), vi a3]) (h' := h) 22 3 (Nat.le_of_ble_eq_true rfl) tk_Plan_isBetter rfl rfl ⟨trivial, trivial, trivial, trivial⟩ ?_
        refine Ev.icmp_ge 25 56 tk_Plan_isBetter rfl (by decide) (fun hc7 => ?_) (fun hc7 => ?_)
        · replace hx := ip hc7 hx
          refine Ev.blk (pc' := 73) (lv' := [some (vr 11 0 39), some (vi a1), some (vi a2), some (vi a3)]) (st' := [vi (ii 0)]) (h' := h) 28 2 (Nat.le_of_ble_eq_true rfl) tk_Plan_isBetter rfl rfl ⟨trivial, trivial, trivial⟩ ?_
          subst hx
          obtain ⟨rfl, rfl⟩ := hP
          exact Ev.zret 37 tk_Plan_isBetter rfl rfl rfl
        · replace hx := ia hc7 hx
          refine Ev.blk (pc' := 73) (lv' := [some (vr 11 0 39), some (vi a1), some (vi a2), some (vi a3)]) (st' := [vi (ii 1)]) (h' := h) 26 2 (Nat.le_of_ble_eq_true rfl) tk_Plan_isBetter rfl rfl ⟨trivial, trivial, trivial⟩ ?_
          subst hx
          obtain ⟨rfl, rfl⟩ := hP
          exact Ev.zret 37 tk_Plan_isBetter rfl rfl rfl
    · replace hx := ia hc4 hx
      refine Ev.blk (pc' := 19) (lv' := [some (vr 11 0 39), some (vi a1), some (vi a2), some (vi a3)]) (st' := [vi (h.1 39 7)]) (h' := h) 7 2 (Nat.le_of_ble_eq_true rfl) tk_Plan_isBetter rfl rfl ⟨trivial, trivial, trivial⟩ ?_
      refine Ev.if_eq 9 30 tk_Plan_isBetter rfl (by decide) (fun hc8 => ?_) (fun hc8 => ?_)
      · replace hx := ip hc8 hx
        refine Ev.blk (pc' := 35) (lv' := [some (vr 11 0 39), some (vi a1), some (vi a2), some (vi a3)]) (st' := [vi (ii 1)]) (h' := h) 14 2 (Nat.le_of_ble_eq_true rfl) tk_Plan_isBetter rfl rfl ⟨trivial, trivial, trivial⟩ ?_
        subst hx
        obtain ⟨rfl, rfl⟩ := hP
        exact Ev.zret 17 tk_Plan_isBetter rfl rfl rfl
      · replace hx := ia hc8 hx
        refine Ev.blk (pc' := 27) (lv' := [some (vr 11 0 39), some (vi a1), some (vi a2), some (vi a3)]) (st' := [vi (h.1 39 9), vi a2]) (h' := h) 10 3 (Nat.le_of_ble_eq_true rfl) tk_Plan_isBetter rfl rfl ⟨trivial, trivial, trivial, trivial⟩ ?_
        refine Ev.icmp_ge 13 34 tk_Plan_isBetter rfl (by decide) (fun hc9 => ?_) (fun hc9 => ?_)
        · replace hx := ip hc9 hx
          refine Ev.blk (pc' := 35) (lv' := [some (vr 11 0 39), some (vi a1), some (vi a2), some (vi a3)]) (st' := [vi (ii 0)]) (h' := h) 16 1 (Nat.le_of_ble_eq_true rfl) tk_Plan_isBetter rfl rfl ⟨trivial, trivial⟩ ?_
          subst hx
          obtain ⟨rfl, rfl⟩ := hP
          exact Ev.zret 17 tk_Plan_isBetter rfl rfl rfl
        · replace hx := ia hc9 hx
          refine Ev.blk (pc' := 35) (lv' := [some (vr 11 0 39), some (vi a1), some (vi a2), some (vi a3)]) (st' := [vi (ii 1)]) (h' := h) 14 2 (Nat.le_of_ble_eq_true rfl) tk_Plan_isBetter rfl rfl ⟨trivial, trivial, trivial⟩ ?_
          subst hx
          obtain ⟨rfl, rfl⟩ := hP
          exact Ev.zret 17 tk_Plan_isBetter rfl rfl rfl
set_option maxRecDepth 4000 in
theorem l_Plan_yieldOf_L4 (Γ : AG) : ∀ (n : Nat) (v1 : Int32) (v2 : Int32) (v3 : Int32) (h : AH) (x : Int32), Plan_yieldOf_L4 n v1 v2 v3 h = some x → ∀ (r : Option AV) (h' : AH), r = some (vi x) ∧ h' = h → Ev Γ m_Plan_yieldOf 4 [some (vr 11 0 39), some (vi v1), some (vi v2), some (vi v3)] [] h r h' := by
  intro n
  induction n with
  | zero => intro v1 v2 v3 h x hx; cases hx
  | succ n ih =>
    intro v1 v2 v3 h x hx r h' hP
    replace hx : Plan_yieldOf_L4_b (Plan_yieldOf_L4 n) v1 v2 v3 h = some x := hx
    unfold Plan_yieldOf_L4_b at hx
    refine Ev.blk (pc' := 9) (lv' := [some (vr 11 0 39), some (vi v1), some (vi v2), some (vi v3)]) (st' := [vi (h.1 39 3), vi v3]) (h' := h) 4 3 (Nat.le_of_ble_eq_true rfl) tk_Plan_yieldOf rfl rfl ⟨trivial, trivial, trivial, trivial⟩ ?_
    refine Ev.icmp_ge 7 57 tk_Plan_yieldOf rfl (by decide) (fun hc1 => ?_) (fun hc1 => ?_)
    · replace hx := ip hc1 hx
      refine Ev.blk (pc' := 58) (lv' := [some (vr 11 0 39), some (vi v1), some (vi v2), some (vi v3)]) (st' := [vi v2]) (h' := h) 34 1 (Nat.le_of_ble_eq_true rfl) tk_Plan_yieldOf rfl rfl ⟨trivial, trivial⟩ ?_
      obtain rfl := Option.some.inj hx
      obtain ⟨rfl, rfl⟩ := hP
      exact Ev.iret 35 tk_Plan_yieldOf rfl rfl
    · replace hx := ia hc1 hx
      refine Ev.blk (pc' := 15) (lv' := [some (vr 11 0 39), some (vi v1), some (vi v2), some (vi v3)]) (st' := [vi (ii 30), vi v3]) (h' := h) 8 2 (Nat.le_of_ble_eq_true rfl) tk_Plan_yieldOf rfl rfl ⟨trivial, trivial, trivial⟩ ?_
      refine Ev.icmp_ge 10 57 tk_Plan_yieldOf rfl (by decide) (fun hc2 => ?_) (fun hc2 => ?_)
      · replace hx := ip hc2 hx
        refine Ev.blk (pc' := 58) (lv' := [some (vr 11 0 39), some (vi v1), some (vi v2), some (vi v3)]) (st' := [vi v2]) (h' := h) 34 1 (Nat.le_of_ble_eq_true rfl) tk_Plan_yieldOf rfl rfl ⟨trivial, trivial⟩ ?_
        obtain rfl := Option.some.inj hx
        obtain ⟨rfl, rfl⟩ := hP
        exact Ev.iret 35 tk_Plan_yieldOf rfl rfl
      · replace hx := ia hc2 hx
        refine Ev.blk (pc' := 20) (lv' := [some (vr 11 0 39), some (vi v1), some (vi v2), some (vi v3)]) (st' := [vi v3, vi v1]) (h' := h) 11 2 (Nat.le_of_ble_eq_true rfl) tk_Plan_yieldOf rfl rfl ⟨trivial, trivial, trivial⟩ ?_
        refine Ev.callSN (ν := m_HF_holds) (av := [vi v1, vi v3]) (rest := []) (r1 := some (vi (p_HF_holds v1 v3))) (h1 := h) 13 2 tk_Plan_yieldOf rfl bb_HF_holds vv_HF_holds lk_11_62 (by decide) rfl rfl (Nat.le_of_ble_eq_true rfl) (s_HF_holds Γ v1 v3 h) ?_
        show Ev Γ m_Plan_yieldOf 23 [some (vr 11 0 39), some (vi v1), some (vi v2), some (vi v3)] [vi (p_HF_holds v1 v3)] h r h'
        obtain ⟨q1, hq3, hx⟩ := bd hx
        have K4 : Ev Γ m_Plan_yieldOf 51 [some (vr 11 0 39), some (vi v1), some (vi q1), some (vi v3)] [] h r h' := by
          refine Ev.blk (pc' := 4) (lv' := [some (vr 11 0 39), some (vi v1), some (vi q1), some (vi (v3 + ii 1))]) (st' := []) (h' := h) 32 2 (Nat.le_of_ble_eq_true rfl) tk_Plan_yieldOf rfl rfl ⟨trivial, trivial, trivial⟩ ?_
          exact Ev.msk [true, true, true, true] (ih v1 q1 (v3 + ii 1) h _ hx r h' hP)
        clear hx
        refine Ev.if_eq 14 51 tk_Plan_yieldOf rfl (by decide) (fun hc5 => ?_) (fun hc5 => ?_)
        · replace hq3 := ip hc5 hq3
          obtain rfl := Option.some.inj hq3
          exact Ev.msk [true, true, true, true] K4
        · replace hq3 := ia hc5 hq3
          obtain ⟨hg6, hq3⟩ := gd hq3
          obtain ⟨hg7, hq3⟩ := gd hq3
          refine Ev.blk (pc' := 42) (lv' := [some (vr 11 0 39), some (vi v1), some (vi v2), some (vi v3)]) (st' := [vi ((h.1 42 (v3).toNatClampNeg) &&& v1), vi (h.1 40 (v3).toNatClampNeg), vi (ii 0), vi v2]) (h' := h) 15 12 (Nat.le_of_ble_eq_true rfl) tk_Plan_yieldOf rfl rfl ⟨trivial, trivial, trivial, trivial, trivial, hg6, trivial, trivial, trivial, hg7, trivial, trivial, trivial⟩ ?_
          refine Ev.callS (ν := m_Int_bitCount) (av := [vi ((h.1 42 (v3).toNatClampNeg) &&& v1)]) (rest := [vi (h.1 40 (v3).toNatClampNeg), vi (ii 0), vi v2]) (r1 := some (vi (p_Int_bitCount ((h.1 42 (v3).toNatClampNeg) &&& v1)))) (h1 := h) 27 1 tk_Plan_yieldOf rfl bb_Int_bitCount vv_Int_bitCount lk_11_97 (by decide) rfl rfl (Nat.le_of_ble_eq_true rfl) (s_Int_bitCount Γ ((h.1 42 (v3).toNatClampNeg) &&& v1) h) ?_
          show Ev Γ m_Plan_yieldOf 45 [some (vr 11 0 39), some (vi v1), some (vi v2), some (vi v3)] [vi (p_Int_bitCount ((h.1 42 (v3).toNatClampNeg) &&& v1)), vi (h.1 40 (v3).toNatClampNeg), vi (ii 0), vi v2] h r h'
          refine Ev.blk (pc' := 46) (lv' := [some (vr 11 0 39), some (vi v1), some (vi v2), some (vi v3)]) (st' := [vi ((h.1 40 (v3).toNatClampNeg) - (p_Int_bitCount ((h.1 42 (v3).toNatClampNeg) &&& v1))), vi (ii 0), vi v2]) (h' := h) 28 1 (Nat.le_of_ble_eq_true rfl) tk_Plan_yieldOf rfl rfl ⟨trivial, trivial⟩ ?_
          refine Ev.mmax (rest := [vi v2]) 29 tk_Plan_yieldOf rfl lk_11_102 (by decide) (Nat.le_of_ble_eq_true rfl) ?_
          show Ev Γ m_Plan_yieldOf 49 [some (vr 11 0 39), some (vi v1), some (vi v2), some (vi v3)] [vi (p_Math_max (ii 0) ((h.1 40 (v3).toNatClampNeg) - (p_Int_bitCount ((h.1 42 (v3).toNatClampNeg) &&& v1)))), vi v2] h r h'
          refine Ev.blk (pc' := 51) (lv' := [some (vr 11 0 39), some (vi v1), some (vi (v2 + (p_Math_max (ii 0) ((h.1 40 (v3).toNatClampNeg) - (p_Int_bitCount ((h.1 42 (v3).toNatClampNeg) &&& v1)))))), some (vi v3)]) (st' := []) (h' := h) 30 2 (Nat.le_of_ble_eq_true rfl) tk_Plan_yieldOf rfl rfl ⟨trivial, trivial, trivial⟩ ?_
          obtain rfl := Option.some.inj hq3
          exact Ev.msk [true, true, true, true] K4
set_option maxRecDepth 4000 in
theorem s_Plan_yieldOf (Γ : AG) (a1 : Int32) (h : AH) (x : Int32) (hx : f_Plan_yieldOf a1 h = some x) : MetA Γ m_Plan_yieldOf [vr 11 0 39, vi a1] h (some (vi x)) h := by
  refine Ev.met rfl rfl (Nat.le_of_ble_eq_true rfl) ?_
  show Ev Γ m_Plan_yieldOf 0 [some (vr 11 0 39), some (vi a1), none, none] [] h _ _
  obtain ⟨r, hr⟩ : ∃ r : Option AV, r = some (vi x) := ⟨_, rfl⟩
  obtain ⟨h', hh⟩ : ∃ h' : AH, h' = h := ⟨_, rfl⟩
  have hP : r = some (vi x) ∧ h' = h := ⟨hr, hh⟩
  suffices hS : Ev Γ m_Plan_yieldOf 0 [some (vr 11 0 39), some (vi a1), none, none] [] h r h' by rw [hr, hh] at hS; exact hS
  clear hr hh
  unfold f_Plan_yieldOf at hx
  refine Ev.blk (pc' := 4) (lv' := [some (vr 11 0 39), some (vi a1), some (vi (ii 0)), some (vi (ii 0))]) (st' := []) (h' := h) 0 4 (Nat.le_of_ble_eq_true rfl) tk_Plan_yieldOf rfl rfl ⟨trivial, trivial, trivial, trivial, trivial⟩ ?_
  refine Ev.msk [true, true, true, true] ?_
  show Ev Γ m_Plan_yieldOf 4 [some (vr 11 0 39), some (vi a1), some (vi (ii 0)), some (vi (ii 0))] [] h r h'
  exact l_Plan_yieldOf_L4 Γ FU a1 (ii 0) (ii 0) h _ hx r h' hP
set_option maxRecDepth 4000 in
theorem s_Plan_consider (Γ : AG) (a1 : Int32) (a2 : Int32) (a3 : Int32) (h : AH) (x : AH) (hx : f_Plan_consider a1 a2 a3 h = some x) : MetA Γ m_Plan_consider [vr 11 0 39, vi a1, vi a2, vi a3] h (none) x := by
  refine Ev.met rfl rfl (Nat.le_of_ble_eq_true rfl) ?_
  show Ev Γ m_Plan_consider 0 [some (vr 11 0 39), some (vi a1), some (vi a2), some (vi a3)] [] h _ _
  obtain ⟨r, hr⟩ : ∃ r : Option AV, r = none := ⟨_, rfl⟩
  obtain ⟨h', hh⟩ : ∃ h' : AH, h' = x := ⟨_, rfl⟩
  have hP : r = none ∧ h' = x := ⟨hr, hh⟩
  suffices hS : Ev Γ m_Plan_consider 0 [some (vr 11 0 39), some (vi a1), some (vi a2), some (vi a3)] [] h r h' by rw [hr, hh] at hS; exact hS
  clear hr hh
  unfold f_Plan_consider at hx
  refine Ev.blk (pc' := 4) (lv' := [some (vr 11 0 39), some (vi a1), some (vi a2), some (vi a3)]) (st' := [vi a3, vi a2, vi a1, vr 11 0 39]) (h' := h) 0 4 (Nat.le_of_ble_eq_true rfl) tk_Plan_consider rfl rfl ⟨trivial, trivial, trivial, trivial, trivial⟩ ?_
  refine Ev.callV (ν := m_Plan_isBetter) (av := [vi a1, vi a2, vi a3]) (rest := []) (r1 := some (vi (p_Plan_isBetter a1 a2 a3 h))) (h1 := h) (ci := 11) (nn := 0) (o := 39) 4 3 tk_Plan_consider rfl bb_Plan_isBetter vv_Plan_isBetter lk_11_90 (by decide) rfl rfl (Or.inl rfl) (Nat.le_of_ble_eq_true rfl) (s_Plan_isBetter Γ a1 a2 a3 h) ?_
  show Ev Γ m_Plan_consider 7 [some (vr 11 0 39), some (vi a1), some (vi a2), some (vi a3)] [vi (p_Plan_isBetter a1 a2 a3 h)] h r h'
  refine Ev.if_eq 5 47 tk_Plan_consider rfl (by decide) (fun hc1 => ?_) (fun hc1 => ?_)
  · replace hx := ip hc1 hx
    obtain rfl := Option.some.inj hx
    obtain ⟨rfl, rfl⟩ := hP
    exact Ev.vret 27 tk_Plan_consider rfl rfl
  · replace hx := ia hc1 hx
    refine Ev.blk (pc' := 17) (lv' := [some (vr 11 0 39), some (vi a1), some (vi a2), some (vi a3)]) (st' := [vi ((h.1 39 4) ||| a1), vr 11 0 39]) (h' := h) 6 5 (Nat.le_of_ble_eq_true rfl) tk_Plan_consider rfl rfl ⟨trivial, trivial, trivial, trivial, trivial, trivial⟩ ?_
    obtain ⟨q1, hq2, hx⟩ := bd hx
    refine Ev.callV (ν := m_Plan_yieldOf) (av := [vi ((h.1 39 4) ||| a1)]) (rest := []) (r1 := some (vi q1)) (h1 := h) (ci := 11) (nn := 0) (o := 39) 11 1 tk_Plan_consider rfl bb_Plan_yieldOf vv_Plan_yieldOf lk_11_94 (by decide) rfl rfl (Or.inl rfl) (Nat.le_of_ble_eq_true rfl) (s_Plan_yieldOf Γ ((h.1 39 4) ||| a1) h _ hq2) ?_
    show Ev Γ m_Plan_consider 20 [some (vr 11 0 39), some (vi a1), some (vi a2), some (vi a3)] [vi q1] h r h'
    refine Ev.blk (pc' := 24) (lv' := [some (vr 11 0 39), some (vi a1), some (vi a2), some (vi a3)]) (st' := [vi (h.1 39 6), vi q1]) (h' := h) 12 2 (Nat.le_of_ble_eq_true rfl) tk_Plan_consider rfl rfl ⟨trivial, trivial, trivial⟩ ?_
    refine Ev.icmp_lt 14 47 tk_Plan_consider rfl (by decide) (fun hc3 => ?_) (fun hc3 => ?_)
    · replace hx := ip hc3 hx
      obtain rfl := Option.some.inj hx
      obtain ⟨rfl, rfl⟩ := hP
      exact Ev.vret 27 tk_Plan_consider rfl rfl
    · replace hx := ia hc3 hx
      refine Ev.blk (pc' := 47) (lv' := [some (vr 11 0 39), some (vi a1), some (vi a2), some (vi a3)]) (st' := []) (h' := (wI (wI (wI (wI h 39 7 (ii 1)) 39 8 a1) 39 9 a2) 39 10 a3)) 15 12 (Nat.le_of_ble_eq_true rfl) tk_Plan_consider rfl rfl ⟨trivial, trivial, (by decide), trivial, trivial, trivial, trivial, trivial, trivial, trivial, trivial, trivial, trivial⟩ ?_
      obtain rfl := Option.some.inj hx
      obtain ⟨rfl, rfl⟩ := hP
      exact Ev.vret 27 tk_Plan_consider rfl rfl
set_option maxRecDepth 4000 in
theorem l_Plan_searchBeyond_L70 (Γ : AG) : ∀ (n : Nat) (v1 : Int32) (v2 : Int32) (v3 : Int32) (v4 : Int32) (v5 : Int32) (h : AH) (x : AH), Plan_searchBeyond_L70 n v1 v2 v3 v4 v5 h = some x → ∀ (r : Option AV) (h' : AH), Ev Γ m_Plan_searchBeyond 126 [some (vr 11 0 39), some (vi v1), some (vi v2), none, none, none] [] x r h' → Ev Γ m_Plan_searchBeyond 70 [some (vr 11 0 39), some (vi v1), some (vi v2), some (vi v3), some (vi v4), some (vi v5)] [] h r h' := by
  intro n
  induction n with
  | zero => intro v1 v2 v3 v4 v5 h x hx; cases hx
  | succ n ih =>
    intro v1 v2 v3 v4 v5 h x hx r h' hP
    replace hx : Plan_searchBeyond_L70_b (Plan_searchBeyond_L70 n) v1 v2 v3 v4 v5 h = some x := hx
    unfold Plan_searchBeyond_L70_b at hx
    refine Ev.blk (pc' := 76) (lv' := [some (vr 11 0 39), some (vi v1), some (vi v2), some (vi v3), some (vi v4), some (vi v5)]) (st' := [vi (h.1 39 3), vi v5]) (h' := h) 42 3 (Nat.le_of_ble_eq_true rfl) tk_Plan_searchBeyond rfl rfl ⟨trivial, trivial, trivial, trivial⟩ ?_
    refine Ev.icmp_ge 45 126 tk_Plan_searchBeyond rfl (by decide) (fun hc1 => ?_) (fun hc1 => ?_)
    · replace hx := ip hc1 hx
      obtain rfl := Option.some.inj hx
      exact Ev.msk [true, true, true, false, false, false] hP
    · replace hx := ia hc1 hx
      refine Ev.blk (pc' := 83) (lv' := [some (vr 11 0 39), some (vi v1), some (vi v2), some (vi v3), some (vi v4), some (vi v5)]) (st' := [vi (ii 30), vi v5]) (h' := h) 46 2 (Nat.le_of_ble_eq_true rfl) tk_Plan_searchBeyond rfl rfl ⟨trivial, trivial, trivial⟩ ?_
      refine Ev.icmp_ge 48 126 tk_Plan_searchBeyond rfl (by decide) (fun hc2 => ?_) (fun hc2 => ?_)
      · replace hx := ip hc2 hx
        obtain rfl := Option.some.inj hx
        exact Ev.msk [true, true, true, false, false, false] hP
      · replace hx := ia hc2 hx
        refine Ev.blk (pc' := 92) (lv' := [some (vr 11 0 39), some (vi v1), some (vi v2), some (vi v3), some (vi v4), some (vi v5)]) (st' := [vi v5, vi (h.1 39 5)]) (h' := h) 49 3 (Nat.le_of_ble_eq_true rfl) tk_Plan_searchBeyond rfl rfl ⟨trivial, trivial, trivial, trivial⟩ ?_
        refine Ev.callSN (ν := m_HF_holds) (av := [vi (h.1 39 5), vi v5]) (rest := []) (r1 := some (vi (p_HF_holds (h.1 39 5) v5))) (h1 := h) 52 2 tk_Plan_searchBeyond rfl bb_HF_holds vv_HF_holds lk_11_62 (by decide) rfl rfl (Nat.le_of_ble_eq_true rfl) (s_HF_holds Γ (h.1 39 5) v5 h) ?_
        show Ev Γ m_Plan_searchBeyond 95 [some (vr 11 0 39), some (vi v1), some (vi v2), some (vi v3), some (vi v4), some (vi v5)] [vi (p_HF_holds (h.1 39 5) v5)] h r h'
        obtain ⟨q2, hq3, hx⟩ := bd hx
        have K4 : Ev Γ m_Plan_searchBeyond 120 [some (vr 11 0 39), some (vi v1), some (vi v2), some (vi v3), some (vi v4), some (vi v5)] [] q2 r h' := by
          refine Ev.blk (pc' := 70) (lv' := [some (vr 11 0 39), some (vi v1), some (vi v2), some (vi v3), some (vi v4), some (vi (v5 + ii 1))]) (st' := []) (h' := q2) 67 2 (Nat.le_of_ble_eq_true rfl) tk_Plan_searchBeyond rfl rfl ⟨trivial, trivial, trivial⟩ ?_
          exact Ev.msk [true, true, true, true, true, true] (ih v1 v2 v3 v4 (v5 + ii 1) q2 _ hx r h' hP)
        clear hx
        refine Ev.if_eq 53 120 tk_Plan_searchBeyond rfl (by decide) (fun hc5 => ?_) (fun hc5 => ?_)
        · replace hq3 := ip hc5 hq3
          obtain rfl := Option.some.inj hq3
          exact Ev.msk [true, true, true, true, true, true] K4
        · replace hq3 := ia hc5 hq3
          refine Ev.blk (pc' := 102) (lv' := [some (vr 11 0 39), some (vi v1), some (vi v2), some (vi v3), some (vi v4), some (vi v5)]) (st' := [vi v5, vi v3, vr 11 0 39]) (h' := h) 54 3 (Nat.le_of_ble_eq_true rfl) tk_Plan_searchBeyond rfl rfl ⟨trivial, trivial, trivial, trivial⟩ ?_
          refine Ev.callSN (ν := m_HF_bit) (av := [vi v5]) (rest := [vi v3, vr 11 0 39]) (r1 := some (vi (p_HF_bit v5))) (h1 := h) 57 1 tk_Plan_searchBeyond rfl bb_HF_bit vv_HF_bit lk_11_79 (by decide) rfl rfl (Nat.le_of_ble_eq_true rfl) (s_HF_bit Γ v5 h) ?_
          show Ev Γ m_Plan_searchBeyond 105 [some (vr 11 0 39), some (vi v1), some (vi v2), some (vi v3), some (vi v4), some (vi v5)] [vi (p_HF_bit v5), vi v3, vr 11 0 39] h r h'
          obtain ⟨hg6, hq3⟩ := gd hq3
          refine Ev.blk (pc' := 117) (lv' := [some (vr 11 0 39), some (vi v1), some (vi v2), some (vi v3), some (vi v4), some (vi v5)]) (st' := [vi (ii 3), vi (v4 + (h.1 41 (v5).toNatClampNeg)), vi (v3 ||| (p_HF_bit v5)), vr 11 0 39]) (h' := h) 58 8 (Nat.le_of_ble_eq_true rfl) tk_Plan_searchBeyond rfl rfl ⟨trivial, trivial, trivial, trivial, trivial, hg6, trivial, trivial, trivial⟩ ?_
          obtain ⟨q1, hq7, hq3⟩ := bd hq3
          refine Ev.callV (ν := m_Plan_consider) (av := [vi (v3 ||| (p_HF_bit v5)), vi (v4 + (h.1 41 (v5).toNatClampNeg)), vi (ii 3)]) (rest := []) (r1 := none) (h1 := q1) (ci := 11) (nn := 0) (o := 39) 66 3 tk_Plan_searchBeyond rfl bb_Plan_consider vv_Plan_consider lk_11_82 (by decide) rfl rfl (Or.inl rfl) (Nat.le_of_ble_eq_true rfl) (s_Plan_consider Γ (v3 ||| (p_HF_bit v5)) (v4 + (h.1 41 (v5).toNatClampNeg)) (ii 3) h _ hq7) ?_
          show Ev Γ m_Plan_searchBeyond 120 [some (vr 11 0 39), some (vi v1), some (vi v2), some (vi v3), some (vi v4), some (vi v5)] [] q1 r h'
          obtain rfl := Option.some.inj hq3
          exact Ev.msk [true, true, true, true, true, true] K4
set_option maxRecDepth 4000 in
theorem l_Plan_searchBeyond_L4 (Γ : AG) : ∀ (n : Nat) (v1 : Int32) (v2 : Int32) (h : AH) (x : AH), Plan_searchBeyond_L4 n v1 v2 h = some x → ∀ (r : Option AV) (h' : AH), r = none ∧ h' = x → Ev Γ m_Plan_searchBeyond 4 [some (vr 11 0 39), some (vi v1), some (vi v2), none, none, none] [] h r h' := by
  intro n
  induction n with
  | zero => intro v1 v2 h x hx; cases hx
  | succ n ih =>
    intro v1 v2 h x hx r h' hP
    replace hx : Plan_searchBeyond_L4_b (Plan_searchBeyond_L4 n) v1 v2 h = some x := hx
    unfold Plan_searchBeyond_L4_b at hx
    refine Ev.blk (pc' := 9) (lv' := [some (vr 11 0 39), some (vi v1), some (vi v2), none, none, none]) (st' := [vi (h.1 39 3), vi v2]) (h' := h) 4 3 (Nat.le_of_ble_eq_true rfl) tk_Plan_searchBeyond rfl rfl ⟨trivial, trivial, trivial, trivial⟩ ?_
    refine Ev.icmp_ge 7 132 tk_Plan_searchBeyond rfl (by decide) (fun hc1 => ?_) (fun hc1 => ?_)
    · replace hx := ip hc1 hx
      obtain rfl := Option.some.inj hx
      obtain ⟨rfl, rfl⟩ := hP
      exact Ev.vret 71 tk_Plan_searchBeyond rfl rfl
    · replace hx := ia hc1 hx
      refine Ev.blk (pc' := 15) (lv' := [some (vr 11 0 39), some (vi v1), some (vi v2), none, none, none]) (st' := [vi (ii 30), vi v2]) (h' := h) 8 2 (Nat.le_of_ble_eq_true rfl) tk_Plan_searchBeyond rfl rfl ⟨trivial, trivial, trivial⟩ ?_
      refine Ev.icmp_ge 10 132 tk_Plan_searchBeyond rfl (by decide) (fun hc2 => ?_) (fun hc2 => ?_)
      · replace hx := ip hc2 hx
        obtain rfl := Option.some.inj hx
        obtain ⟨rfl, rfl⟩ := hP
        exact Ev.vret 71 tk_Plan_searchBeyond rfl rfl
      · replace hx := ia hc2 hx
        refine Ev.blk (pc' := 23) (lv' := [some (vr 11 0 39), some (vi v1), some (vi v2), none, none, none]) (st' := [vi v2, vi (h.1 39 5)]) (h' := h) 11 3 (Nat.le_of_ble_eq_true rfl) tk_Plan_searchBeyond rfl rfl ⟨trivial, trivial, trivial, trivial⟩ ?_
        refine Ev.callSN (ν := m_HF_holds) (av := [vi (h.1 39 5), vi v2]) (rest := []) (r1 := some (vi (p_HF_holds (h.1 39 5) v2))) (h1 := h) 14 2 tk_Plan_searchBeyond rfl bb_HF_holds vv_HF_holds lk_11_62 (by decide) rfl rfl (Nat.le_of_ble_eq_true rfl) (s_HF_holds Γ (h.1 39 5) v2 h) ?_
        show Ev Γ m_Plan_searchBeyond 26 [some (vr 11 0 39), some (vi v1), some (vi v2), none, none, none] [vi (p_HF_holds (h.1 39 5) v2)] h r h'
        obtain ⟨q3, hq3, hx⟩ := bd hx
        have K4 : Ev Γ m_Plan_searchBeyond 126 [some (vr 11 0 39), some (vi v1), some (vi v2), none, none, none] [] q3 r h' := by
          refine Ev.blk (pc' := 4) (lv' := [some (vr 11 0 39), some (vi v1), some (vi (v2 + ii 1)), none, none, none]) (st' := []) (h' := q3) 69 2 (Nat.le_of_ble_eq_true rfl) tk_Plan_searchBeyond rfl rfl ⟨trivial, trivial, trivial⟩ ?_
          exact Ev.msk [true, true, true, false, false, false] (ih v1 (v2 + ii 1) q3 _ hx r h' hP)
        clear hx
        refine Ev.if_ne 15 32 tk_Plan_searchBeyond rfl (by decide) (fun hc5 => ?_) (fun hc5 => ?_)
        · replace hq3 := ia hc5 hq3
          refine Ev.blk (pc' := 33) (lv' := [some (vr 11 0 39), some (vi v1), some (vi v2), none, none, none]) (st' := [vi v1]) (h' := h) 17 1 (Nat.le_of_ble_eq_true rfl) tk_Plan_searchBeyond rfl rfl ⟨trivial, trivial⟩ ?_
          refine Ev.callSN (ν := m_HF_bit) (av := [vi v1]) (rest := []) (r1 := some (vi (p_HF_bit v1))) (h1 := h) 18 1 tk_Plan_searchBeyond rfl bb_HF_bit vv_HF_bit lk_11_79 (by decide) rfl rfl (Nat.le_of_ble_eq_true rfl) (s_HF_bit Γ v1 h) ?_
          show Ev Γ m_Plan_searchBeyond 36 [some (vr 11 0 39), some (vi v1), some (vi v2), none, none, none] [vi (p_HF_bit v1)] h r h'
          refine Ev.blk (pc' := 37) (lv' := [some (vr 11 0 39), some (vi v1), some (vi v2), none, none, none]) (st' := [vi v2, vi (p_HF_bit v1)]) (h' := h) 19 1 (Nat.le_of_ble_eq_true rfl) tk_Plan_searchBeyond rfl rfl ⟨trivial, trivial⟩ ?_
          refine Ev.callSN (ν := m_HF_bit) (av := [vi v2]) (rest := [vi (p_HF_bit v1)]) (r1 := some (vi (p_HF_bit v2))) (h1 := h) 20 1 tk_Plan_searchBeyond rfl bb_HF_bit vv_HF_bit lk_11_79 (by decide) rfl rfl (Nat.le_of_ble_eq_true rfl) (s_HF_bit Γ v2 h) ?_
          show Ev Γ m_Plan_searchBeyond 40 [some (vr 11 0 39), some (vi v1), some (vi v2), none, none, none] [vi (p_HF_bit v2), vi (p_HF_bit v1)] h r h'
          obtain ⟨hg6, hq3⟩ := gd hq3
          obtain ⟨hg7, hq3⟩ := gd hq3
          refine Ev.blk (pc' := 62) (lv' := [some (vr 11 0 39), some (vi v1), some (vi v2), some (vi ((p_HF_bit v1) ||| (p_HF_bit v2))), some (vi ((h.1 41 (v1).toNatClampNeg) + (h.1 41 (v2).toNatClampNeg))), none]) (st' := [vi (ii 2), vi ((h.1 41 (v1).toNatClampNeg) + (h.1 41 (v2).toNatClampNeg)), vi ((p_HF_bit v1) ||| (p_HF_bit v2)), vr 11 0 39]) (h' := h) 21 16 (Nat.le_of_ble_eq_true rfl) tk_Plan_searchBeyond rfl rfl ⟨trivial, trivial, trivial, trivial, trivial, hg6, trivial, trivial, trivial, hg7, trivial, trivial, trivial, trivial, trivial, trivial, trivial⟩ ?_
          obtain ⟨q1, hq8, hq3⟩ := bd hq3
          refine Ev.callV (ν := m_Plan_consider) (av := [vi ((p_HF_bit v1) ||| (p_HF_bit v2)), vi ((h.1 41 (v1).toNatClampNeg) + (h.1 41 (v2).toNatClampNeg)), vi (ii 2)]) (rest := []) (r1 := none) (h1 := q1) (ci := 11) (nn := 0) (o := 39) 37 3 tk_Plan_searchBeyond rfl bb_Plan_consider vv_Plan_consider lk_11_82 (by decide) rfl rfl (Or.inl rfl) (Nat.le_of_ble_eq_true rfl) (s_Plan_consider Γ ((p_HF_bit v1) ||| (p_HF_bit v2)) ((h.1 41 (v1).toNatClampNeg) + (h.1 41 (v2).toNatClampNeg)) (ii 2) h _ hq8) ?_
          show Ev Γ m_Plan_searchBeyond 65 [some (vr 11 0 39), some (vi v1), some (vi v2), some (vi ((p_HF_bit v1) ||| (p_HF_bit v2))), some (vi ((h.1 41 (v1).toNatClampNeg) + (h.1 41 (v2).toNatClampNeg))), none] [] q1 r h'
          refine Ev.blk (pc' := 70) (lv' := [some (vr 11 0 39), some (vi v1), some (vi v2), some (vi ((p_HF_bit v1) ||| (p_HF_bit v2))), some (vi ((h.1 41 (v1).toNatClampNeg) + (h.1 41 (v2).toNatClampNeg))), some (vi (v2 + (ii 1)))]) (st' := []) (h' := q1) 38 4 (Nat.le_of_ble_eq_true rfl) tk_Plan_searchBeyond rfl rfl ⟨trivial, trivial, trivial, trivial, trivial⟩ ?_
          obtain ⟨q2, hq9, hq3⟩ := bd hq3
          refine Ev.msk [true, true, true, true, true, true] ?_
          show Ev Γ m_Plan_searchBeyond 70 [some (vr 11 0 39), some (vi v1), some (vi v2), some (vi ((p_HF_bit v1) ||| (p_HF_bit v2))), some (vi ((h.1 41 (v1).toNatClampNeg) + (h.1 41 (v2).toNatClampNeg))), some (vi (v2 + (ii 1)))] [] q1 r h'
          refine l_Plan_searchBeyond_L70 Γ FU v1 v2 ((p_HF_bit v1) ||| (p_HF_bit v2)) ((h.1 41 (v1).toNatClampNeg) + (h.1 41 (v2).toNatClampNeg)) (v2 + (ii 1)) q1 _ hq9 r h' ?_
          show Ev Γ m_Plan_searchBeyond 126 [some (vr 11 0 39), some (vi v1), some (vi v2), none, none, none] [] q2 r h'
          obtain rfl := Option.some.inj hq3
          exact Ev.msk [true, true, true, false, false, false] K4
        · replace hq3 := ip hc5 hq3
          refine Ev.blk (pc' := 126) (lv' := [some (vr 11 0 39), some (vi v1), some (vi v2), none, none, none]) (st' := []) (h' := h) 16 1 (Nat.le_of_ble_eq_true rfl) tk_Plan_searchBeyond rfl rfl ⟨trivial, trivial⟩ ?_
          obtain rfl := Option.some.inj hq3
          exact Ev.msk [true, true, true, false, false, false] K4
set_option maxRecDepth 4000 in
theorem s_Plan_searchBeyond (Γ : AG) (a1 : Int32) (h : AH) (x : AH) (hx : f_Plan_searchBeyond a1 h = some x) : MetA Γ m_Plan_searchBeyond [vr 11 0 39, vi a1] h (none) x := by
  refine Ev.met rfl rfl (Nat.le_of_ble_eq_true rfl) ?_
  show Ev Γ m_Plan_searchBeyond 0 [some (vr 11 0 39), some (vi a1), none, none, none, none] [] h _ _
  obtain ⟨r, hr⟩ : ∃ r : Option AV, r = none := ⟨_, rfl⟩
  obtain ⟨h', hh⟩ : ∃ h' : AH, h' = x := ⟨_, rfl⟩
  have hP : r = none ∧ h' = x := ⟨hr, hh⟩
  suffices hS : Ev Γ m_Plan_searchBeyond 0 [some (vr 11 0 39), some (vi a1), none, none, none, none] [] h r h' by rw [hr, hh] at hS; exact hS
  clear hr hh
  unfold f_Plan_searchBeyond at hx
  refine Ev.blk (pc' := 4) (lv' := [some (vr 11 0 39), some (vi a1), some (vi (a1 + (ii 1))), none, none, none]) (st' := []) (h' := h) 0 4 (Nat.le_of_ble_eq_true rfl) tk_Plan_searchBeyond rfl rfl ⟨trivial, trivial, trivial, trivial, trivial⟩ ?_
  refine Ev.msk [true, true, true, false, false, false] ?_
  show Ev Γ m_Plan_searchBeyond 4 [some (vr 11 0 39), some (vi a1), some (vi (a1 + (ii 1))), none, none, none] [] h r h'
  exact l_Plan_searchBeyond_L4 Γ FU a1 (a1 + (ii 1)) h _ hx r h' hP
set_option maxRecDepth 4000 in
theorem l_Plan_search_L9 (Γ : AG) : ∀ (n : Nat) (v1 : Int32) (h : AH) (x : AH), Plan_search_L9 n v1 h = some x → ∀ (r : Option AV) (h' : AH), r = none ∧ h' = x → Ev Γ m_Plan_search 9 [some (vr 11 0 39), some (vi v1)] [] h r h' := by
  intro n
  induction n with
  | zero => intro v1 h x hx; cases hx
  | succ n ih =>
    intro v1 h x hx r h' hP
    replace hx : Plan_search_L9_b (Plan_search_L9 n) v1 h = some x := hx
    unfold Plan_search_L9_b at hx
    refine Ev.blk (pc' := 14) (lv' := [some (vr 11 0 39), some (vi v1)]) (st' := [vi (h.1 39 3), vi v1]) (h' := h) 7 3 (Nat.le_of_ble_eq_true rfl) tk_Plan_search rfl rfl ⟨trivial, trivial, trivial, trivial⟩ ?_
    refine Ev.icmp_ge 10 60 tk_Plan_search rfl (by decide) (fun hc1 => ?_) (fun hc1 => ?_)
    · replace hx := ip hc1 hx
      obtain rfl := Option.some.inj hx
      obtain ⟨rfl, rfl⟩ := hP
      exact Ev.vret 33 tk_Plan_search rfl rfl
    · replace hx := ia hc1 hx
      refine Ev.blk (pc' := 20) (lv' := [some (vr 11 0 39), some (vi v1)]) (st' := [vi (ii 30), vi v1]) (h' := h) 11 2 (Nat.le_of_ble_eq_true rfl) tk_Plan_search rfl rfl ⟨trivial, trivial, trivial⟩ ?_
      refine Ev.icmp_ge 13 60 tk_Plan_search rfl (by decide) (fun hc2 => ?_) (fun hc2 => ?_)
      · replace hx := ip hc2 hx
        obtain rfl := Option.some.inj hx
        obtain ⟨rfl, rfl⟩ := hP
        exact Ev.vret 33 tk_Plan_search rfl rfl
      · replace hx := ia hc2 hx
        refine Ev.blk (pc' := 28) (lv' := [some (vr 11 0 39), some (vi v1)]) (st' := [vi v1, vi (h.1 39 5)]) (h' := h) 14 3 (Nat.le_of_ble_eq_true rfl) tk_Plan_search rfl rfl ⟨trivial, trivial, trivial, trivial⟩ ?_
        refine Ev.callSN (ν := m_HF_holds) (av := [vi (h.1 39 5), vi v1]) (rest := []) (r1 := some (vi (p_HF_holds (h.1 39 5) v1))) (h1 := h) 17 2 tk_Plan_search rfl bb_HF_holds vv_HF_holds lk_11_62 (by decide) rfl rfl (Nat.le_of_ble_eq_true rfl) (s_HF_holds Γ (h.1 39 5) v1 h) ?_
        show Ev Γ m_Plan_search 31 [some (vr 11 0 39), some (vi v1)] [vi (p_HF_holds (h.1 39 5) v1)] h r h'
        obtain ⟨q3, hq3, hx⟩ := bd hx
        have K4 : Ev Γ m_Plan_search 54 [some (vr 11 0 39), some (vi v1)] [] q3 r h' := by
          refine Ev.blk (pc' := 9) (lv' := [some (vr 11 0 39), some (vi (v1 + ii 1))]) (st' := []) (h' := q3) 31 2 (Nat.le_of_ble_eq_true rfl) tk_Plan_search rfl rfl ⟨trivial, trivial, trivial⟩ ?_
          exact Ev.msk [true, true] (ih (v1 + ii 1) q3 _ hx r h' hP)
        clear hx
        refine Ev.if_eq 18 54 tk_Plan_search rfl (by decide) (fun hc5 => ?_) (fun hc5 => ?_)
        · replace hq3 := ip hc5 hq3
          obtain rfl := Option.some.inj hq3
          exact Ev.msk [true, true] K4
        · replace hq3 := ia hc5 hq3
          refine Ev.blk (pc' := 36) (lv' := [some (vr 11 0 39), some (vi v1)]) (st' := [vi v1, vr 11 0 39]) (h' := h) 19 2 (Nat.le_of_ble_eq_true rfl) tk_Plan_search rfl rfl ⟨trivial, trivial, trivial⟩ ?_
          refine Ev.callSN (ν := m_HF_bit) (av := [vi v1]) (rest := [vr 11 0 39]) (r1 := some (vi (p_HF_bit v1))) (h1 := h) 21 1 tk_Plan_search rfl bb_HF_bit vv_HF_bit lk_11_79 (by decide) rfl rfl (Nat.le_of_ble_eq_true rfl) (s_HF_bit Γ v1 h) ?_
          show Ev Γ m_Plan_search 39 [some (vr 11 0 39), some (vi v1)] [vi (p_HF_bit v1), vr 11 0 39] h r h'
          obtain ⟨hg6, hq3⟩ := gd hq3
          refine Ev.blk (pc' := 46) (lv' := [some (vr 11 0 39), some (vi v1)]) (st' := [vi (ii 1), vi (h.1 41 (v1).toNatClampNeg), vi (p_HF_bit v1), vr 11 0 39]) (h' := h) 22 5 (Nat.le_of_ble_eq_true rfl) tk_Plan_search rfl rfl ⟨trivial, trivial, trivial, hg6, trivial, trivial⟩ ?_
          obtain ⟨q1, hq7, hq3⟩ := bd hq3
          refine Ev.callV (ν := m_Plan_consider) (av := [vi (p_HF_bit v1), vi (h.1 41 (v1).toNatClampNeg), vi (ii 1)]) (rest := []) (r1 := none) (h1 := q1) (ci := 11) (nn := 0) (o := 39) 27 3 tk_Plan_search rfl bb_Plan_consider vv_Plan_consider lk_11_82 (by decide) rfl rfl (Or.inl rfl) (Nat.le_of_ble_eq_true rfl) (s_Plan_consider Γ (p_HF_bit v1) (h.1 41 (v1).toNatClampNeg) (ii 1) h _ hq7) ?_
          show Ev Γ m_Plan_search 49 [some (vr 11 0 39), some (vi v1)] [] q1 r h'
          refine Ev.blk (pc' := 51) (lv' := [some (vr 11 0 39), some (vi v1)]) (st' := [vi v1, vr 11 0 39]) (h' := q1) 28 2 (Nat.le_of_ble_eq_true rfl) tk_Plan_search rfl rfl ⟨trivial, trivial, trivial⟩ ?_
          obtain ⟨q2, hq8, hq3⟩ := bd hq3
          refine Ev.callV (ν := m_Plan_searchBeyond) (av := [vi v1]) (rest := []) (r1 := none) (h1 := q2) (ci := 11) (nn := 0) (o := 39) 30 1 tk_Plan_search rfl bb_Plan_searchBeyond vv_Plan_searchBeyond lk_11_86 (by decide) rfl rfl (Or.inl rfl) (Nat.le_of_ble_eq_true rfl) (s_Plan_searchBeyond Γ v1 q1 _ hq8) ?_
          show Ev Γ m_Plan_search 54 [some (vr 11 0 39), some (vi v1)] [] q2 r h'
          obtain rfl := Option.some.inj hq3
          exact Ev.msk [true, true] K4
set_option maxRecDepth 4000 in
theorem s_Plan_search (Γ : AG) (h : AH) (x : AH) (hx : f_Plan_search  h = some x) : MetA Γ m_Plan_search [vr 11 0 39] h (none) x := by
  refine Ev.met rfl rfl (Nat.le_of_ble_eq_true rfl) ?_
  show Ev Γ m_Plan_search 0 [some (vr 11 0 39), none] [] h _ _
  obtain ⟨r, hr⟩ : ∃ r : Option AV, r = none := ⟨_, rfl⟩
  obtain ⟨h', hh⟩ : ∃ h' : AH, h' = x := ⟨_, rfl⟩
  have hP : r = none ∧ h' = x := ⟨hr, hh⟩
  suffices hS : Ev Γ m_Plan_search 0 [some (vr 11 0 39), none] [] h r h' by rw [hr, hh] at hS; exact hS
  clear hr hh
  unfold f_Plan_search at hx
  refine Ev.blk (pc' := 4) (lv' := [some (vr 11 0 39), none]) (st' := [vi (ii 0), vi (ii 0), vi (ii 0), vr 11 0 39]) (h' := h) 0 4 (Nat.le_of_ble_eq_true rfl) tk_Plan_search rfl rfl ⟨trivial, trivial, trivial, trivial, trivial⟩ ?_
  obtain ⟨q1, hq1, hx⟩ := bd hx
  refine Ev.callV (ν := m_Plan_consider) (av := [vi (ii 0), vi (ii 0), vi (ii 0)]) (rest := []) (r1 := none) (h1 := q1) (ci := 11) (nn := 0) (o := 39) 4 3 tk_Plan_search rfl bb_Plan_consider vv_Plan_consider lk_11_82 (by decide) rfl rfl (Or.inl rfl) (Nat.le_of_ble_eq_true rfl) (s_Plan_consider Γ (ii 0) (ii 0) (ii 0) h _ hq1) ?_
  show Ev Γ m_Plan_search 7 [some (vr 11 0 39), none] [] q1 r h'
  refine Ev.blk (pc' := 9) (lv' := [some (vr 11 0 39), some (vi (ii 0))]) (st' := []) (h' := q1) 5 2 (Nat.le_of_ble_eq_true rfl) tk_Plan_search rfl rfl ⟨trivial, trivial, trivial⟩ ?_
  refine Ev.msk [true, true] ?_
  show Ev Γ m_Plan_search 9 [some (vr 11 0 39), some (vi (ii 0))] [] q1 r h'
  exact l_Plan_search_L9 Γ FU (ii 0) q1 _ hx r h' hP
set_option maxRecDepth 4000 in
theorem s_HF_cheapest (Γ : AG) (a1 : Int32) (a2 : Int32) (h : AH) (x : Int32 × AH) (hx : f_HF_cheapest a1 a2 h = some x) : MetA Γ m_HF_cheapest [vr 0 0 0, vi a1, vi a2] h (some (vi x.1)) x.2 := by
  refine Ev.met rfl rfl (Nat.le_of_ble_eq_true rfl) ?_
  show Ev Γ m_HF_cheapest 0 [some (vr 0 0 0), some (vi a1), some (vi a2)] [] h _ _
  obtain ⟨r, hr⟩ : ∃ r : Option AV, r = some (vi x.1) := ⟨_, rfl⟩
  obtain ⟨h', hh⟩ : ∃ h' : AH, h' = x.2 := ⟨_, rfl⟩
  have hP : r = some (vi x.1) ∧ h' = x.2 := ⟨hr, hh⟩
  suffices hS : Ev Γ m_HF_cheapest 0 [some (vr 0 0 0), some (vi a1), some (vi a2)] [] h r h' by rw [hr, hh] at hS; exact hS
  clear hr hh
  unfold f_HF_cheapest at hx
  refine Ev.blk (pc' := 1) (lv' := [some (vr 0 0 0), some (vi a1), some (vi a2)]) (st' := [vr 0 0 0]) (h' := h) 0 1 (Nat.le_of_ble_eq_true rfl) tk_HF_cheapest rfl rfl ⟨trivial, trivial⟩ ?_
  refine Ev.callV (ν := m_HF_hasHeath) (av := []) (rest := []) (r1 := some (vi (p_HF_hasHeath h))) (h1 := h) (ci := 0) (nn := 0) (o := 0) 1 0 tk_HF_cheapest rfl bb_HF_hasHeath vv_HF_hasHeath lk_0_137 (by decide) rfl rfl (Or.inl rfl) (Nat.le_of_ble_eq_true rfl) (s_HF_hasHeath Γ h) ?_
  show Ev Γ m_HF_cheapest 4 [some (vr 0 0 0), some (vi a1), some (vi a2)] [vi (p_HF_hasHeath h)] h r h'
  refine Ev.if_eq 2 27 tk_HF_cheapest rfl (by decide) (fun hc1 => ?_) (fun hc1 => ?_)
  · replace hx := ip hc1 hx
    refine Ev.blk (pc' := 28) (lv' := [some (vr 0 0 0), some (vi a1), some (vi a2)]) (st' := [vi (ii (-1))]) (h' := h) 14 1 (Nat.le_of_ble_eq_true rfl) tk_HF_cheapest rfl rfl ⟨trivial, trivial⟩ ?_
    obtain rfl := Option.some.inj hx
    obtain ⟨rfl, rfl⟩ := hP
    exact Ev.iret 15 tk_HF_cheapest rfl rfl
  · replace hx := ia hc1 hx
    refine Ev.blk (pc' := 9) (lv' := [some (vr 0 0 0), some (vi a1), some (vi a2)]) (st' := [vi (ii 1), vi a1]) (h' := h) 3 2 (Nat.le_of_ble_eq_true rfl) tk_HF_cheapest rfl rfl ⟨trivial, trivial, trivial⟩ ?_
    refine Ev.icmp_lt 5 27 tk_HF_cheapest rfl (by decide) (fun hc2 => ?_) (fun hc2 => ?_)
    · replace hx := ip hc2 hx
      refine Ev.blk (pc' := 28) (lv' := [some (vr 0 0 0), some (vi a1), some (vi a2)]) (st' := [vi (ii (-1))]) (h' := h) 14 1 (Nat.le_of_ble_eq_true rfl) tk_HF_cheapest rfl rfl ⟨trivial, trivial⟩ ?_
      obtain rfl := Option.some.inj hx
      obtain ⟨rfl, rfl⟩ := hP
      exact Ev.iret 15 tk_HF_cheapest rfl rfl
    · replace hx := ia hc2 hx
      refine Ev.blk (pc' := 15) (lv' := [some (vr 0 0 0), some (vi a1), some (vi a2)]) (st' := [vi (ii 40), vi a1]) (h' := h) 6 2 (Nat.le_of_ble_eq_true rfl) tk_HF_cheapest rfl rfl ⟨trivial, trivial, trivial⟩ ?_
      refine Ev.icmp_gt 8 27 tk_HF_cheapest rfl (by decide) (fun hc3 => ?_) (fun hc3 => ?_)
      · replace hx := ip hc3 hx
        refine Ev.blk (pc' := 28) (lv' := [some (vr 0 0 0), some (vi a1), some (vi a2)]) (st' := [vi (ii (-1))]) (h' := h) 14 1 (Nat.le_of_ble_eq_true rfl) tk_HF_cheapest rfl rfl ⟨trivial, trivial⟩ ?_
        obtain rfl := Option.some.inj hx
        obtain ⟨rfl, rfl⟩ := hP
        exact Ev.iret 15 tk_HF_cheapest rfl rfl
      · replace hx := ia hc3 hx
        refine Ev.blk (pc' := 19) (lv' := [some (vr 0 0 0), some (vi a1), some (vi a2)]) (st' := [vi a2]) (h' := h) 9 1 (Nat.le_of_ble_eq_true rfl) tk_HF_cheapest rfl rfl ⟨trivial, trivial⟩ ?_
        refine Ev.if_lt 10 27 tk_HF_cheapest rfl (by decide) (fun hc4 => ?_) (fun hc4 => ?_)
        · replace hx := ip hc4 hx
          refine Ev.blk (pc' := 28) (lv' := [some (vr 0 0 0), some (vi a1), some (vi a2)]) (st' := [vi (ii (-1))]) (h' := h) 14 1 (Nat.le_of_ble_eq_true rfl) tk_HF_cheapest rfl rfl ⟨trivial, trivial⟩ ?_
          obtain rfl := Option.some.inj hx
          obtain ⟨rfl, rfl⟩ := hP
          exact Ev.iret 15 tk_HF_cheapest rfl rfl
        · replace hx := ia hc4 hx
          refine Ev.blk (pc' := 24) (lv' := [some (vr 0 0 0), some (vi a1), some (vi a2)]) (st' := [vi (ii 1), vi a2]) (h' := h) 11 2 (Nat.le_of_ble_eq_true rfl) tk_HF_cheapest rfl rfl ⟨trivial, trivial, trivial⟩ ?_
          refine Ev.icmp_le 13 29 tk_HF_cheapest rfl (by decide) (fun hc5 => ?_) (fun hc5 => ?_)
          · replace hx := ip hc5 hx
            refine Ev.blk (pc' := 42) (lv' := [some (vr 0 0 0), some (vi a1), some (vi a2)]) (st' := [vi a1, vr 8 0 13, vr 3 0 (h.2.2 0 13), vr 11 0 39]) (h' := h) 16 7 (Nat.le_of_ble_eq_true rfl) tk_HF_cheapest rfl rfl ⟨trivial, trivial, trivial, trivial, trivial, trivial, trivial, trivial⟩ ?_
            obtain ⟨q1, hq6, hx⟩ := bd hx
            refine Ev.callV (ν := m_Plan_prepare) (av := [vr 3 0 (h.2.2 0 13), vr 8 0 13, vi a1]) (rest := []) (r1 := none) (h1 := q1) (ci := 11) (nn := 0) (o := 39) 23 3 tk_HF_cheapest rfl bb_Plan_prepare vv_Plan_prepare lk_0_308 (by decide) rfl rfl (Or.inl rfl) (Nat.le_of_ble_eq_true rfl) (s_Plan_prepare Γ (h.2.2 0 13) 13 a1 h _ hq6) ?_
            show Ev Γ m_HF_cheapest 45 [some (vr 0 0 0), some (vi a1), some (vi a2)] [] q1 r h'
            refine Ev.blk (pc' := 49) (lv' := [some (vr 0 0 0), some (vi a1), some (vi a2)]) (st' := [vr 11 0 39]) (h' := q1) 24 2 (Nat.le_of_ble_eq_true rfl) tk_HF_cheapest rfl rfl ⟨trivial, trivial, trivial⟩ ?_
            obtain ⟨q2, hq7, hx⟩ := bd hx
            refine Ev.callV (ν := m_Plan_search) (av := []) (rest := []) (r1 := none) (h1 := q2) (ci := 11) (nn := 0) (o := 39) 26 0 tk_HF_cheapest rfl bb_Plan_search vv_Plan_search lk_0_312 (by decide) rfl rfl (Or.inl rfl) (Nat.le_of_ble_eq_true rfl) (s_Plan_search Γ q1 _ hq7) ?_
            show Ev Γ m_HF_cheapest 52 [some (vr 0 0 0), some (vi a1), some (vi a2)] [] q2 r h'
            refine Ev.blk (pc' := 59) (lv' := [some (vr 0 0 0), some (vi a1), some (vi a2)]) (st' := [vi (q2.1 39 7)]) (h' := q2) 27 3 (Nat.le_of_ble_eq_true rfl) tk_HF_cheapest rfl rfl ⟨trivial, trivial, trivial, trivial⟩ ?_
            refine Ev.if_ne 30 64 tk_HF_cheapest rfl (by decide) (fun hc8 => ?_) (fun hc8 => ?_)
            · replace hx := ia hc8 hx
              refine Ev.blk (pc' := 65) (lv' := [some (vr 0 0 0), some (vi a1), some (vi a2)]) (st' := [vi a2]) (h' := q2) 33 1 (Nat.le_of_ble_eq_true rfl) tk_HF_cheapest rfl rfl ⟨trivial, trivial⟩ ?_
              refine Ev.if_ne 34 78 tk_HF_cheapest rfl (by decide) (fun hc9 => ?_) (fun hc9 => ?_)
              · replace hx := ia hc9 hx
                refine Ev.blk (pc' := 85) (lv' := [some (vr 0 0 0), some (vi a1), some (vi a2)]) (st' := [vi (q2.1 39 9)]) (h' := q2) 39 3 (Nat.le_of_ble_eq_true rfl) tk_HF_cheapest rfl rfl ⟨trivial, trivial, trivial, trivial⟩ ?_
                obtain rfl := Option.some.inj hx
                obtain ⟨rfl, rfl⟩ := hP
                exact Ev.iret 42 tk_HF_cheapest rfl rfl
              · replace hx := ip hc9 hx
                refine Ev.blk (pc' := 85) (lv' := [some (vr 0 0 0), some (vi a1), some (vi a2)]) (st' := [vi (q2.1 39 8)]) (h' := q2) 35 4 (Nat.le_of_ble_eq_true rfl) tk_HF_cheapest rfl rfl ⟨trivial, trivial, trivial, trivial, trivial⟩ ?_
                obtain rfl := Option.some.inj hx
                obtain ⟨rfl, rfl⟩ := hP
                exact Ev.iret 42 tk_HF_cheapest rfl rfl
            · replace hx := ip hc8 hx
              refine Ev.blk (pc' := 63) (lv' := [some (vr 0 0 0), some (vi a1), some (vi a2)]) (st' := [vi (ii (-1))]) (h' := q2) 31 1 (Nat.le_of_ble_eq_true rfl) tk_HF_cheapest rfl rfl ⟨trivial, trivial⟩ ?_
              obtain rfl := Option.some.inj hx
              obtain ⟨rfl, rfl⟩ := hP
              exact Ev.iret 32 tk_HF_cheapest rfl rfl
          · replace hx := ia hc5 hx
            refine Ev.blk (pc' := 28) (lv' := [some (vr 0 0 0), some (vi a1), some (vi a2)]) (st' := [vi (ii (-1))]) (h' := h) 14 1 (Nat.le_of_ble_eq_true rfl) tk_HF_cheapest rfl rfl ⟨trivial, trivial⟩ ?_
            obtain rfl := Option.some.inj hx
            obtain ⟨rfl, rfl⟩ := hP
            exact Ev.iret 15 tk_HF_cheapest rfl rfl
theorem s_Heath_allCells (Γ : AG) (o0 : Nat) (h : AH) : MetA Γ m_Heath_allCells [vr 3 0 o0] h (some (vi (p_Heath_allCells o0 h))) h := by
  refine Ev.met rfl rfl (Nat.le_of_ble_eq_true rfl) ?_
  generalize hx : p_Heath_allCells o0 h = x
  show Ev Γ m_Heath_allCells 0 [some (vr 3 0 o0)] [] h _ _
  obtain ⟨r, hr⟩ : ∃ r : Option AV, r = some (vi x) := ⟨_, rfl⟩
  obtain ⟨h', hh⟩ : ∃ h' : AH, h' = h := ⟨_, rfl⟩
  have hP : r = some (vi x) ∧ h' = h := ⟨hr, hh⟩
  suffices hS : Ev Γ m_Heath_allCells 0 [some (vr 3 0 o0)] [] h r h' by rw [hr, hh] at hS; exact hS
  clear hr hh
  unfold p_Heath_allCells at hx
  refine Ev.blk (pc' := 4) (lv' := [some (vr 3 0 o0)]) (st' := [vi (h.1 o0 9)]) (h' := h) 0 2 (Nat.le_of_ble_eq_true rfl) tk_Heath_allCells rfl rfl ⟨trivial, trivial, trivial⟩ ?_
  refine Ev.callSN (ν := m_HF_bit) (av := [vi (h.1 o0 9)]) (rest := []) (r1 := some (vi (p_HF_bit (h.1 o0 9)))) (h1 := h) 2 1 tk_Heath_allCells rfl bb_HF_bit vv_HF_bit lk_3_68 (by decide) rfl rfl (Nat.le_of_ble_eq_true rfl) (s_HF_bit Γ (h.1 o0 9) h) ?_
  show Ev Γ m_Heath_allCells 7 [some (vr 3 0 o0)] [vi (p_HF_bit (h.1 o0 9))] h r h'
  refine Ev.blk (pc' := 9) (lv' := [some (vr 3 0 o0)]) (st' := [vi ((p_HF_bit (h.1 o0 9)) - (ii 1))]) (h' := h) 3 2 (Nat.le_of_ble_eq_true rfl) tk_Heath_allCells rfl rfl ⟨trivial, trivial, trivial⟩ ?_
  subst hx
  obtain ⟨rfl, rfl⟩ := hP
  exact Ev.iret 5 tk_Heath_allCells rfl rfl
set_option maxRecDepth 4000 in
theorem s_HF_freeOf (Γ : AG) (a1 : Int32) (h : AH) (x : Int32) (hx : f_HF_freeOf a1 h = some x) : MetA Γ m_HF_freeOf [vr 0 0 0, vi a1] h (some (vi x)) h := by
  refine Ev.met rfl rfl (Nat.le_of_ble_eq_true rfl) ?_
  show Ev Γ m_HF_freeOf 0 [some (vr 0 0 0), some (vi a1)] [] h _ _
  obtain ⟨r, hr⟩ : ∃ r : Option AV, r = some (vi x) := ⟨_, rfl⟩
  obtain ⟨h', hh⟩ : ∃ h' : AH, h' = h := ⟨_, rfl⟩
  have hP : r = some (vi x) ∧ h' = h := ⟨hr, hh⟩
  suffices hS : Ev Γ m_HF_freeOf 0 [some (vr 0 0 0), some (vi a1)] [] h r h' by rw [hr, hh] at hS; exact hS
  clear hr hh
  unfold f_HF_freeOf at hx
  refine Ev.blk (pc' := 4) (lv' := [some (vr 0 0 0), some (vi a1)]) (st' := [vr 3 0 (h.2.2 0 13)]) (h' := h) 0 2 (Nat.le_of_ble_eq_true rfl) tk_HF_freeOf rfl rfl ⟨trivial, trivial, trivial⟩ ?_
  refine Ev.callV (ν := m_Heath_allCells) (av := []) (rest := []) (r1 := some (vi (p_Heath_allCells (h.2.2 0 13) h))) (h1 := h) (ci := 3) (nn := 0) (o := (h.2.2 0 13)) 2 0 tk_HF_freeOf rfl bb_Heath_allCells vv_Heath_allCells lk_0_429 (by decide) rfl rfl (Or.inl rfl) (Nat.le_of_ble_eq_true rfl) (s_Heath_allCells Γ (h.2.2 0 13) h) ?_
  show Ev Γ m_HF_freeOf 7 [some (vr 0 0 0), some (vi a1)] [vi (p_Heath_allCells (h.2.2 0 13) h)] h r h'
  refine Ev.blk (pc' := 14) (lv' := [some (vr 0 0 0), some (vi a1)]) (st' := [vi ((ii 1) - a1), vr 8 0 13, vi (p_Heath_allCells (h.2.2 0 13) h)]) (h' := h) 3 5 (Nat.le_of_ble_eq_true rfl) tk_HF_freeOf rfl rfl ⟨trivial, trivial, trivial, trivial, trivial, trivial⟩ ?_
  obtain ⟨q1, hq1, hx⟩ := bd hx
  refine Ev.callV (ν := m_Moor_trailOf) (av := [vi ((ii 1) - a1)]) (rest := [vi (p_Heath_allCells (h.2.2 0 13) h)]) (r1 := some (vi q1)) (h1 := h) (ci := 8) (nn := 0) (o := 13) 8 1 tk_HF_freeOf rfl bb_Moor_trailOf vv_Moor_trailOf lk_0_336 (by decide) rfl rfl (Or.inl rfl) (Nat.le_of_ble_eq_true rfl) (s_Moor_trailOf Γ 13 ((ii 1) - a1) h _ hq1) ?_
  show Ev Γ m_HF_freeOf 17 [some (vr 0 0 0), some (vi a1)] [vi q1, vi (p_Heath_allCells (h.2.2 0 13) h)] h r h'
  refine Ev.blk (pc' := 20) (lv' := [some (vr 0 0 0), some (vi a1)]) (st' := [vi ((p_Heath_allCells (h.2.2 0 13) h) &&& (q1 ^^^ (ii (-1))))]) (h' := h) 9 3 (Nat.le_of_ble_eq_true rfl) tk_HF_freeOf rfl rfl ⟨trivial, trivial, trivial, trivial⟩ ?_
  obtain rfl := Option.some.inj hx
  obtain ⟨rfl, rfl⟩ := hP
  exact Ev.iret 12 tk_HF_freeOf rfl rfl
set_option maxRecDepth 4000 in
theorem l_Heath_besideAll_L4 (Γ : AG) : ∀ (n : Nat) (o0 : Nat) (v1 : Int32) (v2 : Int32) (v3 : Int32) (h : AH) (x : Int32), Heath_besideAll_L4 n o0 v1 v2 v3 h = some x → ∀ (r : Option AV) (h' : AH), r = some (vi x) ∧ h' = h → Ev Γ m_Heath_besideAll 4 [some (vr 3 0 o0), some (vi v1), some (vi v2), some (vi v3)] [] h r h' := by
  intro n
  induction n with
  | zero => intro o0 v1 v2 v3 h x hx; cases hx
  | succ n ih =>
    intro o0 v1 v2 v3 h x hx r h' hP
    replace hx : Heath_besideAll_L4_b (Heath_besideAll_L4 n) o0 v1 v2 v3 h = some x := hx
    unfold Heath_besideAll_L4_b at hx
    refine Ev.blk (pc' := 9) (lv' := [some (vr 3 0 o0), some (vi v1), some (vi v2), some (vi v3)]) (st' := [vi (h.1 o0 9), vi v3]) (h' := h) 4 3 (Nat.le_of_ble_eq_true rfl) tk_Heath_besideAll rfl rfl ⟨trivial, trivial, trivial, trivial⟩ ?_
    refine Ev.icmp_ge 7 34 tk_Heath_besideAll rfl (by decide) (fun hc1 => ?_) (fun hc1 => ?_)
    · replace hx := ip hc1 hx
      refine Ev.blk (pc' := 35) (lv' := [some (vr 3 0 o0), some (vi v1), some (vi v2), some (vi v3)]) (st' := [vi v2]) (h' := h) 20 1 (Nat.le_of_ble_eq_true rfl) tk_Heath_besideAll rfl rfl ⟨trivial, trivial⟩ ?_
      obtain rfl := Option.some.inj hx
      obtain ⟨rfl, rfl⟩ := hP
      exact Ev.iret 21 tk_Heath_besideAll rfl rfl
    · replace hx := ia hc1 hx
      refine Ev.blk (pc' := 14) (lv' := [some (vr 3 0 o0), some (vi v1), some (vi v2), some (vi v3)]) (st' := [vi v3, vi v1]) (h' := h) 8 2 (Nat.le_of_ble_eq_true rfl) tk_Heath_besideAll rfl rfl ⟨trivial, trivial, trivial⟩ ?_
      refine Ev.callSN (ν := m_HF_holds) (av := [vi v1, vi v3]) (rest := []) (r1 := some (vi (p_HF_holds v1 v3))) (h1 := h) 10 2 tk_Heath_besideAll rfl bb_HF_holds vv_HF_holds lk_3_81 (by decide) rfl rfl (Nat.le_of_ble_eq_true rfl) (s_HF_holds Γ v1 v3 h) ?_
      show Ev Γ m_Heath_besideAll 17 [some (vr 3 0 o0), some (vi v1), some (vi v2), some (vi v3)] [vi (p_HF_holds v1 v3)] h r h'
      obtain ⟨q2, hq2, hx⟩ := bd hx
      have K3 : Ev Γ m_Heath_besideAll 28 [some (vr 3 0 o0), some (vi v1), some (vi q2), some (vi v3)] [] h r h' := by
        refine Ev.blk (pc' := 4) (lv' := [some (vr 3 0 o0), some (vi v1), some (vi q2), some (vi (v3 + ii 1))]) (st' := []) (h' := h) 18 2 (Nat.le_of_ble_eq_true rfl) tk_Heath_besideAll rfl rfl ⟨trivial, trivial, trivial⟩ ?_
        exact Ev.msk [true, true, true, true] (ih o0 v1 q2 (v3 + ii 1) h _ hx r h' hP)
      clear hx
      refine Ev.if_eq 11 28 tk_Heath_besideAll rfl (by decide) (fun hc4 => ?_) (fun hc4 => ?_)
      · replace hq2 := ip hc4 hq2
        obtain rfl := Option.some.inj hq2
        exact Ev.msk [true, true, true, true] K3
      · replace hq2 := ia hc4 hq2
        refine Ev.blk (pc' := 23) (lv' := [some (vr 3 0 o0), some (vi v1), some (vi v2), some (vi v3)]) (st' := [vi v3, vr 3 0 o0, vi v2]) (h' := h) 12 3 (Nat.le_of_ble_eq_true rfl) tk_Heath_besideAll rfl rfl ⟨trivial, trivial, trivial, trivial⟩ ?_
        obtain ⟨q1, hq5, hq2⟩ := bd hq2
        refine Ev.callV (ν := m_Heath_besideOf) (av := [vi v3]) (rest := [vi v2]) (r1 := some (vi q1)) (h1 := h) (ci := 3) (nn := 0) (o := o0) 15 1 tk_Heath_besideAll rfl bb_Heath_besideOf vv_Heath_besideOf lk_3_85 (by decide) rfl rfl (Or.inl rfl) (Nat.le_of_ble_eq_true rfl) (s_Heath_besideOf Γ o0 v3 h _ hq5) ?_
        show Ev Γ m_Heath_besideAll 26 [some (vr 3 0 o0), some (vi v1), some (vi v2), some (vi v3)] [vi q1, vi v2] h r h'
        refine Ev.blk (pc' := 28) (lv' := [some (vr 3 0 o0), some (vi v1), some (vi (v2 ||| q1)), some (vi v3)]) (st' := []) (h' := h) 16 2 (Nat.le_of_ble_eq_true rfl) tk_Heath_besideAll rfl rfl ⟨trivial, trivial, trivial⟩ ?_
        obtain rfl := Option.some.inj hq2
        exact Ev.msk [true, true, true, true] K3
set_option maxRecDepth 4000 in
theorem s_Heath_besideAll (Γ : AG) (o0 : Nat) (a1 : Int32) (h : AH) (x : Int32) (hx : f_Heath_besideAll o0 a1 h = some x) : MetA Γ m_Heath_besideAll [vr 3 0 o0, vi a1] h (some (vi x)) h := by
  refine Ev.met rfl rfl (Nat.le_of_ble_eq_true rfl) ?_
  show Ev Γ m_Heath_besideAll 0 [some (vr 3 0 o0), some (vi a1), none, none] [] h _ _
  obtain ⟨r, hr⟩ : ∃ r : Option AV, r = some (vi x) := ⟨_, rfl⟩
  obtain ⟨h', hh⟩ : ∃ h' : AH, h' = h := ⟨_, rfl⟩
  have hP : r = some (vi x) ∧ h' = h := ⟨hr, hh⟩
  suffices hS : Ev Γ m_Heath_besideAll 0 [some (vr 3 0 o0), some (vi a1), none, none] [] h r h' by rw [hr, hh] at hS; exact hS
  clear hr hh
  unfold f_Heath_besideAll at hx
  refine Ev.blk (pc' := 4) (lv' := [some (vr 3 0 o0), some (vi a1), some (vi (ii 0)), some (vi (ii 0))]) (st' := []) (h' := h) 0 4 (Nat.le_of_ble_eq_true rfl) tk_Heath_besideAll rfl rfl ⟨trivial, trivial, trivial, trivial, trivial⟩ ?_
  refine Ev.msk [true, true, true, true] ?_
  show Ev Γ m_Heath_besideAll 4 [some (vr 3 0 o0), some (vi a1), some (vi (ii 0)), some (vi (ii 0))] [] h r h'
  exact l_Heath_besideAll_L4 Γ FU o0 a1 (ii 0) (ii 0) h _ hx r h' hP
set_option maxRecDepth 4000 in
theorem l_HF_reach_L53 (Γ : AG) : ∀ (n : Nat) (v2 : Int32) (v3 : Int32) (v4 : Int32) (v5 : Int32) (h : AH) (x : Int32), HF_reach_L53 n v2 v3 v4 v5 h = some x → ∀ (r : Option AV) (h' : AH), r = some (vi x) ∧ h' = h → Ev Γ m_HF_reach 53 [some (vr 0 0 0), none, some (vi v2), some (vi v3), some (vi v4), some (vi v5)] [] h r h' := by
  intro n
  induction n with
  | zero => intro v2 v3 v4 v5 h x hx; cases hx
  | succ n ih =>
    intro v2 v3 v4 v5 h x hx r h' hP
    replace hx : HF_reach_L53_b (HF_reach_L53 n) v2 v3 v4 v5 h = some x := hx
    unfold HF_reach_L53_b at hx
    refine Ev.blk (pc' := 56) (lv' := [some (vr 0 0 0), none, some (vi v2), some (vi v3), some (vi v4), some (vi v5)]) (st' := [vi v2, vi v5]) (h' := h) 28 2 (Nat.le_of_ble_eq_true rfl) tk_HF_reach rfl rfl ⟨trivial, trivial, trivial⟩ ?_
    refine Ev.icmp_ge 30 81 tk_HF_reach rfl (by decide) (fun hc1 => ?_) (fun hc1 => ?_)
    · replace hx := ip hc1 hx
      refine Ev.blk (pc' := 83) (lv' := [some (vr 0 0 0), none, some (vi v2), some (vi v3), some (vi v4), some (vi v5)]) (st' := [vi v4]) (h' := h) 42 1 (Nat.le_of_ble_eq_true rfl) tk_HF_reach rfl rfl ⟨trivial, trivial⟩ ?_
      obtain rfl := Option.some.inj hx
      obtain ⟨rfl, rfl⟩ := hP
      exact Ev.iret 43 tk_HF_reach rfl rfl
    · replace hx := ia hc1 hx
      refine Ev.blk (pc' := 67) (lv' := [some (vr 0 0 0), none, some (vi v2), some (vi v3), some (vi v4), some (vi v5)]) (st' := [vi v4, vr 3 0 (h.2.2 0 13), vi v4]) (h' := h) 31 4 (Nat.le_of_ble_eq_true rfl) tk_HF_reach rfl rfl ⟨trivial, trivial, trivial, trivial, trivial⟩ ?_
      obtain ⟨q1, hq2, hx⟩ := bd hx
      refine Ev.callV (ν := m_Heath_besideAll) (av := [vi v4]) (rest := [vi v4]) (r1 := some (vi q1)) (h1 := h) (ci := 3) (nn := 0) (o := (h.2.2 0 13)) 35 1 tk_HF_reach rfl bb_Heath_besideAll vv_Heath_besideAll lk_0_330 (by decide) rfl rfl (Or.inl rfl) (Nat.le_of_ble_eq_true rfl) (s_Heath_besideAll Γ (h.2.2 0 13) v4 h _ hq2) ?_
      show Ev Γ m_HF_reach 70 [some (vr 0 0 0), none, some (vi v2), some (vi v3), some (vi v4), some (vi v5)] [vi q1, vi v4] h r h'
      refine Ev.blk (pc' := 53) (lv' := [some (vr 0 0 0), none, some (vi v2), some (vi v3), some (vi (v4 ||| (q1 &&& v3))), some (vi (v5 + ii 1))]) (st' := []) (h' := h) 36 6 (Nat.le_of_ble_eq_true rfl) tk_HF_reach rfl rfl ⟨trivial, trivial, trivial, trivial, trivial, trivial, trivial⟩ ?_
      exact Ev.msk [true, false, true, true, true, true] (ih v2 v3 (v4 ||| (q1 &&& v3)) (v5 + ii 1) h _ hx r h' hP)
set_option maxRecDepth 4000 in
theorem s_HF_reach (Γ : AG) (a1 : Int32) (a2 : Int32) (h : AH) (x : Int32) (hx : f_HF_reach a1 a2 h = some x) : MetA Γ m_HF_reach [vr 0 0 0, vi a1, vi a2] h (some (vi x)) h := by
  refine Ev.met rfl rfl (Nat.le_of_ble_eq_true rfl) ?_
  show Ev Γ m_HF_reach 0 [some (vr 0 0 0), some (vi a1), some (vi a2), none, none, none] [] h _ _
  obtain ⟨r, hr⟩ : ∃ r : Option AV, r = some (vi x) := ⟨_, rfl⟩
  obtain ⟨h', hh⟩ : ∃ h' : AH, h' = h := ⟨_, rfl⟩
  have hP : r = some (vi x) ∧ h' = h := ⟨hr, hh⟩
  suffices hS : Ev Γ m_HF_reach 0 [some (vr 0 0 0), some (vi a1), some (vi a2), none, none, none] [] h r h' by rw [hr, hh] at hS; exact hS
  clear hr hh
  unfold f_HF_reach at hx
  refine Ev.blk (pc' := 5) (lv' := [some (vr 0 0 0), some (vi a1), some (vi a2), none, none, none]) (st' := [vi a1, vr 3 0 (h.2.2 0 13)]) (h' := h) 0 3 (Nat.le_of_ble_eq_true rfl) tk_HF_reach rfl rfl ⟨trivial, trivial, trivial, trivial⟩ ?_
  refine Ev.callV (ν := m_Heath_isFork) (av := [vi a1]) (rest := []) (r1 := some (vi (p_Heath_isFork (h.2.2 0 13) a1 h))) (h1 := h) (ci := 3) (nn := 0) (o := (h.2.2 0 13)) 3 1 tk_HF_reach rfl bb_Heath_isFork vv_Heath_isFork lk_0_180 (by decide) rfl rfl (Or.inl rfl) (Nat.le_of_ble_eq_true rfl) (s_Heath_isFork Γ (h.2.2 0 13) a1 h) ?_
  show Ev Γ m_HF_reach 8 [some (vr 0 0 0), some (vi a1), some (vi a2), none, none, none] [vi (p_Heath_isFork (h.2.2 0 13) a1 h)] h r h'
  refine Ev.if_eq 4 21 tk_HF_reach rfl (by decide) (fun hc1 => ?_) (fun hc1 => ?_)
  · replace hx := ip hc1 hx
    refine Ev.blk (pc' := 22) (lv' := [some (vr 0 0 0), some (vi a1), some (vi a2), none, none, none]) (st' := [vi (ii (-1))]) (h' := h) 10 1 (Nat.le_of_ble_eq_true rfl) tk_HF_reach rfl rfl ⟨trivial, trivial⟩ ?_
    obtain rfl := Option.some.inj hx
    obtain ⟨rfl, rfl⟩ := hP
    exact Ev.iret 11 tk_HF_reach rfl rfl
  · replace hx := ia hc1 hx
    refine Ev.blk (pc' := 12) (lv' := [some (vr 0 0 0), some (vi a1), some (vi a2), none, none, none]) (st' := [vi a2]) (h' := h) 5 1 (Nat.le_of_ble_eq_true rfl) tk_HF_reach rfl rfl ⟨trivial, trivial⟩ ?_
    refine Ev.if_lt 6 21 tk_HF_reach rfl (by decide) (fun hc2 => ?_) (fun hc2 => ?_)
    · replace hx := ip hc2 hx
      refine Ev.blk (pc' := 22) (lv' := [some (vr 0 0 0), some (vi a1), some (vi a2), none, none, none]) (st' := [vi (ii (-1))]) (h' := h) 10 1 (Nat.le_of_ble_eq_true rfl) tk_HF_reach rfl rfl ⟨trivial, trivial⟩ ?_
      obtain rfl := Option.some.inj hx
      obtain ⟨rfl, rfl⟩ := hP
      exact Ev.iret 11 tk_HF_reach rfl rfl
    · replace hx := ia hc2 hx
      refine Ev.blk (pc' := 18) (lv' := [some (vr 0 0 0), some (vi a1), some (vi a2), none, none, none]) (st' := [vi (ii 9), vi a2]) (h' := h) 7 2 (Nat.le_of_ble_eq_true rfl) tk_HF_reach rfl rfl ⟨trivial, trivial, trivial⟩ ?_
      refine Ev.icmp_le 9 23 tk_HF_reach rfl (by decide) (fun hc3 => ?_) (fun hc3 => ?_)
      · replace hx := ip hc3 hx
        refine Ev.blk (pc' := 30) (lv' := [some (vr 0 0 0), some (vi a1), some (vi a2), none, none, none]) (st' := [vi (ii 5), vi a1, vr 3 0 (h.2.2 0 13), vr 0 0 0]) (h' := h) 12 5 (Nat.le_of_ble_eq_true rfl) tk_HF_reach rfl rfl ⟨trivial, trivial, trivial, trivial, trivial, trivial⟩ ?_
        obtain ⟨q1, hq4, hx⟩ := bd hx
        refine Ev.callV (ν := m_Heath_trait) (av := [vi a1, vi (ii 5)]) (rest := [vr 0 0 0]) (r1 := some (vi q1)) (h1 := h) (ci := 3) (nn := 0) (o := (h.2.2 0 13)) 17 2 tk_HF_reach rfl bb_Heath_trait vv_Heath_trait lk_0_196 (by decide) rfl rfl (Or.inl rfl) (Nat.le_of_ble_eq_true rfl) (s_Heath_trait Γ (h.2.2 0 13) a1 (ii 5) h _ hq4) ?_
        show Ev Γ m_HF_reach 33 [some (vr 0 0 0), some (vi a1), some (vi a2), none, none, none] [vi q1, vr 0 0 0] h r h'
        obtain ⟨q2, hq5, hx⟩ := bd hx
        refine Ev.callV (ν := m_HF_freeOf) (av := [vi q1]) (rest := []) (r1 := some (vi q2)) (h1 := h) (ci := 0) (nn := 0) (o := 0) 18 1 tk_HF_reach rfl bb_HF_freeOf vv_HF_freeOf lk_0_324 (by decide) rfl rfl (Or.inl rfl) (Nat.le_of_ble_eq_true rfl) (s_HF_freeOf Γ q1 h _ hq5) ?_
        show Ev Γ m_HF_reach 36 [some (vr 0 0 0), some (vi a1), some (vi a2), none, none, none] [vi q2] h r h'
        refine Ev.blk (pc' := 42) (lv' := [some (vr 0 0 0), some (vi a1), some (vi a2), some (vi q2), none, none]) (st' := [vi a1, vr 8 0 13]) (h' := h) 19 4 (Nat.le_of_ble_eq_true rfl) tk_HF_reach rfl rfl ⟨trivial, trivial, trivial, trivial, trivial⟩ ?_
        obtain ⟨q3, hq6, hx⟩ := bd hx
        refine Ev.callV (ν := m_Moor_placeOf) (av := [vi a1]) (rest := []) (r1 := some (vi q3)) (h1 := h) (ci := 8) (nn := 0) (o := 13) 23 1 tk_HF_reach rfl bb_Moor_placeOf vv_Moor_placeOf lk_0_190 (by decide) rfl rfl (Or.inl rfl) (Nat.le_of_ble_eq_true rfl) (s_Moor_placeOf Γ 13 a1 h _ hq6) ?_
        show Ev Γ m_HF_reach 45 [some (vr 0 0 0), some (vi a1), some (vi a2), some (vi q2), none, none] [vi q3] h r h'
        refine Ev.callS (ν := m_HF_bit) (av := [vi q3]) (rest := []) (r1 := some (vi (p_HF_bit q3))) (h1 := h) 24 1 tk_HF_reach rfl bb_HF_bit vv_HF_bit lk_0_327 (by decide) rfl rfl (Nat.le_of_ble_eq_true rfl) (s_HF_bit Γ q3 h) ?_
        show Ev Γ m_HF_reach 48 [some (vr 0 0 0), some (vi a1), some (vi a2), some (vi q2), none, none] [vi (p_HF_bit q3)] h r h'
        refine Ev.blk (pc' := 53) (lv' := [some (vr 0 0 0), some (vi a1), some (vi a2), some (vi q2), some (vi (p_HF_bit q3)), some (vi (ii 0))]) (st' := []) (h' := h) 25 3 (Nat.le_of_ble_eq_true rfl) tk_HF_reach rfl rfl ⟨trivial, trivial, trivial, trivial⟩ ?_
        refine Ev.msk [true, false, true, true, true, true] ?_
        show Ev Γ m_HF_reach 53 [some (vr 0 0 0), none, some (vi a2), some (vi q2), some (vi (p_HF_bit q3)), some (vi (ii 0))] [] h r h'
        exact l_HF_reach_L53 Γ FU a2 q2 (p_HF_bit q3) (ii 0) h _ hx r h' hP
      · replace hx := ia hc3 hx
        refine Ev.blk (pc' := 22) (lv' := [some (vr 0 0 0), some (vi a1), some (vi a2), none, none, none]) (st' := [vi (ii (-1))]) (h' := h) 10 1 (Nat.le_of_ble_eq_true rfl) tk_HF_reach rfl rfl ⟨trivial, trivial⟩ ?_
        obtain rfl := Option.some.inj hx
        obtain ⟨rfl, rfl⟩ := hP
        exact Ev.iret 11 tk_HF_reach rfl rfl
set_option maxRecDepth 4000 in
theorem l_HF_stuck_L13 (Γ : AG) : ∀ (n : Nat) (v1 : Int32) (v2 : Int32) (h : AH) (x : Int32), HF_stuck_L13 n v1 v2 h = some x → ∀ (r : Option AV) (h' : AH), r = some (vi x) ∧ h' = h → Ev Γ m_HF_stuck 13 [some (vr 0 0 0), some (vi v1), some (vi v2), none] [] h r h' := by
  intro n
  induction n with
  | zero => intro v1 v2 h x hx; cases hx
  | succ n ih =>
    intro v1 v2 h x hx r h' hP
    replace hx : HF_stuck_L13_b (HF_stuck_L13 n) v1 v2 h = some x := hx
    unfold HF_stuck_L13_b at hx
    refine Ev.blk (pc' := 21) (lv' := [some (vr 0 0 0), some (vi v1), some (vi v2), none]) (st' := [vi (h.1 (h.2.2 0 13) 10), vi v2]) (h' := h) 9 4 (Nat.le_of_ble_eq_true rfl) tk_HF_stuck rfl rfl ⟨trivial, trivial, trivial, trivial, trivial⟩ ?_
    refine Ev.icmp_ge 13 71 tk_HF_stuck rfl (by decide) (fun hc1 => ?_) (fun hc1 => ?_)
    · replace hx := ip hc1 hx
      refine Ev.blk (pc' := 72) (lv' := [some (vr 0 0 0), some (vi v1), some (vi v2), none]) (st' := [vi v1]) (h' := h) 39 1 (Nat.le_of_ble_eq_true rfl) tk_HF_stuck rfl rfl ⟨trivial, trivial⟩ ?_
      obtain rfl := Option.some.inj hx
      obtain ⟨rfl, rfl⟩ := hP
      exact Ev.iret 40 tk_HF_stuck rfl rfl
    · replace hx := ia hc1 hx
      refine Ev.blk (pc' := 31) (lv' := [some (vr 0 0 0), some (vi v1), some (vi v2), none]) (st' := [vi (ii 5), vi v2, vr 3 0 (h.2.2 0 13), vr 0 0 0]) (h' := h) 14 5 (Nat.le_of_ble_eq_true rfl) tk_HF_stuck rfl rfl ⟨trivial, trivial, trivial, trivial, trivial, trivial⟩ ?_
      obtain ⟨q1, hq2, hx⟩ := bd hx
      refine Ev.callV (ν := m_Heath_trait) (av := [vi v2, vi (ii 5)]) (rest := [vr 0 0 0]) (r1 := some (vi q1)) (h1 := h) (ci := 3) (nn := 0) (o := (h.2.2 0 13)) 19 2 tk_HF_stuck rfl bb_Heath_trait vv_Heath_trait lk_0_196 (by decide) rfl rfl (Or.inl rfl) (Nat.le_of_ble_eq_true rfl) (s_Heath_trait Γ (h.2.2 0 13) v2 (ii 5) h _ hq2) ?_
      show Ev Γ m_HF_stuck 34 [some (vr 0 0 0), some (vi v1), some (vi v2), none] [vi q1, vr 0 0 0] h r h'
      obtain ⟨q2, hq3, hx⟩ := bd hx
      refine Ev.callV (ν := m_HF_freeOf) (av := [vi q1]) (rest := []) (r1 := some (vi q2)) (h1 := h) (ci := 0) (nn := 0) (o := 0) 20 1 tk_HF_stuck rfl bb_HF_freeOf vv_HF_freeOf lk_0_324 (by decide) rfl rfl (Or.inl rfl) (Nat.le_of_ble_eq_true rfl) (s_HF_freeOf Γ q1 h _ hq3) ?_
      show Ev Γ m_HF_stuck 37 [some (vr 0 0 0), some (vi v1), some (vi v2), none] [vi q2] h r h'
      refine Ev.blk (pc' := 47) (lv' := [some (vr 0 0 0), some (vi v1), some (vi v2), some (vi q2)]) (st' := [vi v2, vr 8 0 13, vr 3 0 (h.2.2 0 13)]) (h' := h) 21 6 (Nat.le_of_ble_eq_true rfl) tk_HF_stuck rfl rfl ⟨trivial, trivial, trivial, trivial, trivial, trivial, trivial⟩ ?_
      obtain ⟨q3, hq4, hx⟩ := bd hx
      refine Ev.callV (ν := m_Moor_placeOf) (av := [vi v2]) (rest := [vr 3 0 (h.2.2 0 13)]) (r1 := some (vi q3)) (h1 := h) (ci := 8) (nn := 0) (o := 13) 27 1 tk_HF_stuck rfl bb_Moor_placeOf vv_Moor_placeOf lk_0_190 (by decide) rfl rfl (Or.inl rfl) (Nat.le_of_ble_eq_true rfl) (s_Moor_placeOf Γ 13 v2 h _ hq4) ?_
      show Ev Γ m_HF_stuck 50 [some (vr 0 0 0), some (vi v1), some (vi v2), some (vi q2)] [vi q3, vr 3 0 (h.2.2 0 13)] h r h'
      obtain ⟨q4, hq5, hx⟩ := bd hx
      refine Ev.callV (ν := m_Heath_besideOf) (av := [vi q3]) (rest := []) (r1 := some (vi q4)) (h1 := h) (ci := 3) (nn := 0) (o := (h.2.2 0 13)) 28 1 tk_HF_stuck rfl bb_Heath_besideOf vv_Heath_besideOf lk_0_333 (by decide) rfl rfl (Or.inl rfl) (Nat.le_of_ble_eq_true rfl) (s_Heath_besideOf Γ (h.2.2 0 13) q3 h _ hq5) ?_
      show Ev Γ m_HF_stuck 53 [some (vr 0 0 0), some (vi v1), some (vi v2), some (vi q2)] [vi q4] h r h'
      refine Ev.blk (pc' := 55) (lv' := [some (vr 0 0 0), some (vi v1), some (vi v2), some (vi q2)]) (st' := [vi (q4 &&& q2)]) (h' := h) 29 2 (Nat.le_of_ble_eq_true rfl) tk_HF_stuck rfl rfl ⟨trivial, trivial, trivial⟩ ?_
      have K6 : ∀ v6_0 : Int32, v6_0 = (if (q4 &&& q2) = 0 then (v1 ||| (p_HF_bit v2)) else v1) → Ev Γ m_HF_stuck 65 [some (vr 0 0 0), some (vi v6_0), some (vi v2), none] [] h r h' := by
        intro v6_0 e7
        subst e7
        refine Ev.blk (pc' := 13) (lv' := [some (vr 0 0 0), some (vi (if (q4 &&& q2) = 0 then (v1 ||| (p_HF_bit v2)) else v1)), some (vi (v2 + ii 1)), none]) (st' := []) (h' := h) 37 2 (Nat.le_of_ble_eq_true rfl) tk_HF_stuck rfl rfl ⟨trivial, trivial, trivial⟩ ?_
        exact Ev.msk [true, true, true, false] (ih (if (q4 &&& q2) = 0 then (v1 ||| (p_HF_bit v2)) else v1) (v2 + ii 1) h _ hx r h' hP)
      refine Ev.if_ne 31 65 tk_HF_stuck rfl (by decide) (fun hc8 => ?_) (fun hc8 => ?_)
      · exact Ev.msk [true, true, true, false] (K6 _ (by first | rfl | simp only [if_neg hc8]))
      · refine Ev.blk (pc' := 60) (lv' := [some (vr 0 0 0), some (vi v1), some (vi v2), some (vi q2)]) (st' := [vi v2, vi v1]) (h' := h) 32 2 (Nat.le_of_ble_eq_true rfl) tk_HF_stuck rfl rfl ⟨trivial, trivial, trivial⟩ ?_
        refine Ev.callS (ν := m_HF_bit) (av := [vi v2]) (rest := [vi v1]) (r1 := some (vi (p_HF_bit v2))) (h1 := h) 34 1 tk_HF_stuck rfl bb_HF_bit vv_HF_bit lk_0_327 (by decide) rfl rfl (Nat.le_of_ble_eq_true rfl) (s_HF_bit Γ v2 h) ?_
        show Ev Γ m_HF_stuck 63 [some (vr 0 0 0), some (vi v1), some (vi v2), some (vi q2)] [vi (p_HF_bit v2), vi v1] h r h'
        refine Ev.blk (pc' := 65) (lv' := [some (vr 0 0 0), some (vi (v1 ||| (p_HF_bit v2))), some (vi v2), some (vi q2)]) (st' := []) (h' := h) 35 2 (Nat.le_of_ble_eq_true rfl) tk_HF_stuck rfl rfl ⟨trivial, trivial, trivial⟩ ?_
        exact Ev.msk [true, true, true, false] (K6 _ (by first | rfl | simp only [if_pos hc8]))
set_option maxRecDepth 4000 in
theorem s_HF_stuck (Γ : AG) (h : AH) (x : Int32) (hx : f_HF_stuck  h = some x) : MetA Γ m_HF_stuck [vr 0 0 0] h (some (vi x)) h := by
  refine Ev.met rfl rfl (Nat.le_of_ble_eq_true rfl) ?_
  show Ev Γ m_HF_stuck 0 [some (vr 0 0 0), none, none, none] [] h _ _
  obtain ⟨r, hr⟩ : ∃ r : Option AV, r = some (vi x) := ⟨_, rfl⟩
  obtain ⟨h', hh⟩ : ∃ h' : AH, h' = h := ⟨_, rfl⟩
  have hP : r = some (vi x) ∧ h' = h := ⟨hr, hh⟩
  suffices hS : Ev Γ m_HF_stuck 0 [some (vr 0 0 0), none, none, none] [] h r h' by rw [hr, hh] at hS; exact hS
  clear hr hh
  unfold f_HF_stuck at hx
  refine Ev.blk (pc' := 1) (lv' := [some (vr 0 0 0), none, none, none]) (st' := [vr 0 0 0]) (h' := h) 0 1 (Nat.le_of_ble_eq_true rfl) tk_HF_stuck rfl rfl ⟨trivial, trivial⟩ ?_
  refine Ev.callV (ν := m_HF_hasHeath) (av := []) (rest := []) (r1 := some (vi (p_HF_hasHeath h))) (h1 := h) (ci := 0) (nn := 0) (o := 0) 1 0 tk_HF_stuck rfl bb_HF_hasHeath vv_HF_hasHeath lk_0_137 (by decide) rfl rfl (Or.inl rfl) (Nat.le_of_ble_eq_true rfl) (s_HF_hasHeath Γ h) ?_
  show Ev Γ m_HF_stuck 4 [some (vr 0 0 0), none, none, none] [vi (p_HF_hasHeath h)] h r h'
  refine Ev.if_ne 2 9 tk_HF_stuck rfl (by decide) (fun hc1 => ?_) (fun hc1 => ?_)
  · replace hx := ia hc1 hx
    refine Ev.blk (pc' := 13) (lv' := [some (vr 0 0 0), some (vi (ii 0)), some (vi (ii 0)), none]) (st' := []) (h' := h) 5 4 (Nat.le_of_ble_eq_true rfl) tk_HF_stuck rfl rfl ⟨trivial, trivial, trivial, trivial, trivial⟩ ?_
    refine Ev.msk [true, true, true, false] ?_
    show Ev Γ m_HF_stuck 13 [some (vr 0 0 0), some (vi (ii 0)), some (vi (ii 0)), none] [] h r h'
    exact l_HF_stuck_L13 Γ FU (ii 0) (ii 0) h _ hx r h' hP
  · replace hx := ip hc1 hx
    refine Ev.blk (pc' := 8) (lv' := [some (vr 0 0 0), none, none, none]) (st' := [vi (ii (-1))]) (h' := h) 3 1 (Nat.le_of_ble_eq_true rfl) tk_HF_stuck rfl rfl ⟨trivial, trivial⟩ ?_
    obtain rfl := Option.some.inj hx
    obtain ⟨rfl, rfl⟩ := hP
    exact Ev.iret 4 tk_HF_stuck rfl rfl
