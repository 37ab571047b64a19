set_option maxRecDepth 4000 in
theorem l_R_readItems_L3 (Γ : AG) : ∀ (n : Nat) (v1 : Int32) (n2 : Nat) (o2 : Nat) (v3 : Int32) (o4 : Nat) (v5 : Int32) (h : AH) (x : AH), R_readItems_L3 n v1 n2 o2 v3 o4 v5 h = some x → ∀ (r : Option AV) (h' : AH), Ev Γ m_R_readItems 31 [some (vr 12 0 80), some (vi v1), some (vr 20 n2 o2), some (vi v3), some (vr 31 0 o4), none, none] [] x r h' → Ev Γ m_R_readItems 3 [some (vr 12 0 80), some (vi v1), some (vr 20 n2 o2), some (vi v3), some (vr 31 0 o4), some (vi v5), none] [] h r h' := by
  intro n
  induction n with
  | zero => intro v1 n2 o2 v3 o4 v5 h x hx; cases hx
  | succ n ih =>
    intro v1 n2 o2 v3 o4 v5 h x hx r h' hP
    replace hx : R_readItems_L3_b (R_readItems_L3 n) v1 n2 o2 v3 o4 v5 h = some x := hx
    unfold R_readItems_L3_b at hx
    refine Ev.blk (pc' := 7) (lv' := [some (vr 12 0 80), some (vi v1), some (vr 20 n2 o2), some (vi v3), some (vr 31 0 o4), some (vi v5), none]) (st' := [vr 31 0 o4, vi v5]) (h' := h) 2 2 (Nat.le_of_ble_eq_true rfl) tk_R_readItems rfl rfl ⟨trivial, trivial, trivial⟩ ?_
    refine Ev.callV (ν := m_Str_length) (av := []) (rest := [vi v5]) (r1 := some (vi (p_Str_length o4))) (h1 := h) (ci := 31) (nn := 0) (o := o4) 4 0 tk_R_readItems rfl bb_Str_length vv_Str_length lk_12_105 (by decide) rfl rfl (Or.inr ⟨rfl, rfl⟩) (Nat.le_of_ble_eq_true rfl) (s_Str_length Γ o4 h) ?_
    show Ev Γ m_R_readItems 10 [some (vr 12 0 80), some (vi v1), some (vr 20 n2 o2), some (vi v3), some (vr 31 0 o4), some (vi v5), none] [vi (p_Str_length o4), vi v5] h r h'
    refine Ev.icmp_ge 5 31 tk_R_readItems rfl (by decide) (fun hc1 => ?_) (fun hc1 => ?_)
    · replace hx := ip hc1 hx
      obtain rfl := Option.some.inj hx
      exact Ev.msk [true, true, true, true, true, false, false] hP
    · replace hx := ia hc1 hx
      refine Ev.blk (pc' := 21) (lv' := [some (vr 12 0 80), some (vi v1), some (vr 20 n2 o2), some (vi v3), some (vr 31 0 o4), some (vi v5), none]) (st' := [vi v5, vi v1, vi (v3 + v5), vr 20 n2 o2]) (h' := h) 6 6 (Nat.le_of_ble_eq_true rfl) tk_R_readItems rfl rfl ⟨trivial, trivial, trivial, trivial, trivial, trivial, trivial⟩ ?_
      refine Ev.callS (ν := m_R_usual) (av := [vi v1, vi v5]) (rest := [vi (v3 + v5), vr 20 n2 o2]) (r1 := some (vi (p_R_usual v1 v5))) (h1 := h) 12 2 tk_R_readItems rfl bb_R_usual vv_R_usual lk_12_227 (by decide) rfl rfl (Nat.le_of_ble_eq_true rfl) (s_R_usual Γ v1 v5 h) ?_
      show Ev Γ m_R_readItems 24 [some (vr 12 0 80), some (vi v1), some (vr 20 n2 o2), some (vi v3), some (vr 31 0 o4), some (vi v5), none] [vi (p_R_usual v1 v5), vi (v3 + v5), vr 20 n2 o2] h r h'
      obtain ⟨hg2, hx⟩ := gd hx
      refine Ev.blk (pc' := 3) (lv' := [some (vr 12 0 80), some (vi v1), some (vr 20 n2 o2), some (vi v3), some (vr 31 0 o4), some (vi (v5 + ii 1)), none]) (st' := []) (h' := (wI h o2 (v3 + v5).toNatClampNeg (p_R_usual v1 v5))) 13 3 (Nat.le_of_ble_eq_true rfl) tk_R_readItems rfl rfl ⟨hg2, trivial, trivial, trivial⟩ ?_
      exact Ev.msk [true, true, true, true, true, true, false] (ih v1 n2 o2 v3 o4 (v5 + ii 1) (wI h o2 (v3 + v5).toNatClampNeg (p_R_usual v1 v5)) _ hx r h' hP)
set_option maxRecDepth 4000 in
theorem l_R_readItems_L45 (Γ : AG) : ∀ (n : Nat) (v1 : Int32) (n2 : Nat) (o2 : Nat) (v3 : Int32) (o4 : Nat) (v5 : Int32) (v6 : Int32) (h : AH) (x : AH), R_readItems_L45 n v1 n2 o2 v3 o4 v5 v6 h = some x → ∀ (r : Option AV) (h' : AH), r = none ∧ h' = x → Ev Γ m_R_readItems 45 [some (vr 12 0 80), some (vi v1), some (vr 20 n2 o2), some (vi v3), some (vr 31 0 o4), some (vi v5), some (vi v6)] [] h r h' := by
  intro n
  induction n with
  | zero => intro v1 n2 o2 v3 o4 v5 v6 h x hx; cases hx
  | succ n ih =>
    intro v1 n2 o2 v3 o4 v5 v6 h x hx r h' hP
    replace hx : R_readItems_L45_b (R_readItems_L45 n) v1 n2 o2 v3 o4 v5 v6 h = some x := hx
    unfold R_readItems_L45_b at hx
    refine Ev.blk (pc' := 48) (lv' := [some (vr 12 0 80), some (vi v1), some (vr 20 n2 o2), some (vi v3), some (vr 31 0 o4), some (vi v5), some (vi v6)]) (st' := [vi (ii (-1)), vi v6]) (h' := h) 23 2 (Nat.le_of_ble_eq_true rfl) tk_R_readItems rfl rfl ⟨trivial, trivial, trivial⟩ ?_
    refine Ev.icmp_eq 25 138 tk_R_readItems rfl (by decide) (fun hc1 => ?_) (fun hc1 => ?_)
    · replace hx := ip hc1 hx
      obtain rfl := Option.some.inj hx
      obtain ⟨rfl, rfl⟩ := hP
      exact Ev.vret 73 tk_R_readItems rfl rfl
    · replace hx := ia hc1 hx
      refine Ev.blk (pc' := 56) (lv' := [some (vr 12 0 80), some (vi v1), some (vr 20 n2 o2), some (vi v3), some (vr 31 0 o4), some (vi v5), some (vi v6)]) (st' := [vi (ii (-1)), vi (h.1 80 11)]) (h' := h) 26 3 (Nat.le_of_ble_eq_true rfl) tk_R_readItems rfl rfl ⟨trivial, trivial, trivial, trivial⟩ ?_
      refine Ev.icmp_ne 29 138 tk_R_readItems rfl (by decide) (fun hc2 => ?_) (fun hc2 => ?_)
      · replace hx := ia hc2 hx
        obtain rfl := Option.some.inj hx
        obtain ⟨rfl, rfl⟩ := hP
        exact Ev.vret 73 tk_R_readItems rfl rfl
      · replace hx := ip hc2 hx
        refine Ev.blk (pc' := 63) (lv' := [some (vr 12 0 80), some (vi v1), some (vr 20 n2 o2), some (vi v3), some (vr 31 0 o4), some (vi v5), some (vi v6)]) (st' := [vi v6, vi v5]) (h' := h) 30 2 (Nat.le_of_ble_eq_true rfl) tk_R_readItems rfl rfl ⟨trivial, trivial, trivial⟩ ?_
        refine Ev.callS (ν := m_R_has) (av := [vi v5, vi v6]) (rest := []) (r1 := some (vi (p_R_has v5 v6))) (h1 := h) 32 2 tk_R_readItems rfl bb_R_has vv_R_has lk_12_235 (by decide) rfl rfl (Nat.le_of_ble_eq_true rfl) (s_R_has Γ v5 v6 h) ?_
        show Ev Γ m_R_readItems 66 [some (vr 12 0 80), some (vi v1), some (vr 20 n2 o2), some (vi v3), some (vr 31 0 o4), some (vi v5), some (vi v6)] [vi (p_R_has v5 v6)] h r h'
        refine Ev.if_eq 33 75 tk_R_readItems rfl (by decide) (fun hc3 => ?_) (fun hc3 => ?_)
        · replace hx := ip hc3 hx
          refine Ev.blk (pc' := 103) (lv' := [some (vr 12 0 80), some (vi v1), some (vr 20 n2 o2), some (vi v3), some (vr 31 0 o4), some (vi (v5 ||| (shlI (ii 1) v6))), some (vi v6)]) (st' := [vi v6, vi v1, vr 12 0 80, vi (v3 + v6), vr 20 n2 o2]) (h' := (wI h 80 10 ((h.1 80 10) + (ii 1)))) 38 19 (Nat.le_of_ble_eq_true rfl) tk_R_readItems rfl rfl ⟨trivial, trivial, trivial, trivial, trivial, trivial, trivial, trivial, trivial, trivial, trivial, trivial, trivial, trivial, trivial, trivial, trivial, trivial, trivial, trivial⟩ ?_
          refine Ev.callS (ν := m_R_leastOf) (av := [vi v1, vi v6]) (rest := [vr 12 0 80, vi (v3 + v6), vr 20 n2 o2]) (r1 := some (vi (p_R_leastOf v1 v6))) (h1 := (wI h 80 10 ((h.1 80 10) + (ii 1)))) 57 2 tk_R_readItems rfl bb_R_leastOf vv_R_leastOf lk_12_239 (by decide) rfl rfl (Nat.le_of_ble_eq_true rfl) (s_R_leastOf Γ v1 v6 (wI h 80 10 ((h.1 80 10) + (ii 1)))) ?_
          show Ev Γ m_R_readItems 106 [some (vr 12 0 80), some (vi v1), some (vr 20 n2 o2), some (vi v3), some (vr 31 0 o4), some (vi (v5 ||| (shlI (ii 1) v6))), some (vi v6)] [vi (p_R_leastOf v1 v6), vr 12 0 80, vi (v3 + v6), vr 20 n2 o2] (wI h 80 10 ((h.1 80 10) + (ii 1))) r h'
          refine Ev.blk (pc' := 109) (lv' := [some (vr 12 0 80), some (vi v1), some (vr 20 n2 o2), some (vi v3), some (vr 31 0 o4), some (vi (v5 ||| (shlI (ii 1) v6))), some (vi v6)]) (st' := [vi v6, vi v1, vi (p_R_leastOf v1 v6), vr 12 0 80, vi (v3 + v6), vr 20 n2 o2]) (h' := (wI h 80 10 ((h.1 80 10) + (ii 1)))) 58 2 (Nat.le_of_ble_eq_true rfl) tk_R_readItems rfl rfl ⟨trivial, trivial, trivial⟩ ?_
          refine Ev.callS (ν := m_R_mostOf) (av := [vi v1, vi v6]) (rest := [vi (p_R_leastOf v1 v6), vr 12 0 80, vi (v3 + v6), vr 20 n2 o2]) (r1 := some (vi (p_R_mostOf v1 v6))) (h1 := (wI h 80 10 ((h.1 80 10) + (ii 1)))) 60 2 tk_R_readItems rfl bb_R_mostOf vv_R_mostOf lk_12_242 (by decide) rfl rfl (Nat.le_of_ble_eq_true rfl) (s_R_mostOf Γ v1 v6 (wI h 80 10 ((h.1 80 10) + (ii 1)))) ?_
          show Ev Γ m_R_readItems 112 [some (vr 12 0 80), some (vi v1), some (vr 20 n2 o2), some (vi v3), some (vr 31 0 o4), some (vi (v5 ||| (shlI (ii 1) v6))), some (vi v6)] [vi (p_R_mostOf v1 v6), vi (p_R_leastOf v1 v6), vr 12 0 80, vi (v3 + v6), vr 20 n2 o2] (wI h 80 10 ((h.1 80 10) + (ii 1))) r h'
          obtain ⟨q1, hq4, hx⟩ := bd hx
          refine Ev.callV (ν := m_R_number) (av := [vi (p_R_leastOf v1 v6), vi (p_R_mostOf v1 v6)]) (rest := [vi (v3 + v6), vr 20 n2 o2]) (r1 := some (vi q1.1)) (h1 := q1.2) (ci := 12) (nn := 0) (o := 80) 61 2 tk_R_readItems rfl bb_R_number vv_R_number lk_12_245 (by decide) rfl rfl (Or.inl rfl) (Nat.le_of_ble_eq_true rfl) (s_R_number Γ (p_R_leastOf v1 v6) (p_R_mostOf v1 v6) (wI h 80 10 ((h.1 80 10) + (ii 1))) _ hq4) ?_
          show Ev Γ m_R_readItems 115 [some (vr 12 0 80), some (vi v1), some (vr 20 n2 o2), some (vi v3), some (vr 31 0 o4), some (vi (v5 ||| (shlI (ii 1) v6))), some (vi v6)] [vi q1.1, vi (v3 + v6), vr 20 n2 o2] q1.2 r h'
          obtain ⟨hg5, hx⟩ := gd hx
          refine Ev.blk (pc' := 121) (lv' := [some (vr 12 0 80), some (vi v1), some (vr 20 n2 o2), some (vi v3), some (vr 31 0 o4), some (vi (v5 ||| (shlI (ii 1) v6))), some (vi v6)]) (st' := [vi (ii (-1)), vi ((wI q1.2 o2 (v3 + v6).toNatClampNeg q1.1).1 80 11)]) (h' := (wI q1.2 o2 (v3 + v6).toNatClampNeg q1.1)) 62 4 (Nat.le_of_ble_eq_true rfl) tk_R_readItems rfl rfl ⟨hg5, trivial, trivial, trivial, trivial⟩ ?_
          refine Ev.icmp_ne 66 45 tk_R_readItems rfl (by decide) (fun hc6 => ?_) (fun hc6 => ?_)
          · replace hx := ia hc6 hx
            exact Ev.msk [true, true, true, true, true, true, true] (ih v1 n2 o2 v3 o4 (v5 ||| (shlI (ii 1) v6)) v6 (wI q1.2 o2 (v3 + v6).toNatClampNeg q1.1) _ hx r h' hP)
          · replace hx := ip hc6 hx
            refine Ev.blk (pc' := 127) (lv' := [some (vr 12 0 80), some (vi v1), some (vr 20 n2 o2), some (vi v3), some (vr 31 0 o4), some (vi (v5 ||| (shlI (ii 1) v6))), some (vi v6)]) (st' := [vr 12 0 80, vr 31 0 o4]) (h' := (wI q1.2 o2 (v3 + v6).toNatClampNeg q1.1)) 67 2 (Nat.le_of_ble_eq_true rfl) tk_R_readItems rfl rfl ⟨trivial, trivial, trivial⟩ ?_
            obtain ⟨q2, hq7, hx⟩ := bd hx
            refine Ev.callV (ν := m_R_look) (av := []) (rest := [vr 31 0 o4]) (r1 := some (vi q2.1)) (h1 := q2.2) (ci := 12) (nn := 0) (o := 80) 69 0 tk_R_readItems rfl bb_R_look vv_R_look lk_12_144 (by decide) rfl rfl (Or.inl rfl) (Nat.le_of_ble_eq_true rfl) (s_R_look Γ (wI q1.2 o2 (v3 + v6).toNatClampNeg q1.1) _ hq7) ?_
            show Ev Γ m_R_readItems 130 [some (vr 12 0 80), some (vi v1), some (vr 20 n2 o2), some (vi v3), some (vr 31 0 o4), some (vi (v5 ||| (shlI (ii 1) v6))), some (vi v6)] [vi q2.1, vr 31 0 o4] q2.2 r h'
            obtain ⟨q3, hq8, hx⟩ := bd hx
            refine Ev.callS (ν := m_R_spotOf) (av := [vr 31 0 o4, vi q2.1]) (rest := []) (r1 := some (vi q3)) (h1 := q2.2) 70 2 tk_R_readItems rfl bb_R_spotOf vv_R_spotOf lk_12_231 (by decide) rfl rfl (Nat.le_of_ble_eq_true rfl) (s_R_spotOf Γ o4 q2.1 q2.2 _ hq8) ?_
            show Ev Γ m_R_readItems 133 [some (vr 12 0 80), some (vi v1), some (vr 20 n2 o2), some (vi v3), some (vr 31 0 o4), some (vi (v5 ||| (shlI (ii 1) v6))), some (vi v6)] [vi q3] q2.2 r h'
            refine Ev.blk (pc' := 45) (lv' := [some (vr 12 0 80), some (vi v1), some (vr 20 n2 o2), some (vi v3), some (vr 31 0 o4), some (vi (v5 ||| (shlI (ii 1) v6))), some (vi q3)]) (st' := []) (h' := q2.2) 71 2 (Nat.le_of_ble_eq_true rfl) tk_R_readItems rfl rfl ⟨trivial, trivial, trivial⟩ ?_
            exact Ev.msk [true, true, true, true, true, true, true] (ih v1 n2 o2 v3 o4 (v5 ||| (shlI (ii 1) v6)) q3 q2.2 _ hx r h' hP)
        · replace hx := ia hc3 hx
          refine Ev.blk (pc' := 70) (lv' := [some (vr 12 0 80), some (vi v1), some (vr 20 n2 o2), some (vi v3), some (vr 31 0 o4), some (vi v5), some (vi v6)]) (st' := [vr 12 0 80]) (h' := h) 34 1 (Nat.le_of_ble_eq_true rfl) tk_R_readItems rfl rfl ⟨trivial, trivial⟩ ?_
          obtain ⟨q4, hq9, hx⟩ := bd hx
          refine Ev.callV (ν := m_R_fails) (av := []) (rest := []) (r1 := some (vi q4.1)) (h1 := q4.2) (ci := 12) (nn := 0) (o := 80) 35 0 tk_R_readItems rfl bb_R_fails vv_R_fails lk_12_140 (by decide) rfl rfl (Or.inl rfl) (Nat.le_of_ble_eq_true rfl) (s_R_fails Γ h _ hq9) ?_
          show Ev Γ m_R_readItems 73 [some (vr 12 0 80), some (vi v1), some (vr 20 n2 o2), some (vi v3), some (vr 31 0 o4), some (vi v5), some (vi v6)] [vi q4.1] q4.2 r h'
          refine Ev.blk (pc' := 74) (lv' := [some (vr 12 0 80), some (vi v1), some (vr 20 n2 o2), some (vi v3), some (vr 31 0 o4), some (vi v5), some (vi v6)]) (st' := []) (h' := q4.2) 36 1 (Nat.le_of_ble_eq_true rfl) tk_R_readItems rfl rfl ⟨trivial, trivial⟩ ?_
          obtain rfl := Option.some.inj hx
          obtain ⟨rfl, rfl⟩ := hP
          exact Ev.vret 37 tk_R_readItems rfl rfl
set_option maxRecDepth 4000 in
theorem s_R_readItems (Γ : AG) (a1 : Int32) (n2 : Nat) (o2 : Nat) (a3 : Int32) (o4 : Nat) (h : AH) (x : AH) (hx : f_R_readItems a1 n2 o2 a3 o4 h = some x) : MetA Γ m_R_readItems [vr 12 0 80, vi a1, vr 20 n2 o2, vi a3, vr 31 0 o4] h (none) x := by
  refine Ev.met rfl rfl (Nat.le_of_ble_eq_true rfl) ?_
  show Ev Γ m_R_readItems 0 [some (vr 12 0 80), some (vi a1), some (vr 20 n2 o2), some (vi a3), some (vr 31 0 o4), none, none] [] h _ _
  obtain ⟨r, hr⟩ : ∃ r : Option AV, r = none := ⟨_, rfl⟩
  obtain ⟨h', hh⟩ : ∃ h' : AH, h' = x := ⟨_, rfl⟩
  have hP : r = none ∧ h' = x := ⟨hr, hh⟩
  suffices hS : Ev Γ m_R_readItems 0 [some (vr 12 0 80), some (vi a1), some (vr 20 n2 o2), some (vi a3), some (vr 31 0 o4), none, none] [] h r h' by rw [hr, hh] at hS; exact hS
  clear hr hh
  unfold f_R_readItems at hx
  refine Ev.blk (pc' := 3) (lv' := [some (vr 12 0 80), some (vi a1), some (vr 20 n2 o2), some (vi a3), some (vr 31 0 o4), some (vi (ii 0)), none]) (st' := []) (h' := h) 0 2 (Nat.le_of_ble_eq_true rfl) tk_R_readItems rfl rfl ⟨trivial, trivial, trivial⟩ ?_
  obtain ⟨q1, hq1, hx⟩ := bd hx
  refine Ev.msk [true, true, true, true, true, true, false] ?_
  show Ev Γ m_R_readItems 3 [some (vr 12 0 80), some (vi a1), some (vr 20 n2 o2), some (vi a3), some (vr 31 0 o4), some (vi (ii 0)), none] [] h r h'
  refine l_R_readItems_L3 Γ FU a1 n2 o2 a3 o4 (ii 0) h _ hq1 r h' ?_
  show Ev Γ m_R_readItems 31 [some (vr 12 0 80), some (vi a1), some (vr 20 n2 o2), some (vi a3), some (vr 31 0 o4), none, none] [] q1 r h'
  refine Ev.blk (pc' := 37) (lv' := [some (vr 12 0 80), some (vi a1), some (vr 20 n2 o2), some (vi a3), some (vr 31 0 o4), some (vi (ii 0)), none]) (st' := [vr 12 0 80, vr 31 0 o4]) (h' := q1) 16 4 (Nat.le_of_ble_eq_true rfl) tk_R_readItems rfl rfl ⟨trivial, trivial, trivial, trivial, trivial⟩ ?_
  obtain ⟨q2, hq2, hx⟩ := bd hx
  refine Ev.callV (ν := m_R_look) (av := []) (rest := [vr 31 0 o4]) (r1 := some (vi q2.1)) (h1 := q2.2) (ci := 12) (nn := 0) (o := 80) 20 0 tk_R_readItems rfl bb_R_look vv_R_look lk_12_144 (by decide) rfl rfl (Or.inl rfl) (Nat.le_of_ble_eq_true rfl) (s_R_look Γ q1 _ hq2) ?_
  show Ev Γ m_R_readItems 40 [some (vr 12 0 80), some (vi a1), some (vr 20 n2 o2), some (vi a3), some (vr 31 0 o4), some (vi (ii 0)), none] [vi q2.1, vr 31 0 o4] q2.2 r h'
  obtain ⟨q3, hq3, hx⟩ := bd hx
  refine Ev.callS (ν := m_R_spotOf) (av := [vr 31 0 o4, vi q2.1]) (rest := []) (r1 := some (vi q3)) (h1 := q2.2) 21 2 tk_R_readItems rfl bb_R_spotOf vv_R_spotOf lk_12_231 (by decide) rfl rfl (Nat.le_of_ble_eq_true rfl) (s_R_spotOf Γ o4 q2.1 q2.2 _ hq3) ?_
  show Ev Γ m_R_readItems 43 [some (vr 12 0 80), some (vi a1), some (vr 20 n2 o2), some (vi a3), some (vr 31 0 o4), some (vi (ii 0)), none] [vi q3] q2.2 r h'
  refine Ev.blk (pc' := 45) (lv' := [some (vr 12 0 80), some (vi a1), some (vr 20 n2 o2), some (vi a3), some (vr 31 0 o4), some (vi (ii 0)), some (vi q3)]) (st' := []) (h' := q2.2) 22 1 (Nat.le_of_ble_eq_true rfl) tk_R_readItems rfl rfl ⟨trivial, trivial⟩ ?_
  refine Ev.msk [true, true, true, true, true, true, true] ?_
  show Ev Γ m_R_readItems 45 [some (vr 12 0 80), some (vi a1), some (vr 20 n2 o2), some (vi a3), some (vr 31 0 o4), some (vi (ii 0)), some (vi q3)] [] q2.2 r h'
  exact l_R_readItems_L45 Γ FU a1 n2 o2 a3 o4 (ii 0) q3 q2.2 _ hx r h' hP
set_option maxRecDepth 4000 in
theorem l_R_readWays_L14 (Γ : AG) : ∀ (n : Nat) (n1 : Nat) (o1 : Nat) (v2 : Int32) (v3 : Int32) (v4 : Int32) (v5 : Int32) (h : AH) (x : Int32 × AH), R_readWays_L14 n n1 o1 v2 v3 v4 v5 h = some x → ∀ (r : Option AV) (h' : AH), r = some (vi x.1) ∧ h' = x.2 → Ev Γ m_R_readWays 14 [some (vr 12 0 80), some (vr 20 n1 o1), some (vi v2), some (vi v3), some (vi v4), some (vi v5)] [] h r h' := by
  intro n
  induction n with
  | zero => intro n1 o1 v2 v3 v4 v5 h x hx; cases hx
  | succ n ih =>
    intro n1 o1 v2 v3 v4 v5 h x hx r h' hP
    replace hx : R_readWays_L14_b (R_readWays_L14 n) n1 o1 v2 v3 v4 v5 h = some x := hx
    unfold R_readWays_L14_b at hx
    refine Ev.blk (pc' := 16) (lv' := [some (vr 12 0 80), some (vr 20 n1 o1), some (vi v2), some (vi v3), some (vi v4), some (vi v5)]) (st' := [vi v4]) (h' := h) 7 1 (Nat.le_of_ble_eq_true rfl) tk_R_readWays rfl rfl ⟨trivial, trivial⟩ ?_
    refine Ev.if_eq 8 25 tk_R_readWays rfl (by decide) (fun hc1 => ?_) (fun hc1 => ?_)
    · replace hx := ip hc1 hx
      refine Ev.blk (pc' := 28) (lv' := [some (vr 12 0 80), some (vr 20 n1 o1), some (vi v2), some (vi v3), some (vi v4), some (vi v5)]) (st' := [vi (ii (-1)), vi v5]) (h' := h) 12 2 (Nat.le_of_ble_eq_true rfl) tk_R_readWays rfl rfl ⟨trivial, trivial, trivial⟩ ?_
      refine Ev.icmp_eq 14 38 tk_R_readWays rfl (by decide) (fun hc2 => ?_) (fun hc2 => ?_)
      · replace hx := ip hc2 hx
        refine Ev.blk (pc' := 39) (lv' := [some (vr 12 0 80), some (vr 20 n1 o1), some (vi v2), some (vi v3), some (vi v4), some (vi v5)]) (st' := [vr 12 0 80]) (h' := h) 18 1 (Nat.le_of_ble_eq_true rfl) tk_R_readWays rfl rfl ⟨trivial, trivial⟩ ?_
        obtain ⟨q1, hq3, hx⟩ := bd hx
        refine Ev.callV (ν := m_R_fails) (av := []) (rest := []) (r1 := some (vi q1.1)) (h1 := q1.2) (ci := 12) (nn := 0) (o := 80) 19 0 tk_R_readWays rfl bb_R_fails vv_R_fails lk_12_140 (by decide) rfl rfl (Or.inl rfl) (Nat.le_of_ble_eq_true rfl) (s_R_fails Γ h _ hq3) ?_
        show Ev Γ m_R_readWays 42 [some (vr 12 0 80), some (vr 20 n1 o1), some (vi v2), some (vi v3), some (vi v4), some (vi v5)] [vi q1.1] q1.2 r h'
        refine Ev.blk (pc' := 45) (lv' := [some (vr 12 0 80), some (vr 20 n1 o1), some (vi v2), some (vi v3), some (vi v4), some (vi v5)]) (st' := [vi v4]) (h' := q1.2) 20 2 (Nat.le_of_ble_eq_true rfl) tk_R_readWays rfl rfl ⟨trivial, trivial, trivial⟩ ?_
        obtain rfl := Option.some.inj hx
        obtain ⟨rfl, rfl⟩ := hP
        exact Ev.iret 22 tk_R_readWays rfl rfl
      · replace hx := ia hc2 hx
        refine Ev.blk (pc' := 35) (lv' := [some (vr 12 0 80), some (vr 20 n1 o1), some (vi v2), some (vi v3), some (vi v4), some (vi v5)]) (st' := [vi (ii 8), vi v4]) (h' := h) 15 2 (Nat.le_of_ble_eq_true rfl) tk_R_readWays rfl rfl ⟨trivial, trivial, trivial⟩ ?_
        refine Ev.icmp_ne 17 46 tk_R_readWays rfl (by decide) (fun hc4 => ?_) (fun hc4 => ?_)
        · replace hx := ia hc4 hx
          obtain ⟨hg5, hx⟩ := gd hx
          refine Ev.blk (pc' := 72) (lv' := [some (vr 12 0 80), some (vr 20 n1 o1), some (vi v2), some (vi v3), some (vi (v4 + ii 1)), some (vi v5)]) (st' := [vr 12 0 80, vr 31 0 6]) (h' := (wI (wI h o1 (v2 + (v3 * v4)).toNatClampNeg v5) 80 10 (((wI h o1 (v2 + (v3 * v4)).toNatClampNeg v5).1 80 10) + (ii 1)))) 23 17 (Nat.le_of_ble_eq_true rfl) tk_R_readWays rfl rfl ⟨trivial, trivial, trivial, trivial, trivial, trivial, trivial, hg5, trivial, trivial, trivial, trivial, trivial, trivial, trivial, trivial, trivial, trivial⟩ ?_
          obtain ⟨q2, hq6, hx⟩ := bd hx
          refine Ev.callV (ν := m_R_look) (av := []) (rest := [vr 31 0 6]) (r1 := some (vi q2.1)) (h1 := q2.2) (ci := 12) (nn := 0) (o := 80) 40 0 tk_R_readWays rfl bb_R_look vv_R_look lk_12_144 (by decide) rfl rfl (Or.inl rfl) (Nat.le_of_ble_eq_true rfl) (s_R_look Γ (wI (wI h o1 (v2 + (v3 * v4)).toNatClampNeg v5) 80 10 (((wI h o1 (v2 + (v3 * v4)).toNatClampNeg v5).1 80 10) + (ii 1))) _ hq6) ?_
          show Ev Γ m_R_readWays 75 [some (vr 12 0 80), some (vr 20 n1 o1), some (vi v2), some (vi v3), some (vi (v4 + ii 1)), some (vi v5)] [vi q2.1, vr 31 0 6] q2.2 r h'
          obtain ⟨q3, hq7, hx⟩ := bd hx
          refine Ev.callS (ν := m_R_spotOf) (av := [vr 31 0 6, vi q2.1]) (rest := []) (r1 := some (vi q3)) (h1 := q2.2) 41 2 tk_R_readWays rfl bb_R_spotOf vv_R_spotOf lk_12_231 (by decide) rfl rfl (Nat.le_of_ble_eq_true rfl) (s_R_spotOf Γ 6 q2.1 q2.2 _ hq7) ?_
          show Ev Γ m_R_readWays 78 [some (vr 12 0 80), some (vr 20 n1 o1), some (vi v2), some (vi v3), some (vi (v4 + ii 1)), some (vi v5)] [vi q3] q2.2 r h'
          refine Ev.blk (pc' := 14) (lv' := [some (vr 12 0 80), some (vr 20 n1 o1), some (vi v2), some (vi v3), some (vi (v4 + ii 1)), some (vi q3)]) (st' := []) (h' := q2.2) 42 2 (Nat.le_of_ble_eq_true rfl) tk_R_readWays rfl rfl ⟨trivial, trivial, trivial⟩ ?_
          exact Ev.msk [true, true, true, true, true, true] (ih n1 o1 v2 v3 (v4 + ii 1) q3 q2.2 _ hx r h' hP)
        · replace hx := ip hc4 hx
          refine Ev.blk (pc' := 39) (lv' := [some (vr 12 0 80), some (vr 20 n1 o1), some (vi v2), some (vi v3), some (vi v4), some (vi v5)]) (st' := [vr 12 0 80]) (h' := h) 18 1 (Nat.le_of_ble_eq_true rfl) tk_R_readWays rfl rfl ⟨trivial, trivial⟩ ?_
          obtain ⟨q4, hq8, hx⟩ := bd hx
          refine Ev.callV (ν := m_R_fails) (av := []) (rest := []) (r1 := some (vi q4.1)) (h1 := q4.2) (ci := 12) (nn := 0) (o := 80) 19 0 tk_R_readWays rfl bb_R_fails vv_R_fails lk_12_140 (by decide) rfl rfl (Or.inl rfl) (Nat.le_of_ble_eq_true rfl) (s_R_fails Γ h _ hq8) ?_
          show Ev Γ m_R_readWays 42 [some (vr 12 0 80), some (vr 20 n1 o1), some (vi v2), some (vi v3), some (vi v4), some (vi v5)] [vi q4.1] q4.2 r h'
          refine Ev.blk (pc' := 45) (lv' := [some (vr 12 0 80), some (vr 20 n1 o1), some (vi v2), some (vi v3), some (vi v4), some (vi v5)]) (st' := [vi v4]) (h' := q4.2) 20 2 (Nat.le_of_ble_eq_true rfl) tk_R_readWays rfl rfl ⟨trivial, trivial, trivial⟩ ?_
          obtain rfl := Option.some.inj hx
          obtain ⟨rfl, rfl⟩ := hP
          exact Ev.iret 22 tk_R_readWays rfl rfl
    · replace hx := ia hc1 hx
      refine Ev.blk (pc' := 22) (lv' := [some (vr 12 0 80), some (vr 20 n1 o1), some (vi v2), some (vi v3), some (vi v4), some (vi v5)]) (st' := [vi (ii (-1)), vi v5]) (h' := h) 9 2 (Nat.le_of_ble_eq_true rfl) tk_R_readWays rfl rfl ⟨trivial, trivial, trivial⟩ ?_
      refine Ev.icmp_eq 11 83 tk_R_readWays rfl (by decide) (fun hc9 => ?_) (fun hc9 => ?_)
      · replace hx := ip hc9 hx
        refine Ev.blk (pc' := 85) (lv' := [some (vr 12 0 80), some (vr 20 n1 o1), some (vi v2), some (vi v3), some (vi v4), some (vi v5)]) (st' := [vi v4]) (h' := h) 44 1 (Nat.le_of_ble_eq_true rfl) tk_R_readWays rfl rfl ⟨trivial, trivial⟩ ?_
        obtain rfl := Option.some.inj hx
        obtain ⟨rfl, rfl⟩ := hP
        exact Ev.iret 45 tk_R_readWays rfl rfl
      · replace hx := ia hc9 hx
        refine Ev.blk (pc' := 28) (lv' := [some (vr 12 0 80), some (vr 20 n1 o1), some (vi v2), some (vi v3), some (vi v4), some (vi v5)]) (st' := [vi (ii (-1)), vi v5]) (h' := h) 12 2 (Nat.le_of_ble_eq_true rfl) tk_R_readWays rfl rfl ⟨trivial, trivial, trivial⟩ ?_
        refine Ev.icmp_eq 14 38 tk_R_readWays rfl (by decide) (fun hc10 => ?_) (fun hc10 => ?_)
        · replace hx := ip hc10 hx
          refine Ev.blk (pc' := 39) (lv' := [some (vr 12 0 80), some (vr 20 n1 o1), some (vi v2), some (vi v3), some (vi v4), some (vi v5)]) (st' := [vr 12 0 80]) (h' := h) 18 1 (Nat.le_of_ble_eq_true rfl) tk_R_readWays rfl rfl ⟨trivial, trivial⟩ ?_
          obtain ⟨q5, hq11, hx⟩ := bd hx
          refine Ev.callV (ν := m_R_fails) (av := []) (rest := []) (r1 := some (vi q5.1)) (h1 := q5.2) (ci := 12) (nn := 0) (o := 80) 19 0 tk_R_readWays rfl bb_R_fails vv_R_fails lk_12_140 (by decide) rfl rfl (Or.inl rfl) (Nat.le_of_ble_eq_true rfl) (s_R_fails Γ h _ hq11) ?_
          show Ev Γ m_R_readWays 42 [some (vr 12 0 80), some (vr 20 n1 o1), some (vi v2), some (vi v3), some (vi v4), some (vi v5)] [vi q5.1] q5.2 r h'
          refine Ev.blk (pc' := 45) (lv' := [some (vr 12 0 80), some (vr 20 n1 o1), some (vi v2), some (vi v3), some (vi v4), some (vi v5)]) (st' := [vi v4]) (h' := q5.2) 20 2 (Nat.le_of_ble_eq_true rfl) tk_R_readWays rfl rfl ⟨trivial, trivial, trivial⟩ ?_
          obtain rfl := Option.some.inj hx
          obtain ⟨rfl, rfl⟩ := hP
          exact Ev.iret 22 tk_R_readWays rfl rfl
        · replace hx := ia hc10 hx
          refine Ev.blk (pc' := 35) (lv' := [some (vr 12 0 80), some (vr 20 n1 o1), some (vi v2), some (vi v3), some (vi v4), some (vi v5)]) (st' := [vi (ii 8), vi v4]) (h' := h) 15 2 (Nat.le_of_ble_eq_true rfl) tk_R_readWays rfl rfl ⟨trivial, trivial, trivial⟩ ?_
          refine Ev.icmp_ne 17 46 tk_R_readWays rfl (by decide) (fun hc12 => ?_) (fun hc12 => ?_)
          · replace hx := ia hc12 hx
            obtain ⟨hg13, hx⟩ := gd hx
            refine Ev.blk (pc' := 72) (lv' := [some (vr 12 0 80), some (vr 20 n1 o1), some (vi v2), some (vi v3), some (vi (v4 + ii 1)), some (vi v5)]) (st' := [vr 12 0 80, vr 31 0 6]) (h' := (wI (wI h o1 (v2 + (v3 * v4)).toNatClampNeg v5) 80 10 (((wI h o1 (v2 + (v3 * v4)).toNatClampNeg v5).1 80 10) + (ii 1)))) 23 17 (Nat.le_of_ble_eq_true rfl) tk_R_readWays rfl rfl ⟨trivial, trivial, trivial, trivial, trivial, trivial, trivial, hg13, trivial, trivial, trivial, trivial, trivial, trivial, trivial, trivial, trivial, trivial⟩ ?_
            obtain ⟨q6, hq14, hx⟩ := bd hx
            refine Ev.callV (ν := m_R_look) (av := []) (rest := [vr 31 0 6]) (r1 := some (vi q6.1)) (h1 := q6.2) (ci := 12) (nn := 0) (o := 80) 40 0 tk_R_readWays rfl bb_R_look vv_R_look lk_12_144 (by decide) rfl rfl (Or.inl rfl) (Nat.le_of_ble_eq_true rfl) (s_R_look Γ (wI (wI h o1 (v2 + (v3 * v4)).toNatClampNeg v5) 80 10 (((wI h o1 (v2 + (v3 * v4)).toNatClampNeg v5).1 80 10) + (ii 1))) _ hq14) ?_
            show Ev Γ m_R_readWays 75 [some (vr 12 0 80), some (vr 20 n1 o1), some (vi v2), some (vi v3), some (vi (v4 + ii 1)), some (vi v5)] [vi q6.1, vr 31 0 6] q6.2 r h'
            obtain ⟨q7, hq15, hx⟩ := bd hx
            refine Ev.callS (ν := m_R_spotOf) (av := [vr 31 0 6, vi q6.1]) (rest := []) (r1 := some (vi q7)) (h1 := q6.2) 41 2 tk_R_readWays rfl bb_R_spotOf vv_R_spotOf lk_12_231 (by decide) rfl rfl (Nat.le_of_ble_eq_true rfl) (s_R_spotOf Γ 6 q6.1 q6.2 _ hq15) ?_
            show Ev Γ m_R_readWays 78 [some (vr 12 0 80), some (vr 20 n1 o1), some (vi v2), some (vi v3), some (vi (v4 + ii 1)), some (vi v5)] [vi q7] q6.2 r h'
            refine Ev.blk (pc' := 14) (lv' := [some (vr 12 0 80), some (vr 20 n1 o1), some (vi v2), some (vi v3), some (vi (v4 + ii 1)), some (vi q7)]) (st' := []) (h' := q6.2) 42 2 (Nat.le_of_ble_eq_true rfl) tk_R_readWays rfl rfl ⟨trivial, trivial, trivial⟩ ?_
            exact Ev.msk [true, true, true, true, true, true] (ih n1 o1 v2 v3 (v4 + ii 1) q7 q6.2 _ hx r h' hP)
          · replace hx := ip hc12 hx
            refine Ev.blk (pc' := 39) (lv' := [some (vr 12 0 80), some (vr 20 n1 o1), some (vi v2), some (vi v3), some (vi v4), some (vi v5)]) (st' := [vr 12 0 80]) (h' := h) 18 1 (Nat.le_of_ble_eq_true rfl) tk_R_readWays rfl rfl ⟨trivial, trivial⟩ ?_
            obtain ⟨q8, hq16, hx⟩ := bd hx
            refine Ev.callV (ν := m_R_fails) (av := []) (rest := []) (r1 := some (vi q8.1)) (h1 := q8.2) (ci := 12) (nn := 0) (o := 80) 19 0 tk_R_readWays rfl bb_R_fails vv_R_fails lk_12_140 (by decide) rfl rfl (Or.inl rfl) (Nat.le_of_ble_eq_true rfl) (s_R_fails Γ h _ hq16) ?_
            show Ev Γ m_R_readWays 42 [some (vr 12 0 80), some (vr 20 n1 o1), some (vi v2), some (vi v3), some (vi v4), some (vi v5)] [vi q8.1] q8.2 r h'
            refine Ev.blk (pc' := 45) (lv' := [some (vr 12 0 80), some (vr 20 n1 o1), some (vi v2), some (vi v3), some (vi v4), some (vi v5)]) (st' := [vi v4]) (h' := q8.2) 20 2 (Nat.le_of_ble_eq_true rfl) tk_R_readWays rfl rfl ⟨trivial, trivial, trivial⟩ ?_
            obtain rfl := Option.some.inj hx
            obtain ⟨rfl, rfl⟩ := hP
            exact Ev.iret 22 tk_R_readWays rfl rfl
set_option maxRecDepth 4000 in
theorem s_R_readWays (Γ : AG) (n1 : Nat) (o1 : Nat) (a2 : Int32) (a3 : Int32) (h : AH) (x : Int32 × AH) (hx : f_R_readWays n1 o1 a2 a3 h = some x) : MetA Γ m_R_readWays [vr 12 0 80, vr 20 n1 o1, vi a2, vi a3] h (some (vi x.1)) x.2 := by
  refine Ev.met rfl rfl (Nat.le_of_ble_eq_true rfl) ?_
  show Ev Γ m_R_readWays 0 [some (vr 12 0 80), some (vr 20 n1 o1), some (vi a2), some (vi a3), none, none] [] h _ _
  obtain ⟨r, hr⟩ : ∃ r : Option AV, r = some (vi x.1) := ⟨_, rfl⟩
  obtain ⟨h', hh⟩ : ∃ h' : AH, h' = x.2 := ⟨_, rfl⟩
  have hP : r = some (vi x.1) ∧ h' = x.2 := ⟨hr, hh⟩
  suffices hS : Ev Γ m_R_readWays 0 [some (vr 12 0 80), some (vr 20 n1 o1), some (vi a2), some (vi a3), none, none] [] h r h' by rw [hr, hh] at hS; exact hS
  clear hr hh
  unfold f_R_readWays at hx
  refine Ev.blk (pc' := 6) (lv' := [some (vr 12 0 80), some (vr 20 n1 o1), some (vi a2), some (vi a3), some (vi (ii 0)), none]) (st' := [vr 12 0 80, vr 31 0 6]) (h' := h) 0 4 (Nat.le_of_ble_eq_true rfl) tk_R_readWays rfl rfl ⟨trivial, trivial, trivial, trivial, trivial⟩ ?_
  obtain ⟨q1, hq1, hx⟩ := bd hx
  refine Ev.callV (ν := m_R_look) (av := []) (rest := [vr 31 0 6]) (r1 := some (vi q1.1)) (h1 := q1.2) (ci := 12) (nn := 0) (o := 80) 4 0 tk_R_readWays rfl bb_R_look vv_R_look lk_12_144 (by decide) rfl rfl (Or.inl rfl) (Nat.le_of_ble_eq_true rfl) (s_R_look Γ h _ hq1) ?_
  show Ev Γ m_R_readWays 9 [some (vr 12 0 80), some (vr 20 n1 o1), some (vi a2), some (vi a3), some (vi (ii 0)), none] [vi q1.1, vr 31 0 6] q1.2 r h'
  obtain ⟨q2, hq2, hx⟩ := bd hx
  refine Ev.callS (ν := m_R_spotOf) (av := [vr 31 0 6, vi q1.1]) (rest := []) (r1 := some (vi q2)) (h1 := q1.2) 5 2 tk_R_readWays rfl bb_R_spotOf vv_R_spotOf lk_12_231 (by decide) rfl rfl (Nat.le_of_ble_eq_true rfl) (s_R_spotOf Γ 6 q1.1 q1.2 _ hq2) ?_
  show Ev Γ m_R_readWays 12 [some (vr 12 0 80), some (vr 20 n1 o1), some (vi a2), some (vi a3), some (vi (ii 0)), none] [vi q2] q1.2 r h'
  refine Ev.blk (pc' := 14) (lv' := [some (vr 12 0 80), some (vr 20 n1 o1), some (vi a2), some (vi a3), some (vi (ii 0)), some (vi q2)]) (st' := []) (h' := q1.2) 6 1 (Nat.le_of_ble_eq_true rfl) tk_R_readWays rfl rfl ⟨trivial, trivial⟩ ?_
  refine Ev.msk [true, true, true, true, true, true] ?_
  show Ev Γ m_R_readWays 14 [some (vr 12 0 80), some (vr 20 n1 o1), some (vi a2), some (vi a3), some (vi (ii 0)), some (vi q2)] [] q1.2 r h'
  exact l_R_readWays_L14 Γ FU n1 o1 a2 a3 (ii 0) q2 q1.2 _ hx r h' hP
set_option maxRecDepth 4000 in
theorem s_R_readVein (Γ : AG) (h : AH) (x : AH) (hx : f_R_readVein  h = some x) : MetA Γ m_R_readVein [vr 12 0 80] h (none) x := by
  refine Ev.met rfl rfl (Nat.le_of_ble_eq_true rfl) ?_
  show Ev Γ m_R_readVein 0 [some (vr 12 0 80), none] [] h _ _
  obtain ⟨r, hr⟩ : ∃ r : Option AV, r = none := ⟨_, rfl⟩
  obtain ⟨h', hh⟩ : ∃ h' : AH, h' = x := ⟨_, rfl⟩
  have hP : r = none ∧ h' = x := ⟨hr, hh⟩
  suffices hS : Ev Γ m_R_readVein 0 [some (vr 12 0 80), none] [] h r h' by rw [hr, hh] at hS; exact hS
  clear hr hh
  unfold f_R_readVein at hx
  refine Ev.blk (pc' := 30) (lv' := [some (vr 12 0 80), some (vi ((ii 13) * (((wI h 80 35 ((h.1 80 35) + (ii 1))).1 80 35) - (ii 1))))]) (st' := [vr 31 0 2, vi ((ii 13) * (((wI h 80 35 ((h.1 80 35) + (ii 1))).1 80 35) - (ii 1))), vr 20 52 88, vi (ii 118), vr 12 0 80]) (h' := (wI h 80 35 ((h.1 80 35) + (ii 1)))) 0 19 (Nat.le_of_ble_eq_true rfl) tk_R_readVein rfl rfl ⟨trivial, trivial, trivial, trivial, trivial, trivial, trivial, trivial, trivial, trivial, trivial, trivial, trivial, trivial, trivial, trivial, trivial, trivial, trivial, trivial⟩ ?_
  obtain ⟨q1, hq1, hx⟩ := bd hx
  refine Ev.callV (ν := m_R_readItems) (av := [vi (ii 118), vr 20 52 88, vi ((ii 13) * (((wI h 80 35 ((h.1 80 35) + (ii 1))).1 80 35) - (ii 1))), vr 31 0 2]) (rest := []) (r1 := none) (h1 := q1) (ci := 12) (nn := 0) (o := 80) 19 4 tk_R_readVein rfl bb_R_readItems vv_R_readItems lk_12_255 (by decide) rfl rfl (Or.inl rfl) (Nat.le_of_ble_eq_true rfl) (s_R_readItems Γ (ii 118) 52 88 ((ii 13) * (((wI h 80 35 ((h.1 80 35) + (ii 1))).1 80 35) - (ii 1))) 2 (wI h 80 35 ((h.1 80 35) + (ii 1))) _ hq1) ?_
  show Ev Γ m_R_readVein 33 [some (vr 12 0 80), some (vi ((ii 13) * (((wI h 80 35 ((h.1 80 35) + (ii 1))).1 80 35) - (ii 1))))] [] q1 r h'
  obtain ⟨hg2, hx⟩ := gd hx
  refine Ev.blk (pc' := 47) (lv' := [some (vr 12 0 80), some (vi ((ii 13) * (((wI h 80 35 ((h.1 80 35) + (ii 1))).1 80 35) - (ii 1))))]) (st' := [vi (ii (-1)), vi ((wI q1 88 (((ii 13) * (((wI h 80 35 ((h.1 80 35) + (ii 1))).1 80 35) - (ii 1))) + (ii 3)).toNatClampNeg (ii 0)).1 80 11)]) (h' := (wI q1 88 (((ii 13) * (((wI h 80 35 ((h.1 80 35) + (ii 1))).1 80 35) - (ii 1))) + (ii 3)).toNatClampNeg (ii 0))) 20 10 (Nat.le_of_ble_eq_true rfl) tk_R_readVein rfl rfl ⟨trivial, trivial, trivial, trivial, trivial, trivial, hg2, trivial, trivial, trivial, trivial⟩ ?_
  refine Ev.icmp_ne 30 59 tk_R_readVein rfl (by decide) (fun hc3 => ?_) (fun hc3 => ?_)
  · replace hx := ia hc3 hx
    obtain rfl := Option.some.inj hx
    obtain ⟨rfl, rfl⟩ := hP
    exact Ev.vret 35 tk_R_readVein rfl rfl
  · replace hx := ip hc3 hx
    refine Ev.blk (pc' := 51) (lv' := [some (vr 12 0 80), some (vi ((ii 13) * (((wI h 80 35 ((h.1 80 35) + (ii 1))).1 80 35) - (ii 1))))]) (st' := [vr 12 0 80]) (h' := (wI q1 88 (((ii 13) * (((wI h 80 35 ((h.1 80 35) + (ii 1))).1 80 35) - (ii 1))) + (ii 3)).toNatClampNeg (ii 0))) 31 1 (Nat.le_of_ble_eq_true rfl) tk_R_readVein rfl rfl ⟨trivial, trivial⟩ ?_
    obtain ⟨q2, hq4, hx⟩ := bd hx
    refine Ev.callV (ν := m_R_look) (av := []) (rest := []) (r1 := some (vi q2.1)) (h1 := q2.2) (ci := 12) (nn := 0) (o := 80) 32 0 tk_R_readVein rfl bb_R_look vv_R_look lk_12_144 (by decide) rfl rfl (Or.inl rfl) (Nat.le_of_ble_eq_true rfl) (s_R_look Γ (wI q1 88 (((ii 13) * (((wI h 80 35 ((h.1 80 35) + (ii 1))).1 80 35) - (ii 1))) + (ii 3)).toNatClampNeg (ii 0)) _ hq4) ?_
    show Ev Γ m_R_readVein 54 [some (vr 12 0 80), some (vi ((ii 13) * (((wI h 80 35 ((h.1 80 35) + (ii 1))).1 80 35) - (ii 1))))] [vi q2.1] q2.2 r h'
    refine Ev.blk (pc' := 56) (lv' := [some (vr 12 0 80), some (vi ((ii 13) * (((wI h 80 35 ((h.1 80 35) + (ii 1))).1 80 35) - (ii 1))))]) (st' := [vi (ii 58), vi q2.1]) (h' := q2.2) 33 1 (Nat.le_of_ble_eq_true rfl) tk_R_readVein rfl rfl ⟨trivial, trivial⟩ ?_
    refine Ev.icmp_eq 34 60 tk_R_readVein rfl (by decide) (fun hc5 => ?_) (fun hc5 => ?_)
    · replace hx := ip hc5 hx
      refine Ev.blk (pc' := 86) (lv' := [some (vr 12 0 80), some (vi ((ii 13) * (((wI h 80 35 ((h.1 80 35) + (ii 1))).1 80 35) - (ii 1))))]) (st' := [vi (ii 1), vi (((ii 13) * (((wI h 80 35 ((h.1 80 35) + (ii 1))).1 80 35) - (ii 1))) + (ii 4)), vr 20 52 88, vr 12 0 80, vi (((ii 13) * (((wI h 80 35 ((h.1 80 35) + (ii 1))).1 80 35) - (ii 1))) + (ii 3)), vr 20 52 88]) (h' := (wI q2.2 80 10 ((q2.2.1 80 10) + (ii 1)))) 36 18 (Nat.le_of_ble_eq_true rfl) tk_R_readVein rfl rfl ⟨trivial, trivial, trivial, trivial, trivial, trivial, trivial, trivial, trivial, trivial, trivial, trivial, trivial, trivial, trivial, trivial, trivial, trivial, trivial⟩ ?_
      obtain ⟨q3, hq6, hx⟩ := bd hx
      refine Ev.callV (ν := m_R_readWays) (av := [vr 20 52 88, vi (((ii 13) * (((wI h 80 35 ((h.1 80 35) + (ii 1))).1 80 35) - (ii 1))) + (ii 4)), vi (ii 1)]) (rest := [vi (((ii 13) * (((wI h 80 35 ((h.1 80 35) + (ii 1))).1 80 35) - (ii 1))) + (ii 3)), vr 20 52 88]) (r1 := some (vi q3.1)) (h1 := q3.2) (ci := 12) (nn := 0) (o := 80) 54 3 tk_R_readVein rfl bb_R_readWays vv_R_readWays lk_12_259 (by decide) rfl rfl (Or.inl rfl) (Nat.le_of_ble_eq_true rfl) (s_R_readWays Γ 52 88 (((ii 13) * (((wI h 80 35 ((h.1 80 35) + (ii 1))).1 80 35) - (ii 1))) + (ii 4)) (ii 1) (wI q2.2 80 10 ((q2.2.1 80 10) + (ii 1))) _ hq6) ?_
      show Ev Γ m_R_readVein 89 [some (vr 12 0 80), some (vi ((ii 13) * (((wI h 80 35 ((h.1 80 35) + (ii 1))).1 80 35) - (ii 1))))] [vi q3.1, vi (((ii 13) * (((wI h 80 35 ((h.1 80 35) + (ii 1))).1 80 35) - (ii 1))) + (ii 3)), vr 20 52 88] q3.2 r h'
      obtain ⟨hg7, hx⟩ := gd hx
      refine Ev.blk (pc' := 90) (lv' := [some (vr 12 0 80), some (vi ((ii 13) * (((wI h 80 35 ((h.1 80 35) + (ii 1))).1 80 35) - (ii 1))))]) (st' := []) (h' := (wI q3.2 88 (((ii 13) * (((wI h 80 35 ((h.1 80 35) + (ii 1))).1 80 35) - (ii 1))) + (ii 3)).toNatClampNeg q3.1)) 55 1 (Nat.le_of_ble_eq_true rfl) tk_R_readVein rfl rfl ⟨hg7, trivial⟩ ?_
      obtain rfl := Option.some.inj hx
      obtain ⟨rfl, rfl⟩ := hP
      exact Ev.vret 56 tk_R_readVein rfl rfl
    · replace hx := ia hc5 hx
      obtain rfl := Option.some.inj hx
      obtain ⟨rfl, rfl⟩ := hP
      exact Ev.vret 35 tk_R_readVein rfl rfl
set_option maxRecDepth 4000 in
theorem s_R_readClause (Γ : AG) (h : AH) (x : AH) (hx : f_R_readClause  h = some x) : MetA Γ m_R_readClause [vr 12 0 80] h (none) x := by
  refine Ev.met rfl rfl (Nat.le_of_ble_eq_true rfl) ?_
  show Ev Γ m_R_readClause 0 [some (vr 12 0 80), none, none] [] h _ _
  obtain ⟨r, hr⟩ : ∃ r : Option AV, r = none := ⟨_, rfl⟩
  obtain ⟨h', hh⟩ : ∃ h' : AH, h' = x := ⟨_, rfl⟩
  have hP : r = none ∧ h' = x := ⟨hr, hh⟩
  suffices hS : Ev Γ m_R_readClause 0 [some (vr 12 0 80), none, none] [] h r h' by rw [hr, hh] at hS; exact hS
  clear hr hh
  unfold f_R_readClause at hx
  refine Ev.blk (pc' := 1) (lv' := [some (vr 12 0 80), none, none]) (st' := [vr 12 0 80]) (h' := h) 0 1 (Nat.le_of_ble_eq_true rfl) tk_R_readClause rfl rfl ⟨trivial, trivial⟩ ?_
  obtain ⟨q1, hq1, hx⟩ := bd hx
  refine Ev.callV (ν := m_R_look) (av := []) (rest := []) (r1 := some (vi q1.1)) (h1 := q1.2) (ci := 12) (nn := 0) (o := 80) 1 0 tk_R_readClause rfl bb_R_look vv_R_look lk_12_144 (by decide) rfl rfl (Or.inl rfl) (Nat.le_of_ble_eq_true rfl) (s_R_look Γ h _ hq1) ?_
  show Ev Γ m_R_readClause 4 [some (vr 12 0 80), none, none] [vi q1.1] q1.2 r h'
  refine Ev.blk (pc' := 8) (lv' := [some (vr 12 0 80), some (vi q1.1), none]) (st' := [vi (ii 115), vi q1.1]) (h' := q1.2) 2 3 (Nat.le_of_ble_eq_true rfl) tk_R_readClause rfl rfl ⟨trivial, trivial, trivial, trivial⟩ ?_
  have K2 : ∀ v2_0 : Int32, v2_0 = (if q1.1 = (ii 115) then (if (q1.2.1 80 40) = 0 then (ii 1) else (if q1.1 = (ii 118) then (if (q1.2.1 80 35) < (ii 4) then (ii 1) else (if q1.1 = (ii 105) then (if (q1.2.1 80 36) < (ii 6) then (ii 1) else (if q1.1 = (ii 107) then (if (q1.2.1 80 37) < (ii 6) then (ii 1) else (if q1.1 = (ii 102) then (if (ii 6) ≤ (q1.2.1 80 38) then (ii 0) else (ii 1)) else (ii 0))) else (if q1.1 = (ii 102) then (if (ii 6) ≤ (q1.2.1 80 38) then (ii 0) else (ii 1)) else (ii 0)))) else (if q1.1 = (ii 107) then (if (q1.2.1 80 37) < (ii 6) then (ii 1) else (if q1.1 = (ii 102) then (if (ii 6) ≤ (q1.2.1 80 38) then (ii 0) else (ii 1)) else (ii 0))) else (if q1.1 = (ii 102) then (if (ii 6) ≤ (q1.2.1 80 38) then (ii 0) else (ii 1)) else (ii 0))))) else (if q1.1 = (ii 105) then (if (q1.2.1 80 36) < (ii 6) then (ii 1) else (if q1.1 = (ii 107) then (if (q1.2.1 80 37) < (ii 6) then (ii 1) else (if q1.1 = (ii 102) then (if (ii 6) ≤ (q1.2.1 80 38) then (ii 0) else (ii 1)) else (ii 0))) else (if q1.1 = (ii 102) then (if (ii 6) ≤ (q1.2.1 80 38) then (ii 0) else (ii 1)) else (ii 0)))) else (if q1.1 = (ii 107) then (if (q1.2.1 80 37) < (ii 6) then (ii 1) else (if q1.1 = (ii 102) then (if (ii 6) ≤ (q1.2.1 80 38) then (ii 0) else (ii 1)) else (ii 0))) else (if q1.1 = (ii 102) then (if (ii 6) ≤ (q1.2.1 80 38) then (ii 0) else (ii 1)) else (ii 0)))))) else (if q1.1 = (ii 118) then (if (q1.2.1 80 35) < (ii 4) then (ii 1) else (if q1.1 = (ii 105) then (if (q1.2.1 80 36) < (ii 6) then (ii 1) else (if q1.1 = (ii 107) then (if (q1.2.1 80 37) < (ii 6) then (ii 1) else (if q1.1 = (ii 102) then (if (ii 6) ≤ (q1.2.1 80 38) then (ii 0) else (ii 1)) else (ii 0))) else (if q1.1 = (ii 102) then (if (ii 6) ≤ (q1.2.1 80 38) then (ii 0) else (ii 1)) else (ii 0)))) else (if q1.1 = (ii 107) then (if (q1.2.1 80 37) < (ii 6) then (ii 1) else (if q1.1 = (ii 102) then (if (ii 6) ≤ (q1.2.1 80 38) then (ii 0) else (ii 1)) else (ii 0))) else (if q1.1 = (ii 102) then (if (ii 6) ≤ (q1.2.1 80 38) then (ii 0) else (ii 1)) else (ii 0))))) else (if q1.1 = (ii 105) then (if (q1.2.1 80 36) < (ii 6) then (ii 1) else (if q1.1 = (ii 107) then (if (q1.2.1 80 37) < (ii 6) then (ii 1) else (if q1.1 = (ii 102) then (if (ii 6) ≤ (q1.2.1 80 38) then (ii 0) else (ii 1)) else (ii 0))) else (if q1.1 = (ii 102) then (if (ii 6) ≤ (q1.2.1 80 38) then (ii 0) else (ii 1)) else (ii 0)))) else (if q1.1 = (ii 107) then (if (q1.2.1 80 37) < (ii 6) then (ii 1) else (if q1.1 = (ii 102) then (if (ii 6) ≤ (q1.2.1 80 38) then (ii 0) else (ii 1)) else (ii 0))) else (if q1.1 = (ii 102) then (if (ii 6) ≤ (q1.2.1 80 38) then (ii 0) else (ii 1)) else (ii 0)))))) → Ev Γ m_R_readClause 82 [some (vr 12 0 80), some (vi q1.1), none] [vi v2_0] q1.2 r h' := by
    intro v2_0 e3
    subst e3
    refine Ev.blk (pc' := 84) (lv' := [some (vr 12 0 80), some (vi q1.1), some (vi (if q1.1 = (ii 115) then (if (q1.2.1 80 40) = 0 then (ii 1) else (if q1.1 = (ii 118) then (if (q1.2.1 80 35) < (ii 4) then (ii 1) else (if q1.1 = (ii 105) then (if (q1.2.1 80 36) < (ii 6) then (ii 1) else (if q1.1 = (ii 107) then (if (q1.2.1 80 37) < (ii 6) then (ii 1) else (if q1.1 = (ii 102) then (if (ii 6) ≤ (q1.2.1 80 38) then (ii 0) else (ii 1)) else (ii 0))) else (if q1.1 = (ii 102) then (if (ii 6) ≤ (q1.2.1 80 38) then (ii 0) else (ii 1)) else (ii 0)))) else (if q1.1 = (ii 107) then (if (q1.2.1 80 37) < (ii 6) then (ii 1) else (if q1.1 = (ii 102) then (if (ii 6) ≤ (q1.2.1 80 38) then (ii 0) else (ii 1)) else (ii 0))) else (if q1.1 = (ii 102) then (if (ii 6) ≤ (q1.2.1 80 38) then (ii 0) else (ii 1)) else (ii 0))))) else (if q1.1 = (ii 105) then (if (q1.2.1 80 36) < (ii 6) then (ii 1) else (if q1.1 = (ii 107) then (if (q1.2.1 80 37) < (ii 6) then (ii 1) else (if q1.1 = (ii 102) then (if (ii 6) ≤ (q1.2.1 80 38) then (ii 0) else (ii 1)) else (ii 0))) else (if q1.1 = (ii 102) then (if (ii 6) ≤ (q1.2.1 80 38) then (ii 0) else (ii 1)) else (ii 0)))) else (if q1.1 = (ii 107) then (if (q1.2.1 80 37) < (ii 6) then (ii 1) else (if q1.1 = (ii 102) then (if (ii 6) ≤ (q1.2.1 80 38) then (ii 0) else (ii 1)) else (ii 0))) else (if q1.1 = (ii 102) then (if (ii 6) ≤ (q1.2.1 80 38) then (ii 0) else (ii 1)) else (ii 0)))))) else (if q1.1 = (ii 118) then (if (q1.2.1 80 35) < (ii 4) then (ii 1) else (if q1.1 = (ii 105) then (if (q1.2.1 80 36) < (ii 6) then (ii 1) else (if q1.1 = (ii 107) then (if (q1.2.1 80 37) < (ii 6) then (ii 1) else (if q1.1 = (ii 102) then (if (ii 6) ≤ (q1.2.1 80 38) then (ii 0) else (ii 1)) else (ii 0))) else (if q1.1 = (ii 102) then (if (ii 6) ≤ (q1.2.1 80 38) then (ii 0) else (ii 1)) else (ii 0)))) else (if q1.1 = (ii 107) then (if (q1.2.1 80 37) < (ii 6) then (ii 1) else (if q1.1 = (ii 102) then (if (ii 6) ≤ (q1.2.1 80 38) then (ii 0) else (ii 1)) else (ii 0))) else (if q1.1 = (ii 102) then (if (ii 6) ≤ (q1.2.1 80 38) then (ii 0) else (ii 1)) else (ii 0))))) else (if q1.1 = (ii 105) then (if (q1.2.1 80 36) < (ii 6) then (ii 1) else (if q1.1 = (ii 107) then (if (q1.2.1 80 37) < (ii 6) then (ii 1) else (if q1.1 = (ii 102) then (if (ii 6) ≤ (q1.2.1 80 38) then (ii 0) else (ii 1)) else (ii 0))) else (if q1.1 = (ii 102) then (if (ii 6) ≤ (q1.2.1 80 38) then (ii 0) else (ii 1)) else (ii 0)))) else (if q1.1 = (ii 107) then (if (q1.2.1 80 37) < (ii 6) then (ii 1) else (if q1.1 = (ii 102) then (if (ii 6) ≤ (q1.2.1 80 38) then (ii 0) else (ii 1)) else (ii 0))) else (if q1.1 = (ii 102) then (if (ii 6) ≤ (q1.2.1 80 38) then (ii 0) else (ii 1)) else (ii 0)))))))]) (st' := [vi (if q1.1 = (ii 115) then (if (q1.2.1 80 40) = 0 then (ii 1) else (if q1.1 = (ii 118) then (if (q1.2.1 80 35) < (ii 4) then (ii 1) else (if q1.1 = (ii 105) then (if (q1.2.1 80 36) < (ii 6) then (ii 1) else (if q1.1 = (ii 107) then (if (q1.2.1 80 37) < (ii 6) then (ii 1) else (if q1.1 = (ii 102) then (if (ii 6) ≤ (q1.2.1 80 38) then (ii 0) else (ii 1)) else (ii 0))) else (if q1.1 = (ii 102) then (if (ii 6) ≤ (q1.2.1 80 38) then (ii 0) else (ii 1)) else (ii 0)))) else (if q1.1 = (ii 107) then (if (q1.2.1 80 37) < (ii 6) then (ii 1) else (if q1.1 = (ii 102) then (if (ii 6) ≤ (q1.2.1 80 38) then (ii 0) else (ii 1)) else (ii 0))) else (if q1.1 = (ii 102) then (if (ii 6) ≤ (q1.2.1 80 38) then (ii 0) else (ii 1)) else (ii 0))))) else (if q1.1 = (ii 105) then (if (q1.2.1 80 36) < (ii 6) then (ii 1) else (if q1.1 = (ii 107) then (if (q1.2.1 80 37) < (ii 6) then (ii 1) else (if q1.1 = (ii 102) then (if (ii 6) ≤ (q1.2.1 80 38) then (ii 0) else (ii 1)) else (ii 0))) else (if q1.1 = (ii 102) then (if (ii 6) ≤ (q1.2.1 80 38) then (ii 0) else (ii 1)) else (ii 0)))) else (if q1.1 = (ii 107) then (if (q1.2.1 80 37) < (ii 6) then (ii 1) else (if q1.1 = (ii 102) then (if (ii 6) ≤ (q1.2.1 80 38) then (ii 0) else (ii 1)) else (ii 0))) else (if q1.1 = (ii 102) then (if (ii 6) ≤ (q1.2.1 80 38) then (ii 0) else (ii 1)) else (ii 0)))))) else (if q1.1 = (ii 118) then (if (q1.2.1 80 35) < (ii 4) then (ii 1) else (if q1.1 = (ii 105) then (if (q1.2.1 80 36) < (ii 6) then (ii 1) else (if q1.1 = (ii 107) then (if (q1.2.1 80 37) < (ii 6) then (ii 1) else (if q1.1 = (ii 102) then (if (ii 6) ≤ (q1.2.1 80 38) then (ii 0) else (ii 1)) else (ii 0))) else (if q1.1 = (ii 102) then (if (ii 6) ≤ (q1.2.1 80 38) then (ii 0) else (ii 1)) else (ii 0)))) else (if q1.1 = (ii 107) then (if (q1.2.1 80 37) < (ii 6) then (ii 1) else (if q1.1 = (ii 102) then (if (ii 6) ≤ (q1.2.1 80 38) then (ii 0) else (ii 1)) else (ii 0))) else (if q1.1 = (ii 102) then (if (ii 6) ≤ (q1.2.1 80 38) then (ii 0) else (ii 1)) else (ii 0))))) else (if q1.1 = (ii 105) then (if (q1.2.1 80 36) < (ii 6) then (ii 1) else (if q1.1 = (ii 107) then (if (q1.2.1 80 37) < (ii 6) then (ii 1) else (if q1.1 = (ii 102) then (if (ii 6) ≤ (q1.2.1 80 38) then (ii 0) else (ii 1)) else (ii 0))) else (if q1.1 = (ii 102) then (if (ii 6) ≤ (q1.2.1 80 38) then (ii 0) else (ii 1)) else (ii 0)))) else (if q1.1 = (ii 107) then (if (q1.2.1 80 37) < (ii 6) then (ii 1) else (if q1.1 = (ii 102) then (if (ii 6) ≤ (q1.2.1 80 38) then (ii 0) else (ii 1)) else (ii 0))) else (if q1.1 = (ii 102) then (if (ii 6) ≤ (q1.2.1 80 38) then (ii 0) else (ii 1)) else (ii 0))))))]) (h' := q1.2) 40 2 (Nat.le_of_ble_eq_true rfl) tk_R_readClause rfl rfl ⟨trivial, trivial, trivial⟩ ?_
    refine Ev.if_ne 42 93 tk_R_readClause rfl (by decide) (fun hc4 => ?_) (fun hc4 => ?_)
    · replace hx := ia hc4 hx
      refine Ev.blk (pc' := 104) (lv' := [some (vr 12 0 80), some (vi q1.1), some (vi (if q1.1 = (ii 115) then (if (q1.2.1 80 40) = 0 then (ii 1) else (if q1.1 = (ii 118) then (if (q1.2.1 80 35) < (ii 4) then (ii 1) else (if q1.1 = (ii 105) then (if (q1.2.1 80 36) < (ii 6) then (ii 1) else (if q1.1 = (ii 107) then (if (q1.2.1 80 37) < (ii 6) then (ii 1) else (if q1.1 = (ii 102) then (if (ii 6) ≤ (q1.2.1 80 38) then (ii 0) else (ii 1)) else (ii 0))) else (if q1.1 = (ii 102) then (if (ii 6) ≤ (q1.2.1 80 38) then (ii 0) else (ii 1)) else (ii 0)))) else (if q1.1 = (ii 107) then (if (q1.2.1 80 37) < (ii 6) then (ii 1) else (if q1.1 = (ii 102) then (if (ii 6) ≤ (q1.2.1 80 38) then (ii 0) else (ii 1)) else (ii 0))) else (if q1.1 = (ii 102) then (if (ii 6) ≤ (q1.2.1 80 38) then (ii 0) else (ii 1)) else (ii 0))))) else (if q1.1 = (ii 105) then (if (q1.2.1 80 36) < (ii 6) then (ii 1) else (if q1.1 = (ii 107) then (if (q1.2.1 80 37) < (ii 6) then (ii 1) else (if q1.1 = (ii 102) then (if (ii 6) ≤ (q1.2.1 80 38) then (ii 0) else (ii 1)) else (ii 0))) else (if q1.1 = (ii 102) then (if (ii 6) ≤ (q1.2.1 80 38) then (ii 0) else (ii 1)) else (ii 0)))) else (if q1.1 = (ii 107) then (if (q1.2.1 80 37) < (ii 6) then (ii 1) else (if q1.1 = (ii 102) then (if (ii 6) ≤ (q1.2.1 80 38) then (ii 0) else (ii 1)) else (ii 0))) else (if q1.1 = (ii 102) then (if (ii 6) ≤ (q1.2.1 80 38) then (ii 0) else (ii 1)) else (ii 0)))))) else (if q1.1 = (ii 118) then (if (q1.2.1 80 35) < (ii 4) then (ii 1) else (if q1.1 = (ii 105) then (if (q1.2.1 80 36) < (ii 6) then (ii 1) else (if q1.1 = (ii 107) then (if (q1.2.1 80 37) < (ii 6) then (ii 1) else (if q1.1 = (ii 102) then (if (ii 6) ≤ (q1.2.1 80 38) then (ii 0) else (ii 1)) else (ii 0))) else (if q1.1 = (ii 102) then (if (ii 6) ≤ (q1.2.1 80 38) then (ii 0) else (ii 1)) else (ii 0)))) else (if q1.1 = (ii 107) then (if (q1.2.1 80 37) < (ii 6) then (ii 1) else (if q1.1 = (ii 102) then (if (ii 6) ≤ (q1.2.1 80 38) then (ii 0) else (ii 1)) else (ii 0))) else (if q1.1 = (ii 102) then (if (ii 6) ≤ (q1.2.1 80 38) then (ii 0) else (ii 1)) else (ii 0))))) else (if q1.1 = (ii 105) then (if (q1.2.1 80 36) < (ii 6) then (ii 1) else (if q1.1 = (ii 107) then (if (q1.2.1 80 37) < (ii 6) then (ii 1) else (if q1.1 = (ii 102) then (if (ii 6) ≤ (q1.2.1 80 38) then (ii 0) else (ii 1)) else (ii 0))) else (if q1.1 = (ii 102) then (if (ii 6) ≤ (q1.2.1 80 38) then (ii 0) else (ii 1)) else (ii 0)))) else (if q1.1 = (ii 107) then (if (q1.2.1 80 37) < (ii 6) then (ii 1) else (if q1.1 = (ii 102) then (if (ii 6) ≤ (q1.2.1 80 38) then (ii 0) else (ii 1)) else (ii 0))) else (if q1.1 = (ii 102) then (if (ii 6) ≤ (q1.2.1 80 38) then (ii 0) else (ii 1)) else (ii 0)))))))]) (st' := [vi q1.1]) (h' := (wI q1.2 80 10 ((q1.2.1 80 10) + (ii 1)))) 47 7 (Nat.le_of_ble_eq_true rfl) tk_R_readClause rfl rfl ⟨trivial, trivial, trivial, trivial, trivial, trivial, trivial, trivial⟩ ?_
      by_cases hc5 : q1.1 = ii 105
      · replace hx := ip hc5 hx
        refine Ev.look 54 176 tk_R_readClause rfl (by decide) (off := 72) (by rw [hc5]; decide) (by decide) ?_
        refine Ev.blk (pc' := 203) (lv' := [some (vr 12 0 80), some (vi q1.1), some (vi (if q1.1 = (ii 115) then (if (q1.2.1 80 40) = 0 then (ii 1) else (if q1.1 = (ii 118) then (if (q1.2.1 80 35) < (ii 4) then (ii 1) else (if q1.1 = (ii 105) then (if (q1.2.1 80 36) < (ii 6) then (ii 1) else (if q1.1 = (ii 107) then (if (q1.2.1 80 37) < (ii 6) then (ii 1) else (if q1.1 = (ii 102) then (if (ii 6) ≤ (q1.2.1 80 38) then (ii 0) else (ii 1)) else (ii 0))) else (if q1.1 = (ii 102) then (if (ii 6) ≤ (q1.2.1 80 38) then (ii 0) else (ii 1)) else (ii 0)))) else (if q1.1 = (ii 107) then (if (q1.2.1 80 37) < (ii 6) then (ii 1) else (if q1.1 = (ii 102) then (if (ii 6) ≤ (q1.2.1 80 38) then (ii 0) else (ii 1)) else (ii 0))) else (if q1.1 = (ii 102) then (if (ii 6) ≤ (q1.2.1 80 38) then (ii 0) else (ii 1)) else (ii 0))))) else (if q1.1 = (ii 105) then (if (q1.2.1 80 36) < (ii 6) then (ii 1) else (if q1.1 = (ii 107) then (if (q1.2.1 80 37) < (ii 6) then (ii 1) else (if q1.1 = (ii 102) then (if (ii 6) ≤ (q1.2.1 80 38) then (ii 0) else (ii 1)) else (ii 0))) else (if q1.1 = (ii 102) then (if (ii 6) ≤ (q1.2.1 80 38) then (ii 0) else (ii 1)) else (ii 0)))) else (if q1.1 = (ii 107) then (if (q1.2.1 80 37) < (ii 6) then (ii 1) else (if q1.1 = (ii 102) then (if (ii 6) ≤ (q1.2.1 80 38) then (ii 0) else (ii 1)) else (ii 0))) else (if q1.1 = (ii 102) then (if (ii 6) ≤ (q1.2.1 80 38) then (ii 0) else (ii 1)) else (ii 0)))))) else (if q1.1 = (ii 118) then (if (q1.2.1 80 35) < (ii 4) then (ii 1) else (if q1.1 = (ii 105) then (if (q1.2.1 80 36) < (ii 6) then (ii 1) else (if q1.1 = (ii 107) then (if (q1.2.1 80 37) < (ii 6) then (ii 1) else (if q1.1 = (ii 102) then (if (ii 6) ≤ (q1.2.1 80 38) then (ii 0) else (ii 1)) else (ii 0))) else (if q1.1 = (ii 102) then (if (ii 6) ≤ (q1.2.1 80 38) then (ii 0) else (ii 1)) else (ii 0)))) else (if q1.1 = (ii 107) then (if (q1.2.1 80 37) < (ii 6) then (ii 1) else (if q1.1 = (ii 102) then (if (ii 6) ≤ (q1.2.1 80 38) then (ii 0) else (ii 1)) else (ii 0))) else (if q1.1 = (ii 102) then (if (ii 6) ≤ (q1.2.1 80 38) then (ii 0) else (ii 1)) else (ii 0))))) else (if q1.1 = (ii 105) then (if (q1.2.1 80 36) < (ii 6) then (ii 1) else (if q1.1 = (ii 107) then (if (q1.2.1 80 37) < (ii 6) then (ii 1) else (if q1.1 = (ii 102) then (if (ii 6) ≤ (q1.2.1 80 38) then (ii 0) else (ii 1)) else (ii 0))) else (if q1.1 = (ii 102) then (if (ii 6) ≤ (q1.2.1 80 38) then (ii 0) else (ii 1)) else (ii 0)))) else (if q1.1 = (ii 107) then (if (q1.2.1 80 37) < (ii 6) then (ii 1) else (if q1.1 = (ii 102) then (if (ii 6) ≤ (q1.2.1 80 38) then (ii 0) else (ii 1)) else (ii 0))) else (if q1.1 = (ii 102) then (if (ii 6) ≤ (q1.2.1 80 38) then (ii 0) else (ii 1)) else (ii 0)))))))]) (st' := [vr 31 0 3, vi ((ii 2) * (((wI (wI q1.2 80 10 ((q1.2.1 80 10) + (ii 1))) 80 36 (((wI q1.2 80 10 ((q1.2.1 80 10) + (ii 1))).1 80 36) + (ii 1))).1 80 36) - (ii 1))), vr 20 12 90, vi q1.1, vr 12 0 80]) (h' := (wI (wI q1.2 80 10 ((q1.2.1 80 10) + (ii 1))) 80 36 (((wI q1.2 80 10 ((q1.2.1 80 10) + (ii 1))).1 80 36) + (ii 1)))) 69 17 (Nat.le_of_ble_eq_true rfl) tk_R_readClause rfl rfl ⟨trivial, trivial, trivial, trivial, trivial, trivial, trivial, trivial, trivial, trivial, trivial, trivial, trivial, trivial, trivial, trivial, trivial, trivial⟩ ?_
        obtain ⟨q2, hq6, hx⟩ := bd hx
        refine Ev.callV (ν := m_R_readItems) (av := [vi q1.1, vr 20 12 90, vi ((ii 2) * (((wI (wI q1.2 80 10 ((q1.2.1 80 10) + (ii 1))) 80 36 (((wI q1.2 80 10 ((q1.2.1 80 10) + (ii 1))).1 80 36) + (ii 1))).1 80 36) - (ii 1))), vr 31 0 3]) (rest := []) (r1 := none) (h1 := q2) (ci := 12) (nn := 0) (o := 80) 86 4 tk_R_readClause rfl bb_R_readItems vv_R_readItems lk_12_255 (by decide) rfl rfl (Or.inl rfl) (Nat.le_of_ble_eq_true rfl) (s_R_readItems Γ q1.1 12 90 ((ii 2) * (((wI (wI q1.2 80 10 ((q1.2.1 80 10) + (ii 1))) 80 36 (((wI q1.2 80 10 ((q1.2.1 80 10) + (ii 1))).1 80 36) + (ii 1))).1 80 36) - (ii 1))) 3 (wI (wI q1.2 80 10 ((q1.2.1 80 10) + (ii 1))) 80 36 (((wI q1.2 80 10 ((q1.2.1 80 10) + (ii 1))).1 80 36) + (ii 1))) _ hq6) ?_
        show Ev Γ m_R_readClause 206 [some (vr 12 0 80), some (vi q1.1), some (vi (if q1.1 = (ii 115) then (if (q1.2.1 80 40) = 0 then (ii 1) else (if q1.1 = (ii 118) then (if (q1.2.1 80 35) < (ii 4) then (ii 1) else (if q1.1 = (ii 105) then (if (q1.2.1 80 36) < (ii 6) then (ii 1) else (if q1.1 = (ii 107) then (if (q1.2.1 80 37) < (ii 6) then (ii 1) else (if q1.1 = (ii 102) then (if (ii 6) ≤ (q1.2.1 80 38) then (ii 0) else (ii 1)) else (ii 0))) else (if q1.1 = (ii 102) then (if (ii 6) ≤ (q1.2.1 80 38) then (ii 0) else (ii 1)) else (ii 0)))) else (if q1.1 = (ii 107) then (if (q1.2.1 80 37) < (ii 6) then (ii 1) else (if q1.1 = (ii 102) then (if (ii 6) ≤ (q1.2.1 80 38) then (ii 0) else (ii 1)) else (ii 0))) else (if q1.1 = (ii 102) then (if (ii 6) ≤ (q1.2.1 80 38) then (ii 0) else (ii 1)) else (ii 0))))) else (if q1.1 = (ii 105) then (if (q1.2.1 80 36) < (ii 6) then (ii 1) else (if q1.1 = (ii 107) then (if (q1.2.1 80 37) < (ii 6) then (ii 1) else (if q1.1 = (ii 102) then (if (ii 6) ≤ (q1.2.1 80 38) then (ii 0) else (ii 1)) else (ii 0))) else (if q1.1 = (ii 102) then (if (ii 6) ≤ (q1.2.1 80 38) then (ii 0) else (ii 1)) else (ii 0)))) else (if q1.1 = (ii 107) then (if (q1.2.1 80 37) < (ii 6) then (ii 1) else (if q1.1 = (ii 102) then (if (ii 6) ≤ (q1.2.1 80 38) then (ii 0) else (ii 1)) else (ii 0))) else (if q1.1 = (ii 102) then (if (ii 6) ≤ (q1.2.1 80 38) then (ii 0) else (ii 1)) else (ii 0)))))) else (if q1.1 = (ii 118) then (if (q1.2.1 80 35) < (ii 4) then (ii 1) else (if q1.1 = (ii 105) then (if (q1.2.1 80 36) < (ii 6) then (ii 1) else (if q1.1 = (ii 107) then (if (q1.2.1 80 37) < (ii 6) then (ii 1) else (if q1.1 = (ii 102) then (if (ii 6) ≤ (q1.2.1 80 38) then (ii 0) else (ii 1)) else (ii 0))) else (if q1.1 = (ii 102) then (if (ii 6) ≤ (q1.2.1 80 38) then (ii 0) else (ii 1)) else (ii 0)))) else (if q1.1 = (ii 107) then (if (q1.2.1 80 37) < (ii 6) then (ii 1) else (if q1.1 = (ii 102) then (if (ii 6) ≤ (q1.2.1 80 38) then (ii 0) else (ii 1)) else (ii 0))) else (if q1.1 = (ii 102) then (if (ii 6) ≤ (q1.2.1 80 38) then (ii 0) else (ii 1)) else (ii 0))))) else (if q1.1 = (ii 105) then (if (q1.2.1 80 36) < (ii 6) then (ii 1) else (if q1.1 = (ii 107) then (if (q1.2.1 80 37) < (ii 6) then (ii 1) else (if q1.1 = (ii 102) then (if (ii 6) ≤ (q1.2.1 80 38) then (ii 0) else (ii 1)) else (ii 0))) else (if q1.1 = (ii 102) then (if (ii 6) ≤ (q1.2.1 80 38) then (ii 0) else (ii 1)) else (ii 0)))) else (if q1.1 = (ii 107) then (if (q1.2.1 80 37) < (ii 6) then (ii 1) else (if q1.1 = (ii 102) then (if (ii 6) ≤ (q1.2.1 80 38) then (ii 0) else (ii 1)) else (ii 0))) else (if q1.1 = (ii 102) then (if (ii 6) ≤ (q1.2.1 80 38) then (ii 0) else (ii 1)) else (ii 0)))))))] [] q2 r h'
        refine Ev.blk (pc' := 273) (lv' := [some (vr 12 0 80), some (vi q1.1), some (vi (if q1.1 = (ii 115) then (if (q1.2.1 80 40) = 0 then (ii 1) else (if q1.1 = (ii 118) then (if (q1.2.1 80 35) < (ii 4) then (ii 1) else (if q1.1 = (ii 105) then (if (q1.2.1 80 36) < (ii 6) then (ii 1) else (if q1.1 = (ii 107) then (if (q1.2.1 80 37) < (ii 6) then (ii 1) else (if q1.1 = (ii 102) then (if (ii 6) ≤ (q1.2.1 80 38) then (ii 0) else (ii 1)) else (ii 0))) else (if q1.1 = (ii 102) then (if (ii 6) ≤ (q1.2.1 80 38) then (ii 0) else (ii 1)) else (ii 0)))) else (if q1.1 = (ii 107) then (if (q1.2.1 80 37) < (ii 6) then (ii 1) else (if q1.1 = (ii 102) then (if (ii 6) ≤ (q1.2.1 80 38) then (ii 0) else (ii 1)) else (ii 0))) else (if q1.1 = (ii 102) then (if (ii 6) ≤ (q1.2.1 80 38) then (ii 0) else (ii 1)) else (ii 0))))) else (if q1.1 = (ii 105) then (if (q1.2.1 80 36) < (ii 6) then (ii 1) else (if q1.1 = (ii 107) then (if (q1.2.1 80 37) < (ii 6) then (ii 1) else (if q1.1 = (ii 102) then (if (ii 6) ≤ (q1.2.1 80 38) then (ii 0) else (ii 1)) else (ii 0))) else (if q1.1 = (ii 102) then (if (ii 6) ≤ (q1.2.1 80 38) then (ii 0) else (ii 1)) else (ii 0)))) else (if q1.1 = (ii 107) then (if (q1.2.1 80 37) < (ii 6) then (ii 1) else (if q1.1 = (ii 102) then (if (ii 6) ≤ (q1.2.1 80 38) then (ii 0) else (ii 1)) else (ii 0))) else (if q1.1 = (ii 102) then (if (ii 6) ≤ (q1.2.1 80 38) then (ii 0) else (ii 1)) else (ii 0)))))) else (if q1.1 = (ii 118) then (if (q1.2.1 80 35) < (ii 4) then (ii 1) else (if q1.1 = (ii 105) then (if (q1.2.1 80 36) < (ii 6) then (ii 1) else (if q1.1 = (ii 107) then (if (q1.2.1 80 37) < (ii 6) then (ii 1) else (if q1.1 = (ii 102) then (if (ii 6) ≤ (q1.2.1 80 38) then (ii 0) else (ii 1)) else (ii 0))) else (if q1.1 = (ii 102) then (if (ii 6) ≤ (q1.2.1 80 38) then (ii 0) else (ii 1)) else (ii 0)))) else (if q1.1 = (ii 107) then (if (q1.2.1 80 37) < (ii 6) then (ii 1) else (if q1.1 = (ii 102) then (if (ii 6) ≤ (q1.2.1 80 38) then (ii 0) else (ii 1)) else (ii 0))) else (if q1.1 = (ii 102) then (if (ii 6) ≤ (q1.2.1 80 38) then (ii 0) else (ii 1)) else (ii 0))))) else (if q1.1 = (ii 105) then (if (q1.2.1 80 36) < (ii 6) then (ii 1) else (if q1.1 = (ii 107) then (if (q1.2.1 80 37) < (ii 6) then (ii 1) else (if q1.1 = (ii 102) then (if (ii 6) ≤ (q1.2.1 80 38) then (ii 0) else (ii 1)) else (ii 0))) else (if q1.1 = (ii 102) then (if (ii 6) ≤ (q1.2.1 80 38) then (ii 0) else (ii 1)) else (ii 0)))) else (if q1.1 = (ii 107) then (if (q1.2.1 80 37) < (ii 6) then (ii 1) else (if q1.1 = (ii 102) then (if (ii 6) ≤ (q1.2.1 80 38) then (ii 0) else (ii 1)) else (ii 0))) else (if q1.1 = (ii 102) then (if (ii 6) ≤ (q1.2.1 80 38) then (ii 0) else (ii 1)) else (ii 0)))))))]) (st' := []) (h' := q2) 87 1 (Nat.le_of_ble_eq_true rfl) tk_R_readClause rfl rfl ⟨trivial, trivial⟩ ?_
        obtain rfl := Option.some.inj hx
        obtain ⟨rfl, rfl⟩ := hP
        exact Ev.vret 125 tk_R_readClause rfl rfl
      replace hx := ia hc5 hx
      by_cases hc7 : q1.1 = ii 107
      · replace hx := ip hc7 hx
        refine Ev.look 54 209 tk_R_readClause rfl (by decide) (off := 105) (by rw [hc7]; decide) (by decide) ?_
        refine Ev.blk (pc' := 236) (lv' := [some (vr 12 0 80), some (vi q1.1), some (vi (if q1.1 = (ii 115) then (if (q1.2.1 80 40) = 0 then (ii 1) else (if q1.1 = (ii 118) then (if (q1.2.1 80 35) < (ii 4) then (ii 1) else (if q1.1 = (ii 105) then (if (q1.2.1 80 36) < (ii 6) then (ii 1) else (if q1.1 = (ii 107) then (if (q1.2.1 80 37) < (ii 6) then (ii 1) else (if q1.1 = (ii 102) then (if (ii 6) ≤ (q1.2.1 80 38) then (ii 0) else (ii 1)) else (ii 0))) else (if q1.1 = (ii 102) then (if (ii 6) ≤ (q1.2.1 80 38) then (ii 0) else (ii 1)) else (ii 0)))) else (if q1.1 = (ii 107) then (if (q1.2.1 80 37) < (ii 6) then (ii 1) else (if q1.1 = (ii 102) then (if (ii 6) ≤ (q1.2.1 80 38) then (ii 0) else (ii 1)) else (ii 0))) else (if q1.1 = (ii 102) then (if (ii 6) ≤ (q1.2.1 80 38) then (ii 0) else (ii 1)) else (ii 0))))) else (if q1.1 = (ii 105) then (if (q1.2.1 80 36) < (ii 6) then (ii 1) else (if q1.1 = (ii 107) then (if (q1.2.1 80 37) < (ii 6) then (ii 1) else (if q1.1 = (ii 102) then (if (ii 6) ≤ (q1.2.1 80 38) then (ii 0) else (ii 1)) else (ii 0))) else (if q1.1 = (ii 102) then (if (ii 6) ≤ (q1.2.1 80 38) then (ii 0) else (ii 1)) else (ii 0)))) else (if q1.1 = (ii 107) then (if (q1.2.1 80 37) < (ii 6) then (ii 1) else (if q1.1 = (ii 102) then (if (ii 6) ≤ (q1.2.1 80 38) then (ii 0) else (ii 1)) else (ii 0))) else (if q1.1 = (ii 102) then (if (ii 6) ≤ (q1.2.1 80 38) then (ii 0) else (ii 1)) else (ii 0)))))) else (if q1.1 = (ii 118) then (if (q1.2.1 80 35) < (ii 4) then (ii 1) else (if q1.1 = (ii 105) then (if (q1.2.1 80 36) < (ii 6) then (ii 1) else (if q1.1 = (ii 107) then (if (q1.2.1 80 37) < (ii 6) then (ii 1) else (if q1.1 = (ii 102) then (if (ii 6) ≤ (q1.2.1 80 38) then (ii 0) else (ii 1)) else (ii 0))) else (if q1.1 = (ii 102) then (if (ii 6) ≤ (q1.2.1 80 38) then (ii 0) else (ii 1)) else (ii 0)))) else (if q1.1 = (ii 107) then (if (q1.2.1 80 37) < (ii 6) then (ii 1) else (if q1.1 = (ii 102) then (if (ii 6) ≤ (q1.2.1 80 38) then (ii 0) else (ii 1)) else (ii 0))) else (if q1.1 = (ii 102) then (if (ii 6) ≤ (q1.2.1 80 38) then (ii 0) else (ii 1)) else (ii 0))))) else (if q1.1 = (ii 105) then (if (q1.2.1 80 36) < (ii 6) then (ii 1) else (if q1.1 = (ii 107) then (if (q1.2.1 80 37) < (ii 6) then (ii 1) else (if q1.1 = (ii 102) then (if (ii 6) ≤ (q1.2.1 80 38) then (ii 0) else (ii 1)) else (ii 0))) else (if q1.1 = (ii 102) then (if (ii 6) ≤ (q1.2.1 80 38) then (ii 0) else (ii 1)) else (ii 0)))) else (if q1.1 = (ii 107) then (if (q1.2.1 80 37) < (ii 6) then (ii 1) else (if q1.1 = (ii 102) then (if (ii 6) ≤ (q1.2.1 80 38) then (ii 0) else (ii 1)) else (ii 0))) else (if q1.1 = (ii 102) then (if (ii 6) ≤ (q1.2.1 80 38) then (ii 0) else (ii 1)) else (ii 0)))))))]) (st' := [vr 31 0 4, vi ((ii 2) * (((wI (wI q1.2 80 10 ((q1.2.1 80 10) + (ii 1))) 80 37 (((wI q1.2 80 10 ((q1.2.1 80 10) + (ii 1))).1 80 37) + (ii 1))).1 80 37) - (ii 1))), vr 20 12 92, vi q1.1, vr 12 0 80]) (h' := (wI (wI q1.2 80 10 ((q1.2.1 80 10) + (ii 1))) 80 37 (((wI q1.2 80 10 ((q1.2.1 80 10) + (ii 1))).1 80 37) + (ii 1)))) 88 17 (Nat.le_of_ble_eq_true rfl) tk_R_readClause rfl rfl ⟨trivial, trivial, trivial, trivial, trivial, trivial, trivial, trivial, trivial, trivial, trivial, trivial, trivial, trivial, trivial, trivial, trivial, trivial⟩ ?_
        obtain ⟨q3, hq8, hx⟩ := bd hx
        refine Ev.callV (ν := m_R_readItems) (av := [vi q1.1, vr 20 12 92, vi ((ii 2) * (((wI (wI q1.2 80 10 ((q1.2.1 80 10) + (ii 1))) 80 37 (((wI q1.2 80 10 ((q1.2.1 80 10) + (ii 1))).1 80 37) + (ii 1))).1 80 37) - (ii 1))), vr 31 0 4]) (rest := []) (r1 := none) (h1 := q3) (ci := 12) (nn := 0) (o := 80) 105 4 tk_R_readClause rfl bb_R_readItems vv_R_readItems lk_12_255 (by decide) rfl rfl (Or.inl rfl) (Nat.le_of_ble_eq_true rfl) (s_R_readItems Γ q1.1 12 92 ((ii 2) * (((wI (wI q1.2 80 10 ((q1.2.1 80 10) + (ii 1))) 80 37 (((wI q1.2 80 10 ((q1.2.1 80 10) + (ii 1))).1 80 37) + (ii 1))).1 80 37) - (ii 1))) 4 (wI (wI q1.2 80 10 ((q1.2.1 80 10) + (ii 1))) 80 37 (((wI q1.2 80 10 ((q1.2.1 80 10) + (ii 1))).1 80 37) + (ii 1))) _ hq8) ?_
        show Ev Γ m_R_readClause 239 [some (vr 12 0 80), some (vi q1.1), some (vi (if q1.1 = (ii 115) then (if (q1.2.1 80 40) = 0 then (ii 1) else (if q1.1 = (ii 118) then (if (q1.2.1 80 35) < (ii 4) then (ii 1) else (if q1.1 = (ii 105) then (if (q1.2.1 80 36) < (ii 6) then (ii 1) else (if q1.1 = (ii 107) then (if (q1.2.1 80 37) < (ii 6) then (ii 1) else (if q1.1 = (ii 102) then (if (ii 6) ≤ (q1.2.1 80 38) then (ii 0) else (ii 1)) else (ii 0))) else (if q1.1 = (ii 102) then (if (ii 6) ≤ (q1.2.1 80 38) then (ii 0) else (ii 1)) else (ii 0)))) else (if q1.1 = (ii 107) then (if (q1.2.1 80 37) < (ii 6) then (ii 1) else (if q1.1 = (ii 102) then (if (ii 6) ≤ (q1.2.1 80 38) then (ii 0) else (ii 1)) else (ii 0))) else (if q1.1 = (ii 102) then (if (ii 6) ≤ (q1.2.1 80 38) then (ii 0) else (ii 1)) else (ii 0))))) else (if q1.1 = (ii 105) then (if (q1.2.1 80 36) < (ii 6) then (ii 1) else (if q1.1 = (ii 107) then (if (q1.2.1 80 37) < (ii 6) then (ii 1) else (if q1.1 = (ii 102) then (if (ii 6) ≤ (q1.2.1 80 38) then (ii 0) else (ii 1)) else (ii 0))) else (if q1.1 = (ii 102) then (if (ii 6) ≤ (q1.2.1 80 38) then (ii 0) else (ii 1)) else (ii 0)))) else (if q1.1 = (ii 107) then (if (q1.2.1 80 37) < (ii 6) then (ii 1) else (if q1.1 = (ii 102) then (if (ii 6) ≤ (q1.2.1 80 38) then (ii 0) else (ii 1)) else (ii 0))) else (if q1.1 = (ii 102) then (if (ii 6) ≤ (q1.2.1 80 38) then (ii 0) else (ii 1)) else (ii 0)))))) else (if q1.1 = (ii 118) then (if (q1.2.1 80 35) < (ii 4) then (ii 1) else (if q1.1 = (ii 105) then (if (q1.2.1 80 36) < (ii 6) then (ii 1) else (if q1.1 = (ii 107) then (if (q1.2.1 80 37) < (ii 6) then (ii 1) else (if q1.1 = (ii 102) then (if (ii 6) ≤ (q1.2.1 80 38) then (ii 0) else (ii 1)) else (ii 0))) else (if q1.1 = (ii 102) then (if (ii 6) ≤ (q1.2.1 80 38) then (ii 0) else (ii 1)) else (ii 0)))) else (if q1.1 = (ii 107) then (if (q1.2.1 80 37) < (ii 6) then (ii 1) else (if q1.1 = (ii 102) then (if (ii 6) ≤ (q1.2.1 80 38) then (ii 0) else (ii 1)) else (ii 0))) else (if q1.1 = (ii 102) then (if (ii 6) ≤ (q1.2.1 80 38) then (ii 0) else (ii 1)) else (ii 0))))) else (if q1.1 = (ii 105) then (if (q1.2.1 80 36) < (ii 6) then (ii 1) else (if q1.1 = (ii 107) then (if (q1.2.1 80 37) < (ii 6) then (ii 1) else (if q1.1 = (ii 102) then (if (ii 6) ≤ (q1.2.1 80 38) then (ii 0) else (ii 1)) else (ii 0))) else (if q1.1 = (ii 102) then (if (ii 6) ≤ (q1.2.1 80 38) then (ii 0) else (ii 1)) else (ii 0)))) else (if q1.1 = (ii 107) then (if (q1.2.1 80 37) < (ii 6) then (ii 1) else (if q1.1 = (ii 102) then (if (ii 6) ≤ (q1.2.1 80 38) then (ii 0) else (ii 1)) else (ii 0))) else (if q1.1 = (ii 102) then (if (ii 6) ≤ (q1.2.1 80 38) then (ii 0) else (ii 1)) else (ii 0)))))))] [] q3 r h'
        refine Ev.blk (pc' := 273) (lv' := [some (vr 12 0 80), some (vi q1.1), some (vi (if q1.1 = (ii 115) then (if (q1.2.1 80 40) = 0 then (ii 1) else (if q1.1 = (ii 118) then (if (q1.2.1 80 35) < (ii 4) then (ii 1) else (if q1.1 = (ii 105) then (if (q1.2.1 80 36) < (ii 6) then (ii 1) else (if q1.1 = (ii 107) then (if (q1.2.1 80 37) < (ii 6) then (ii 1) else (if q1.1 = (ii 102) then (if (ii 6) ≤ (q1.2.1 80 38) then (ii 0) else (ii 1)) else (ii 0))) else (if q1.1 = (ii 102) then (if (ii 6) ≤ (q1.2.1 80 38) then (ii 0) else (ii 1)) else (ii 0)))) else (if q1.1 = (ii 107) then (if (q1.2.1 80 37) < (ii 6) then (ii 1) else (if q1.1 = (ii 102) then (if (ii 6) ≤ (q1.2.1 80 38) then (ii 0) else (ii 1)) else (ii 0))) else (if q1.1 = (ii 102) then (if (ii 6) ≤ (q1.2.1 80 38) then (ii 0) else (ii 1)) else (ii 0))))) else (if q1.1 = (ii 105) then (if (q1.2.1 80 36) < (ii 6) then (ii 1) else (if q1.1 = (ii 107) then (if (q1.2.1 80 37) < (ii 6) then (ii 1) else (if q1.1 = (ii 102) then (if (ii 6) ≤ (q1.2.1 80 38) then (ii 0) else (ii 1)) else (ii 0))) else (if q1.1 = (ii 102) then (if (ii 6) ≤ (q1.2.1 80 38) then (ii 0) else (ii 1)) else (ii 0)))) else (if q1.1 = (ii 107) then (if (q1.2.1 80 37) < (ii 6) then (ii 1) else (if q1.1 = (ii 102) then (if (ii 6) ≤ (q1.2.1 80 38) then (ii 0) else (ii 1)) else (ii 0))) else (if q1.1 = (ii 102) then (if (ii 6) ≤ (q1.2.1 80 38) then (ii 0) else (ii 1)) else (ii 0)))))) else (if q1.1 = (ii 118) then (if (q1.2.1 80 35) < (ii 4) then (ii 1) else (if q1.1 = (ii 105) then (if (q1.2.1 80 36) < (ii 6) then (ii 1) else (if q1.1 = (ii 107) then (if (q1.2.1 80 37) < (ii 6) then (ii 1) else (if q1.1 = (ii 102) then (if (ii 6) ≤ (q1.2.1 80 38) then (ii 0) else (ii 1)) else (ii 0))) else (if q1.1 = (ii 102) then (if (ii 6) ≤ (q1.2.1 80 38) then (ii 0) else (ii 1)) else (ii 0)))) else (if q1.1 = (ii 107) then (if (q1.2.1 80 37) < (ii 6) then (ii 1) else (if q1.1 = (ii 102) then (if (ii 6) ≤ (q1.2.1 80 38) then (ii 0) else (ii 1)) else (ii 0))) else (if q1.1 = (ii 102) then (if (ii 6) ≤ (q1.2.1 80 38) then (ii 0) else (ii 1)) else (ii 0))))) else (if q1.1 = (ii 105) then (if (q1.2.1 80 36) < (ii 6) then (ii 1) else (if q1.1 = (ii 107) then (if (q1.2.1 80 37) < (ii 6) then (ii 1) else (if q1.1 = (ii 102) then (if (ii 6) ≤ (q1.2.1 80 38) then (ii 0) else (ii 1)) else (ii 0))) else (if q1.1 = (ii 102) then (if (ii 6) ≤ (q1.2.1 80 38) then (ii 0) else (ii 1)) else (ii 0)))) else (if q1.1 = (ii 107) then (if (q1.2.1 80 37) < (ii 6) then (ii 1) else (if q1.1 = (ii 102) then (if (ii 6) ≤ (q1.2.1 80 38) then (ii 0) else (ii 1)) else (ii 0))) else (if q1.1 = (ii 102) then (if (ii 6) ≤ (q1.2.1 80 38) then (ii 0) else (ii 1)) else (ii 0)))))))]) (st' := []) (h' := q3) 106 1 (Nat.le_of_ble_eq_true rfl) tk_R_readClause rfl rfl ⟨trivial, trivial⟩ ?_
        obtain rfl := Option.some.inj hx
        obtain ⟨rfl, rfl⟩ := hP
        exact Ev.vret 125 tk_R_readClause rfl rfl
      replace hx := ia hc7 hx
      by_cases hc9 : q1.1 = ii 115
      · replace hx := ip hc9 hx
        refine Ev.look 54 148 tk_R_readClause rfl (by decide) (off := 44) (by rw [hc9]; decide) (by decide) ?_
        refine Ev.blk (pc' := 163) (lv' := [some (vr 12 0 80), some (vi q1.1), some (vi (if q1.1 = (ii 115) then (if (q1.2.1 80 40) = 0 then (ii 1) else (if q1.1 = (ii 118) then (if (q1.2.1 80 35) < (ii 4) then (ii 1) else (if q1.1 = (ii 105) then (if (q1.2.1 80 36) < (ii 6) then (ii 1) else (if q1.1 = (ii 107) then (if (q1.2.1 80 37) < (ii 6) then (ii 1) else (if q1.1 = (ii 102) then (if (ii 6) ≤ (q1.2.1 80 38) then (ii 0) else (ii 1)) else (ii 0))) else (if q1.1 = (ii 102) then (if (ii 6) ≤ (q1.2.1 80 38) then (ii 0) else (ii 1)) else (ii 0)))) else (if q1.1 = (ii 107) then (if (q1.2.1 80 37) < (ii 6) then (ii 1) else (if q1.1 = (ii 102) then (if (ii 6) ≤ (q1.2.1 80 38) then (ii 0) else (ii 1)) else (ii 0))) else (if q1.1 = (ii 102) then (if (ii 6) ≤ (q1.2.1 80 38) then (ii 0) else (ii 1)) else (ii 0))))) else (if q1.1 = (ii 105) then (if (q1.2.1 80 36) < (ii 6) then (ii 1) else (if q1.1 = (ii 107) then (if (q1.2.1 80 37) < (ii 6) then (ii 1) else (if q1.1 = (ii 102) then (if (ii 6) ≤ (q1.2.1 80 38) then (ii 0) else (ii 1)) else (ii 0))) else (if q1.1 = (ii 102) then (if (ii 6) ≤ (q1.2.1 80 38) then (ii 0) else (ii 1)) else (ii 0)))) else (if q1.1 = (ii 107) then (if (q1.2.1 80 37) < (ii 6) then (ii 1) else (if q1.1 = (ii 102) then (if (ii 6) ≤ (q1.2.1 80 38) then (ii 0) else (ii 1)) else (ii 0))) else (if q1.1 = (ii 102) then (if (ii 6) ≤ (q1.2.1 80 38) then (ii 0) else (ii 1)) else (ii 0)))))) else (if q1.1 = (ii 118) then (if (q1.2.1 80 35) < (ii 4) then (ii 1) else (if q1.1 = (ii 105) then (if (q1.2.1 80 36) < (ii 6) then (ii 1) else (if q1.1 = (ii 107) then (if (q1.2.1 80 37) < (ii 6) then (ii 1) else (if q1.1 = (ii 102) then (if (ii 6) ≤ (q1.2.1 80 38) then (ii 0) else (ii 1)) else (ii 0))) else (if q1.1 = (ii 102) then (if (ii 6) ≤ (q1.2.1 80 38) then (ii 0) else (ii 1)) else (ii 0)))) else (if q1.1 = (ii 107) then (if (q1.2.1 80 37) < (ii 6) then (ii 1) else (if q1.1 = (ii 102) then (if (ii 6) ≤ (q1.2.1 80 38) then (ii 0) else (ii 1)) else (ii 0))) else (if q1.1 = (ii 102) then (if (ii 6) ≤ (q1.2.1 80 38) then (ii 0) else (ii 1)) else (ii 0))))) else (if q1.1 = (ii 105) then (if (q1.2.1 80 36) < (ii 6) then (ii 1) else (if q1.1 = (ii 107) then (if (q1.2.1 80 37) < (ii 6) then (ii 1) else (if q1.1 = (ii 102) then (if (ii 6) ≤ (q1.2.1 80 38) then (ii 0) else (ii 1)) else (ii 0))) else (if q1.1 = (ii 102) then (if (ii 6) ≤ (q1.2.1 80 38) then (ii 0) else (ii 1)) else (ii 0)))) else (if q1.1 = (ii 107) then (if (q1.2.1 80 37) < (ii 6) then (ii 1) else (if q1.1 = (ii 102) then (if (ii 6) ≤ (q1.2.1 80 38) then (ii 0) else (ii 1)) else (ii 0))) else (if q1.1 = (ii 102) then (if (ii 6) ≤ (q1.2.1 80 38) then (ii 0) else (ii 1)) else (ii 0)))))))]) (st' := [vr 31 0 1, vi (ii 0), vr 20 4 86, vi q1.1, vr 12 0 80]) (h' := (wI (wI q1.2 80 10 ((q1.2.1 80 10) + (ii 1))) 80 40 (ii 1))) 55 9 (Nat.le_of_ble_eq_true rfl) tk_R_readClause rfl rfl ⟨trivial, trivial, (by decide), trivial, trivial, trivial, trivial, trivial, trivial, trivial⟩ ?_
        obtain ⟨q4, hq10, hx⟩ := bd hx
        refine Ev.callV (ν := m_R_readItems) (av := [vi q1.1, vr 20 4 86, vi (ii 0), vr 31 0 1]) (rest := []) (r1 := none) (h1 := q4) (ci := 12) (nn := 0) (o := 80) 64 4 tk_R_readClause rfl bb_R_readItems vv_R_readItems lk_12_255 (by decide) rfl rfl (Or.inl rfl) (Nat.le_of_ble_eq_true rfl) (s_R_readItems Γ q1.1 4 86 (ii 0) 1 (wI (wI q1.2 80 10 ((q1.2.1 80 10) + (ii 1))) 80 40 (ii 1)) _ hq10) ?_
        show Ev Γ m_R_readClause 166 [some (vr 12 0 80), some (vi q1.1), some (vi (if q1.1 = (ii 115) then (if (q1.2.1 80 40) = 0 then (ii 1) else (if q1.1 = (ii 118) then (if (q1.2.1 80 35) < (ii 4) then (ii 1) else (if q1.1 = (ii 105) then (if (q1.2.1 80 36) < (ii 6) then (ii 1) else (if q1.1 = (ii 107) then (if (q1.2.1 80 37) < (ii 6) then (ii 1) else (if q1.1 = (ii 102) then (if (ii 6) ≤ (q1.2.1 80 38) then (ii 0) else (ii 1)) else (ii 0))) else (if q1.1 = (ii 102) then (if (ii 6) ≤ (q1.2.1 80 38) then (ii 0) else (ii 1)) else (ii 0)))) else (if q1.1 = (ii 107) then (if (q1.2.1 80 37) < (ii 6) then (ii 1) else (if q1.1 = (ii 102) then (if (ii 6) ≤ (q1.2.1 80 38) then (ii 0) else (ii 1)) else (ii 0))) else (if q1.1 = (ii 102) then (if (ii 6) ≤ (q1.2.1 80 38) then (ii 0) else (ii 1)) else (ii 0))))) else (if q1.1 = (ii 105) then (if (q1.2.1 80 36) < (ii 6) then (ii 1) else (if q1.1 = (ii 107) then (if (q1.2.1 80 37) < (ii 6) then (ii 1) else (if q1.1 = (ii 102) then (if (ii 6) ≤ (q1.2.1 80 38) then (ii 0) else (ii 1)) else (ii 0))) else (if q1.1 = (ii 102) then (if (ii 6) ≤ (q1.2.1 80 38) then (ii 0) else (ii 1)) else (ii 0)))) else (if q1.1 = (ii 107) then (if (q1.2.1 80 37) < (ii 6) then (ii 1) else (if q1.1 = (ii 102) then (if (ii 6) ≤ (q1.2.1 80 38) then (ii 0) else (ii 1)) else (ii 0))) else (if q1.1 = (ii 102) then (if (ii 6) ≤ (q1.2.1 80 38) then (ii 0) else (ii 1)) else (ii 0)))))) else (if q1.1 = (ii 118) then (if (q1.2.1 80 35) < (ii 4) then (ii 1) else (if q1.1 = (ii 105) then (if (q1.2.1 80 36) < (ii 6) then (ii 1) else (if q1.1 = (ii 107) then (if (q1.2.1 80 37) < (ii 6) then (ii 1) else (if q1.1 = (ii 102) then (if (ii 6) ≤ (q1.2.1 80 38) then (ii 0) else (ii 1)) else (ii 0))) else (if q1.1 = (ii 102) then (if (ii 6) ≤ (q1.2.1 80 38) then (ii 0) else (ii 1)) else (ii 0)))) else (if q1.1 = (ii 107) then (if (q1.2.1 80 37) < (ii 6) then (ii 1) else (if q1.1 = (ii 102) then (if (ii 6) ≤ (q1.2.1 80 38) then (ii 0) else (ii 1)) else (ii 0))) else (if q1.1 = (ii 102) then (if (ii 6) ≤ (q1.2.1 80 38) then (ii 0) else (ii 1)) else (ii 0))))) else (if q1.1 = (ii 105) then (if (q1.2.1 80 36) < (ii 6) then (ii 1) else (if q1.1 = (ii 107) then (if (q1.2.1 80 37) < (ii 6) then (ii 1) else (if q1.1 = (ii 102) then (if (ii 6) ≤ (q1.2.1 80 38) then (ii 0) else (ii 1)) else (ii 0))) else (if q1.1 = (ii 102) then (if (ii 6) ≤ (q1.2.1 80 38) then (ii 0) else (ii 1)) else (ii 0)))) else (if q1.1 = (ii 107) then (if (q1.2.1 80 37) < (ii 6) then (ii 1) else (if q1.1 = (ii 102) then (if (ii 6) ≤ (q1.2.1 80 38) then (ii 0) else (ii 1)) else (ii 0))) else (if q1.1 = (ii 102) then (if (ii 6) ≤ (q1.2.1 80 38) then (ii 0) else (ii 1)) else (ii 0)))))))] [] q4 r h'
        refine Ev.blk (pc' := 273) (lv' := [some (vr 12 0 80), some (vi q1.1), some (vi (if q1.1 = (ii 115) then (if (q1.2.1 80 40) = 0 then (ii 1) else (if q1.1 = (ii 118) then (if (q1.2.1 80 35) < (ii 4) then (ii 1) else (if q1.1 = (ii 105) then (if (q1.2.1 80 36) < (ii 6) then (ii 1) else (if q1.1 = (ii 107) then (if (q1.2.1 80 37) < (ii 6) then (ii 1) else (if q1.1 = (ii 102) then (if (ii 6) ≤ (q1.2.1 80 38) then (ii 0) else (ii 1)) else (ii 0))) else (if q1.1 = (ii 102) then (if (ii 6) ≤ (q1.2.1 80 38) then (ii 0) else (ii 1)) else (ii 0)))) else (if q1.1 = (ii 107) then (if (q1.2.1 80 37) < (ii 6) then (ii 1) else (if q1.1 = (ii 102) then (if (ii 6) ≤ (q1.2.1 80 38) then (ii 0) else (ii 1)) else (ii 0))) else (if q1.1 = (ii 102) then (if (ii 6) ≤ (q1.2.1 80 38) then (ii 0) else (ii 1)) else (ii 0))))) else (if q1.1 = (ii 105) then (if (q1.2.1 80 36) < (ii 6) then (ii 1) else (if q1.1 = (ii 107) then (if (q1.2.1 80 37) < (ii 6) then (ii 1) else (if q1.1 = (ii 102) then (if (ii 6) ≤ (q1.2.1 80 38) then (ii 0) else (ii 1)) else (ii 0))) else (if q1.1 = (ii 102) then (if (ii 6) ≤ (q1.2.1 80 38) then (ii 0) else (ii 1)) else (ii 0)))) else (if q1.1 = (ii 107) then (if (q1.2.1 80 37) < (ii 6) then (ii 1) else (if q1.1 = (ii 102) then (if (ii 6) ≤ (q1.2.1 80 38) then (ii 0) else (ii 1)) else (ii 0))) else (if q1.1 = (ii 102) then (if (ii 6) ≤ (q1.2.1 80 38) then (ii 0) else (ii 1)) else (ii 0)))))) else (if q1.1 = (ii 118) then (if (q1.2.1 80 35) < (ii 4) then (ii 1) else (if q1.1 = (ii 105) then (if (q1.2.1 80 36) < (ii 6) then (ii 1) else (if q1.1 = (ii 107) then (if (q1.2.1 80 37) < (ii 6) then (ii 1) else (if q1.1 = (ii 102) then (if (ii 6) ≤ (q1.2.1 80 38) then (ii 0) else (ii 1)) else (ii 0))) else (if q1.1 = (ii 102) then (if (ii 6) ≤ (q1.2.1 80 38) then (ii 0) else (ii 1)) else (ii 0)))) else (if q1.1 = (ii 107) then (if (q1.2.1 80 37) < (ii 6) then (ii 1) else (if q1.1 = (ii 102) then (if (ii 6) ≤ (q1.2.1 80 38) then (ii 0) else (ii 1)) else (ii 0))) else (if q1.1 = (ii 102) then (if (ii 6) ≤ (q1.2.1 80 38) then (ii 0) else (ii 1)) else (ii 0))))) else (if q1.1 = (ii 105) then (if (q1.2.1 80 36) < (ii 6) then (ii 1) else (if q1.1 = (ii 107) then (if (q1.2.1 80 37) < (ii 6) then (ii 1) else (if q1.1 = (ii 102) then (if (ii 6) ≤ (q1.2.1 80 38) then (ii 0) else (ii 1)) else (ii 0))) else (if q1.1 = (ii 102) then (if (ii 6) ≤ (q1.2.1 80 38) then (ii 0) else (ii 1)) else (ii 0)))) else (if q1.1 = (ii 107) then (if (q1.2.1 80 37) < (ii 6) then (ii 1) else (if q1.1 = (ii 102) then (if (ii 6) ≤ (q1.2.1 80 38) then (ii 0) else (ii 1)) else (ii 0))) else (if q1.1 = (ii 102) then (if (ii 6) ≤ (q1.2.1 80 38) then (ii 0) else (ii 1)) else (ii 0)))))))]) (st' := []) (h' := q4) 65 1 (Nat.le_of_ble_eq_true rfl) tk_R_readClause rfl rfl ⟨trivial, trivial⟩ ?_
        obtain rfl := Option.some.inj hx
        obtain ⟨rfl, rfl⟩ := hP
        exact Ev.vret 125 tk_R_readClause rfl rfl
      replace hx := ia hc9 hx
      by_cases hc11 : q1.1 = ii 118
      · replace hx := ip hc11 hx
        refine Ev.look 54 169 tk_R_readClause rfl (by decide) (off := 65) (by rw [hc11]; decide) (by decide) ?_
        refine Ev.blk (pc' := 170) (lv' := [some (vr 12 0 80), some (vi q1.1), some (vi (if q1.1 = (ii 115) then (if (q1.2.1 80 40) = 0 then (ii 1) else (if q1.1 = (ii 118) then (if (q1.2.1 80 35) < (ii 4) then (ii 1) else (if q1.1 = (ii 105) then (if (q1.2.1 80 36) < (ii 6) then (ii 1) else (if q1.1 = (ii 107) then (if (q1.2.1 80 37) < (ii 6) then (ii 1) else (if q1.1 = (ii 102) then (if (ii 6) ≤ (q1.2.1 80 38) then (ii 0) else (ii 1)) else (ii 0))) else (if q1.1 = (ii 102) then (if (ii 6) ≤ (q1.2.1 80 38) then (ii 0) else (ii 1)) else (ii 0)))) else (if q1.1 = (ii 107) then (if (q1.2.1 80 37) < (ii 6) then (ii 1) else (if q1.1 = (ii 102) then (if (ii 6) ≤ (q1.2.1 80 38) then (ii 0) else (ii 1)) else (ii 0))) else (if q1.1 = (ii 102) then (if (ii 6) ≤ (q1.2.1 80 38) then (ii 0) else (ii 1)) else (ii 0))))) else (if q1.1 = (ii 105) then (if (q1.2.1 80 36) < (ii 6) then (ii 1) else (if q1.1 = (ii 107) then (if (q1.2.1 80 37) < (ii 6) then (ii 1) else (if q1.1 = (ii 102) then (if (ii 6) ≤ (q1.2.1 80 38) then (ii 0) else (ii 1)) else (ii 0))) else (if q1.1 = (ii 102) then (if (ii 6) ≤ (q1.2.1 80 38) then (ii 0) else (ii 1)) else (ii 0)))) else (if q1.1 = (ii 107) then (if (q1.2.1 80 37) < (ii 6) then (ii 1) else (if q1.1 = (ii 102) then (if (ii 6) ≤ (q1.2.1 80 38) then (ii 0) else (ii 1)) else (ii 0))) else (if q1.1 = (ii 102) then (if (ii 6) ≤ (q1.2.1 80 38) then (ii 0) else (ii 1)) else (ii 0)))))) else (if q1.1 = (ii 118) then (if (q1.2.1 80 35) < (ii 4) then (ii 1) else (if q1.1 = (ii 105) then (if (q1.2.1 80 36) < (ii 6) then (ii 1) else (if q1.1 = (ii 107) then (if (q1.2.1 80 37) < (ii 6) then (ii 1) else (if q1.1 = (ii 102) then (if (ii 6) ≤ (q1.2.1 80 38) then (ii 0) else (ii 1)) else (ii 0))) else (if q1.1 = (ii 102) then (if (ii 6) ≤ (q1.2.1 80 38) then (ii 0) else (ii 1)) else (ii 0)))) else (if q1.1 = (ii 107) then (if (q1.2.1 80 37) < (ii 6) then (ii 1) else (if q1.1 = (ii 102) then (if (ii 6) ≤ (q1.2.1 80 38) then (ii 0) else (ii 1)) else (ii 0))) else (if q1.1 = (ii 102) then (if (ii 6) ≤ (q1.2.1 80 38) then (ii 0) else (ii 1)) else (ii 0))))) else (if q1.1 = (ii 105) then (if (q1.2.1 80 36) < (ii 6) then (ii 1) else (if q1.1 = (ii 107) then (if (q1.2.1 80 37) < (ii 6) then (ii 1) else (if q1.1 = (ii 102) then (if (ii 6) ≤ (q1.2.1 80 38) then (ii 0) else (ii 1)) else (ii 0))) else (if q1.1 = (ii 102) then (if (ii 6) ≤ (q1.2.1 80 38) then (ii 0) else (ii 1)) else (ii 0)))) else (if q1.1 = (ii 107) then (if (q1.2.1 80 37) < (ii 6) then (ii 1) else (if q1.1 = (ii 102) then (if (ii 6) ≤ (q1.2.1 80 38) then (ii 0) else (ii 1)) else (ii 0))) else (if q1.1 = (ii 102) then (if (ii 6) ≤ (q1.2.1 80 38) then (ii 0) else (ii 1)) else (ii 0)))))))]) (st' := [vr 12 0 80]) (h' := (wI q1.2 80 10 ((q1.2.1 80 10) + (ii 1)))) 66 1 (Nat.le_of_ble_eq_true rfl) tk_R_readClause rfl rfl ⟨trivial, trivial⟩ ?_
        obtain ⟨q5, hq12, hx⟩ := bd hx
        refine Ev.callV (ν := m_R_readVein) (av := []) (rest := []) (r1 := none) (h1 := q5) (ci := 12) (nn := 0) (o := 80) 67 0 tk_R_readClause rfl bb_R_readVein vv_R_readVein lk_12_277 (by decide) rfl rfl (Or.inl rfl) (Nat.le_of_ble_eq_true rfl) (s_R_readVein Γ (wI q1.2 80 10 ((q1.2.1 80 10) + (ii 1))) _ hq12) ?_
        show Ev Γ m_R_readClause 173 [some (vr 12 0 80), some (vi q1.1), some (vi (if q1.1 = (ii 115) then (if (q1.2.1 80 40) = 0 then (ii 1) else (if q1.1 = (ii 118) then (if (q1.2.1 80 35) < (ii 4) then (ii 1) else (if q1.1 = (ii 105) then (if (q1.2.1 80 36) < (ii 6) then (ii 1) else (if q1.1 = (ii 107) then (if (q1.2.1 80 37) < (ii 6) then (ii 1) else (if q1.1 = (ii 102) then (if (ii 6) ≤ (q1.2.1 80 38) then (ii 0) else (ii 1)) else (ii 0))) else (if q1.1 = (ii 102) then (if (ii 6) ≤ (q1.2.1 80 38) then (ii 0) else (ii 1)) else (ii 0)))) else (if q1.1 = (ii 107) then (if (q1.2.1 80 37) < (ii 6) then (ii 1) else (if q1.1 = (ii 102) then (if (ii 6) ≤ (q1.2.1 80 38) then (ii 0) else (ii 1)) else (ii 0))) else (if q1.1 = (ii 102) then (if (ii 6) ≤ (q1.2.1 80 38) then (ii 0) else (ii 1)) else (ii 0))))) else (if q1.1 = (ii 105) then (if (q1.2.1 80 36) < (ii 6) then (ii 1) else (if q1.1 = (ii 107) then (if (q1.2.1 80 37) < (ii 6) then (ii 1) else (if q1.1 = (ii 102) then (if (ii 6) ≤ (q1.2.1 80 38) then (ii 0) else (ii 1)) else (ii 0))) else (if q1.1 = (ii 102) then (if (ii 6) ≤ (q1.2.1 80 38) then (ii 0) else (ii 1)) else (ii 0)))) else (if q1.1 = (ii 107) then (if (q1.2.1 80 37) < (ii 6) then (ii 1) else (if q1.1 = (ii 102) then (if (ii 6) ≤ (q1.2.1 80 38) then (ii 0) else (ii 1)) else (ii 0))) else (if q1.1 = (ii 102) then (if (ii 6) ≤ (q1.2.1 80 38) then (ii 0) else (ii 1)) else (ii 0)))))) else (if q1.1 = (ii 118) then (if (q1.2.1 80 35) < (ii 4) then (ii 1) else (if q1.1 = (ii 105) then (if (q1.2.1 80 36) < (ii 6) then (ii 1) else (if q1.1 = (ii 107) then (if (q1.2.1 80 37) < (ii 6) then (ii 1) else (if q1.1 = (ii 102) then (if (ii 6) ≤ (q1.2.1 80 38) then (ii 0) else (ii 1)) else (ii 0))) else (if q1.1 = (ii 102) then (if (ii 6) ≤ (q1.2.1 80 38) then (ii 0) else (ii 1)) else (ii 0)))) else (if q1.1 = (ii 107) then (if (q1.2.1 80 37) < (ii 6) then (ii 1) else (if q1.1 = (ii 102) then (if (ii 6) ≤ (q1.2.1 80 38) then (ii 0) else (ii 1)) else (ii 0))) else (if q1.1 = (ii 102) then (if (ii 6) ≤ (q1.2.1 80 38) then (ii 0) else (ii 1)) else (ii 0))))) else (if q1.1 = (ii 105) then (if (q1.2.1 80 36) < (ii 6) then (ii 1) else (if q1.1 = (ii 107) then (if (q1.2.1 80 37) < (ii 6) then (ii 1) else (if q1.1 = (ii 102) then (if (ii 6) ≤ (q1.2.1 80 38) then (ii 0) else (ii 1)) else (ii 0))) else (if q1.1 = (ii 102) then (if (ii 6) ≤ (q1.2.1 80 38) then (ii 0) else (ii 1)) else (ii 0)))) else (if q1.1 = (ii 107) then (if (q1.2.1 80 37) < (ii 6) then (ii 1) else (if q1.1 = (ii 102) then (if (ii 6) ≤ (q1.2.1 80 38) then (ii 0) else (ii 1)) else (ii 0))) else (if q1.1 = (ii 102) then (if (ii 6) ≤ (q1.2.1 80 38) then (ii 0) else (ii 1)) else (ii 0)))))))] [] q5 r h'
        refine Ev.blk (pc' := 273) (lv' := [some (vr 12 0 80), some (vi q1.1), some (vi (if q1.1 = (ii 115) then (if (q1.2.1 80 40) = 0 then (ii 1) else (if q1.1 = (ii 118) then (if (q1.2.1 80 35) < (ii 4) then (ii 1) else (if q1.1 = (ii 105) then (if (q1.2.1 80 36) < (ii 6) then (ii 1) else (if q1.1 = (ii 107) then (if (q1.2.1 80 37) < (ii 6) then (ii 1) else (if q1.1 = (ii 102) then (if (ii 6) ≤ (q1.2.1 80 38) then (ii 0) else (ii 1)) else (ii 0))) else (if q1.1 = (ii 102) then (if (ii 6) ≤ (q1.2.1 80 38) then (ii 0) else (ii 1)) else (ii 0)))) else (if q1.1 = (ii 107) then (if (q1.2.1 80 37) < (ii 6) then (ii 1) else (if q1.1 = (ii 102) then (if (ii 6) ≤ (q1.2.1 80 38) then (ii 0) else (ii 1)) else (ii 0))) else (if q1.1 = (ii 102) then (if (ii 6) ≤ (q1.2.1 80 38) then (ii 0) else (ii 1)) else (ii 0))))) else (if q1.1 = (ii 105) then (if (q1.2.1 80 36) < (ii 6) then (ii 1) else (if q1.1 = (ii 107) then (if (q1.2.1 80 37) < (ii 6) then (ii 1) else (if q1.1 = (ii 102) then (if (ii 6) ≤ (q1.2.1 80 38) then (ii 0) else (ii 1)) else (ii 0))) else (if q1.1 = (ii 102) then (if (ii 6) ≤ (q1.2.1 80 38) then (ii 0) else (ii 1)) else (ii 0)))) else (if q1.1 = (ii 107) then (if (q1.2.1 80 37) < (ii 6) then (ii 1) else (if q1.1 = (ii 102) then (if (ii 6) ≤ (q1.2.1 80 38) then (ii 0) else (ii 1)) else (ii 0))) else (if q1.1 = (ii 102) then (if (ii 6) ≤ (q1.2.1 80 38) then (ii 0) else (ii 1)) else (ii 0)))))) else (if q1.1 = (ii 118) then (if (q1.2.1 80 35) < (ii 4) then (ii 1) else (if q1.1 = (ii 105) then (if (q1.2.1 80 36) < (ii 6) then (ii 1) else (if q1.1 = (ii 107) then (if (q1.2.1 80 37) < (ii 6) then (ii 1) else (if q1.1 = (ii 102) then (if (ii 6) ≤ (q1.2.1 80 38) then (ii 0) else (ii 1)) else (ii 0))) else (if q1.1 = (ii 102) then (if (ii 6) ≤ (q1.2.1 80 38) then (ii 0) else (ii 1)) else (ii 0)))) else (if q1.1 = (ii 107) then (if (q1.2.1 80 37) < (ii 6) then (ii 1) else (if q1.1 = (ii 102) then (if (ii 6) ≤ (q1.2.1 80 38) then (ii 0) else (ii 1)) else (ii 0))) else (if q1.1 = (ii 102) then (if (ii 6) ≤ (q1.2.1 80 38) then (ii 0) else (ii 1)) else (ii 0))))) else (if q1.1 = (ii 105) then (if (q1.2.1 80 36) < (ii 6) then (ii 1) else (if q1.1 = (ii 107) then (if (q1.2.1 80 37) < (ii 6) then (ii 1) else (if q1.1 = (ii 102) then (if (ii 6) ≤ (q1.2.1 80 38) then (ii 0) else (ii 1)) else (ii 0))) else (if q1.1 = (ii 102) then (if (ii 6) ≤ (q1.2.1 80 38) then (ii 0) else (ii 1)) else (ii 0)))) else (if q1.1 = (ii 107) then (if (q1.2.1 80 37) < (ii 6) then (ii 1) else (if q1.1 = (ii 102) then (if (ii 6) ≤ (q1.2.1 80 38) then (ii 0) else (ii 1)) else (ii 0))) else (if q1.1 = (ii 102) then (if (ii 6) ≤ (q1.2.1 80 38) then (ii 0) else (ii 1)) else (ii 0)))))))]) (st' := []) (h' := q5) 68 1 (Nat.le_of_ble_eq_true rfl) tk_R_readClause rfl rfl ⟨trivial, trivial⟩ ?_
        obtain rfl := Option.some.inj hx
        obtain ⟨rfl, rfl⟩ := hP
        exact Ev.vret 125 tk_R_readClause rfl rfl
      replace hx := ia hc11 hx
      refine Ev.lookD 54 242 tk_R_readClause rfl (by decide) (fun q hq => ?_) (by decide) ?_
      · simp only [List.mem_cons, List.not_mem_nil, or_false] at hq
        rcases hq with rfl | rfl | rfl | rfl
        · exact hc5
        · exact hc7
        · exact hc9
        · exact hc11
      · refine Ev.blk (pc' := 270) (lv' := [some (vr 12 0 80), some (vi q1.1), some (vi (if q1.1 = (ii 115) then (if (q1.2.1 80 40) = 0 then (ii 1) else (if q1.1 = (ii 118) then (if (q1.2.1 80 35) < (ii 4) then (ii 1) else (if q1.1 = (ii 105) then (if (q1.2.1 80 36) < (ii 6) then (ii 1) else (if q1.1 = (ii 107) then (if (q1.2.1 80 37) < (ii 6) then (ii 1) else (if q1.1 = (ii 102) then (if (ii 6) ≤ (q1.2.1 80 38) then (ii 0) else (ii 1)) else (ii 0))) else (if q1.1 = (ii 102) then (if (ii 6) ≤ (q1.2.1 80 38) then (ii 0) else (ii 1)) else (ii 0)))) else (if q1.1 = (ii 107) then (if (q1.2.1 80 37) < (ii 6) then (ii 1) else (if q1.1 = (ii 102) then (if (ii 6) ≤ (q1.2.1 80 38) then (ii 0) else (ii 1)) else (ii 0))) else (if q1.1 = (ii 102) then (if (ii 6) ≤ (q1.2.1 80 38) then (ii 0) else (ii 1)) else (ii 0))))) else (if q1.1 = (ii 105) then (if (q1.2.1 80 36) < (ii 6) then (ii 1) else (if q1.1 = (ii 107) then (if (q1.2.1 80 37) < (ii 6) then (ii 1) else (if q1.1 = (ii 102) then (if (ii 6) ≤ (q1.2.1 80 38) then (ii 0) else (ii 1)) else (ii 0))) else (if q1.1 = (ii 102) then (if (ii 6) ≤ (q1.2.1 80 38) then (ii 0) else (ii 1)) else (ii 0)))) else (if q1.1 = (ii 107) then (if (q1.2.1 80 37) < (ii 6) then (ii 1) else (if q1.1 = (ii 102) then (if (ii 6) ≤ (q1.2.1 80 38) then (ii 0) else (ii 1)) else (ii 0))) else (if q1.1 = (ii 102) then (if (ii 6) ≤ (q1.2.1 80 38) then (ii 0) else (ii 1)) else (ii 0)))))) else (if q1.1 = (ii 118) then (if (q1.2.1 80 35) < (ii 4) then (ii 1) else (if q1.1 = (ii 105) then (if (q1.2.1 80 36) < (ii 6) then (ii 1) else (if q1.1 = (ii 107) then (if (q1.2.1 80 37) < (ii 6) then (ii 1) else (if q1.1 = (ii 102) then (if (ii 6) ≤ (q1.2.1 80 38) then (ii 0) else (ii 1)) else (ii 0))) else (if q1.1 = (ii 102) then (if (ii 6) ≤ (q1.2.1 80 38) then (ii 0) else (ii 1)) else (ii 0)))) else (if q1.1 = (ii 107) then (if (q1.2.1 80 37) < (ii 6) then (ii 1) else (if q1.1 = (ii 102) then (if (ii 6) ≤ (q1.2.1 80 38) then (ii 0) else (ii 1)) else (ii 0))) else (if q1.1 = (ii 102) then (if (ii 6) ≤ (q1.2.1 80 38) then (ii 0) else (ii 1)) else (ii 0))))) else (if q1.1 = (ii 105) then (if (q1.2.1 80 36) < (ii 6) then (ii 1) else (if q1.1 = (ii 107) then (if (q1.2.1 80 37) < (ii 6) then (ii 1) else (if q1.1 = (ii 102) then (if (ii 6) ≤ (q1.2.1 80 38) then (ii 0) else (ii 1)) else (ii 0))) else (if q1.1 = (ii 102) then (if (ii 6) ≤ (q1.2.1 80 38) then (ii 0) else (ii 1)) else (ii 0)))) else (if q1.1 = (ii 107) then (if (q1.2.1 80 37) < (ii 6) then (ii 1) else (if q1.1 = (ii 102) then (if (ii 6) ≤ (q1.2.1 80 38) then (ii 0) else (ii 1)) else (ii 0))) else (if q1.1 = (ii 102) then (if (ii 6) ≤ (q1.2.1 80 38) then (ii 0) else (ii 1)) else (ii 0)))))))]) (st' := [vr 31 0 5, vi ((ii 6) * (((wI (wI q1.2 80 10 ((q1.2.1 80 10) + (ii 1))) 80 38 (((wI q1.2 80 10 ((q1.2.1 80 10) + (ii 1))).1 80 38) + (ii 1))).1 80 38) - (ii 1))), vr 20 36 94, vi q1.1, vr 12 0 80]) (h' := (wI (wI q1.2 80 10 ((q1.2.1 80 10) + (ii 1))) 80 38 (((wI q1.2 80 10 ((q1.2.1 80 10) + (ii 1))).1 80 38) + (ii 1)))) 107 17 (Nat.le_of_ble_eq_true rfl) tk_R_readClause rfl rfl ⟨trivial, trivial, trivial, trivial, trivial, trivial, trivial, trivial, trivial, trivial, trivial, trivial, trivial, trivial, trivial, trivial, trivial, trivial⟩ ?_
        obtain ⟨q6, hq13, hx⟩ := bd hx
        refine Ev.callV (ν := m_R_readItems) (av := [vi q1.1, vr 20 36 94, vi ((ii 6) * (((wI (wI q1.2 80 10 ((q1.2.1 80 10) + (ii 1))) 80 38 (((wI q1.2 80 10 ((q1.2.1 80 10) + (ii 1))).1 80 38) + (ii 1))).1 80 38) - (ii 1))), vr 31 0 5]) (rest := []) (r1 := none) (h1 := q6) (ci := 12) (nn := 0) (o := 80) 124 4 tk_R_readClause rfl bb_R_readItems vv_R_readItems lk_12_255 (by decide) rfl rfl (Or.inl rfl) (Nat.le_of_ble_eq_true rfl) (s_R_readItems Γ q1.1 36 94 ((ii 6) * (((wI (wI q1.2 80 10 ((q1.2.1 80 10) + (ii 1))) 80 38 (((wI q1.2 80 10 ((q1.2.1 80 10) + (ii 1))).1 80 38) + (ii 1))).1 80 38) - (ii 1))) 5 (wI (wI q1.2 80 10 ((q1.2.1 80 10) + (ii 1))) 80 38 (((wI q1.2 80 10 ((q1.2.1 80 10) + (ii 1))).1 80 38) + (ii 1))) _ hq13) ?_
        show Ev Γ m_R_readClause 273 [some (vr 12 0 80), some (vi q1.1), some (vi (if q1.1 = (ii 115) then (if (q1.2.1 80 40) = 0 then (ii 1) else (if q1.1 = (ii 118) then (if (q1.2.1 80 35) < (ii 4) then (ii 1) else (if q1.1 = (ii 105) then (if (q1.2.1 80 36) < (ii 6) then (ii 1) else (if q1.1 = (ii 107) then (if (q1.2.1 80 37) < (ii 6) then (ii 1) else (if q1.1 = (ii 102) then (if (ii 6) ≤ (q1.2.1 80 38) then (ii 0) else (ii 1)) else (ii 0))) else (if q1.1 = (ii 102) then (if (ii 6) ≤ (q1.2.1 80 38) then (ii 0) else (ii 1)) else (ii 0)))) else (if q1.1 = (ii 107) then (if (q1.2.1 80 37) < (ii 6) then (ii 1) else (if q1.1 = (ii 102) then (if (ii 6) ≤ (q1.2.1 80 38) then (ii 0) else (ii 1)) else (ii 0))) else (if q1.1 = (ii 102) then (if (ii 6) ≤ (q1.2.1 80 38) then (ii 0) else (ii 1)) else (ii 0))))) else (if q1.1 = (ii 105) then (if (q1.2.1 80 36) < (ii 6) then (ii 1) else (if q1.1 = (ii 107) then (if (q1.2.1 80 37) < (ii 6) then (ii 1) else (if q1.1 = (ii 102) then (if (ii 6) ≤ (q1.2.1 80 38) then (ii 0) else (ii 1)) else (ii 0))) else (if q1.1 = (ii 102) then (if (ii 6) ≤ (q1.2.1 80 38) then (ii 0) else (ii 1)) else (ii 0)))) else (if q1.1 = (ii 107) then (if (q1.2.1 80 37) < (ii 6) then (ii 1) else (if q1.1 = (ii 102) then (if (ii 6) ≤ (q1.2.1 80 38) then (ii 0) else (ii 1)) else (ii 0))) else (if q1.1 = (ii 102) then (if (ii 6) ≤ (q1.2.1 80 38) then (ii 0) else (ii 1)) else (ii 0)))))) else (if q1.1 = (ii 118) then (if (q1.2.1 80 35) < (ii 4) then (ii 1) else (if q1.1 = (ii 105) then (if (q1.2.1 80 36) < (ii 6) then (ii 1) else (if q1.1 = (ii 107) then (if (q1.2.1 80 37) < (ii 6) then (ii 1) else (if q1.1 = (ii 102) then (if (ii 6) ≤ (q1.2.1 80 38) then (ii 0) else (ii 1)) else (ii 0))) else (if q1.1 = (ii 102) then (if (ii 6) ≤ (q1.2.1 80 38) then (ii 0) else (ii 1)) else (ii 0)))) else (if q1.1 = (ii 107) then (if (q1.2.1 80 37) < (ii 6) then (ii 1) else (if q1.1 = (ii 102) then (if (ii 6) ≤ (q1.2.1 80 38) then (ii 0) else (ii 1)) else (ii 0))) else (if q1.1 = (ii 102) then (if (ii 6) ≤ (q1.2.1 80 38) then (ii 0) else (ii 1)) else (ii 0))))) else (if q1.1 = (ii 105) then (if (q1.2.1 80 36) < (ii 6) then (ii 1) else (if q1.1 = (ii 107) then (if (q1.2.1 80 37) < (ii 6) then (ii 1) else (if q1.1 = (ii 102) then (if (ii 6) ≤ (q1.2.1 80 38) then (ii 0) else (ii 1)) else (ii 0))) else (if q1.1 = (ii 102) then (if (ii 6) ≤ (q1.2.1 80 38) then (ii 0) else (ii 1)) else (ii 0)))) else (if q1.1 = (ii 107) then (if (q1.2.1 80 37) < (ii 6) then (ii 1) else (if q1.1 = (ii 102) then (if (ii 6) ≤ (q1.2.1 80 38) then (ii 0) else (ii 1)) else (ii 0))) else (if q1.1 = (ii 102) then (if (ii 6) ≤ (q1.2.1 80 38) then (ii 0) else (ii 1)) else (ii 0)))))))] [] q6 r h'
        obtain rfl := Option.some.inj hx
        obtain ⟨rfl, rfl⟩ := hP
        exact Ev.vret 125 tk_R_readClause rfl rfl
    · replace hx := ip hc4 hx
      refine Ev.blk (pc' := 88) (lv' := [some (vr 12 0 80), some (vi q1.1), some (vi (if q1.1 = (ii 115) then (if (q1.2.1 80 40) = 0 then (ii 1) else (if q1.1 = (ii 118) then (if (q1.2.1 80 35) < (ii 4) then (ii 1) else (if q1.1 = (ii 105) then (if (q1.2.1 80 36) < (ii 6) then (ii 1) else (if q1.1 = (ii 107) then (if (q1.2.1 80 37) < (ii 6) then (ii 1) else (if q1.1 = (ii 102) then (if (ii 6) ≤ (q1.2.1 80 38) then (ii 0) else (ii 1)) else (ii 0))) else (if q1.1 = (ii 102) then (if (ii 6) ≤ (q1.2.1 80 38) then (ii 0) else (ii 1)) else (ii 0)))) else (if q1.1 = (ii 107) then (if (q1.2.1 80 37) < (ii 6) then (ii 1) else (if q1.1 = (ii 102) then (if (ii 6) ≤ (q1.2.1 80 38) then (ii 0) else (ii 1)) else (ii 0))) else (if q1.1 = (ii 102) then (if (ii 6) ≤ (q1.2.1 80 38) then (ii 0) else (ii 1)) else (ii 0))))) else (if q1.1 = (ii 105) then (if (q1.2.1 80 36) < (ii 6) then (ii 1) else (if q1.1 = (ii 107) then (if (q1.2.1 80 37) < (ii 6) then (ii 1) else (if q1.1 = (ii 102) then (if (ii 6) ≤ (q1.2.1 80 38) then (ii 0) else (ii 1)) else (ii 0))) else (if q1.1 = (ii 102) then (if (ii 6) ≤ (q1.2.1 80 38) then (ii 0) else (ii 1)) else (ii 0)))) else (if q1.1 = (ii 107) then (if (q1.2.1 80 37) < (ii 6) then (ii 1) else (if q1.1 = (ii 102) then (if (ii 6) ≤ (q1.2.1 80 38) then (ii 0) else (ii 1)) else (ii 0))) else (if q1.1 = (ii 102) then (if (ii 6) ≤ (q1.2.1 80 38) then (ii 0) else (ii 1)) else (ii 0)))))) else (if q1.1 = (ii 118) then (if (q1.2.1 80 35) < (ii 4) then (ii 1) else (if q1.1 = (ii 105) then (if (q1.2.1 80 36) < (ii 6) then (ii 1) else (if q1.1 = (ii 107) then (if (q1.2.1 80 37) < (ii 6) then (ii 1) else (if q1.1 = (ii 102) then (if (ii 6) ≤ (q1.2.1 80 38) then (ii 0) else (ii 1)) else (ii 0))) else (if q1.1 = (ii 102) then (if (ii 6) ≤ (q1.2.1 80 38) then (ii 0) else (ii 1)) else (ii 0)))) else (if q1.1 = (ii 107) then (if (q1.2.1 80 37) < (ii 6) then (ii 1) else (if q1.1 = (ii 102) then (if (ii 6) ≤ (q1.2.1 80 38) then (ii 0) else (ii 1)) else (ii 0))) else (if q1.1 = (ii 102) then (if (ii 6) ≤ (q1.2.1 80 38) then (ii 0) else (ii 1)) else (ii 0))))) else (if q1.1 = (ii 105) then (if (q1.2.1 80 36) < (ii 6) then (ii 1) else (if q1.1 = (ii 107) then (if (q1.2.1 80 37) < (ii 6) then (ii 1) else (if q1.1 = (ii 102) then (if (ii 6) ≤ (q1.2.1 80 38) then (ii 0) else (ii 1)) else (ii 0))) else (if q1.1 = (ii 102) then (if (ii 6) ≤ (q1.2.1 80 38) then (ii 0) else (ii 1)) else (ii 0)))) else (if q1.1 = (ii 107) then (if (q1.2.1 80 37) < (ii 6) then (ii 1) else (if q1.1 = (ii 102) then (if (ii 6) ≤ (q1.2.1 80 38) then (ii 0) else (ii 1)) else (ii 0))) else (if q1.1 = (ii 102) then (if (ii 6) ≤ (q1.2.1 80 38) then (ii 0) else (ii 1)) else (ii 0)))))))]) (st' := [vr 12 0 80]) (h' := q1.2) 43 1 (Nat.le_of_ble_eq_true rfl) tk_R_readClause rfl rfl ⟨trivial, trivial⟩ ?_
      obtain ⟨q7, hq14, hx⟩ := bd hx
      refine Ev.callV (ν := m_R_fails) (av := []) (rest := []) (r1 := some (vi q7.1)) (h1 := q7.2) (ci := 12) (nn := 0) (o := 80) 44 0 tk_R_readClause rfl bb_R_fails vv_R_fails lk_12_140 (by decide) rfl rfl (Or.inl rfl) (Nat.le_of_ble_eq_true rfl) (s_R_fails Γ q1.2 _ hq14) ?_
      show Ev Γ m_R_readClause 91 [some (vr 12 0 80), some (vi q1.1), some (vi (if q1.1 = (ii 115) then (if (q1.2.1 80 40) = 0 then (ii 1) else (if q1.1 = (ii 118) then (if (q1.2.1 80 35) < (ii 4) then (ii 1) else (if q1.1 = (ii 105) then (if (q1.2.1 80 36) < (ii 6) then (ii 1) else (if q1.1 = (ii 107) then (if (q1.2.1 80 37) < (ii 6) then (ii 1) else (if q1.1 = (ii 102) then (if (ii 6) ≤ (q1.2.1 80 38) then (ii 0) else (ii 1)) else (ii 0))) else (if q1.1 = (ii 102) then (if (ii 6) ≤ (q1.2.1 80 38) then (ii 0) else (ii 1)) else (ii 0)))) else (if q1.1 = (ii 107) then (if (q1.2.1 80 37) < (ii 6) then (ii 1) else (if q1.1 = (ii 102) then (if (ii 6) ≤ (q1.2.1 80 38) then (ii 0) else (ii 1)) else (ii 0))) else (if q1.1 = (ii 102) then (if (ii 6) ≤ (q1.2.1 80 38) then (ii 0) else (ii 1)) else (ii 0))))) else (if q1.1 = (ii 105) then (if (q1.2.1 80 36) < (ii 6) then (ii 1) else (if q1.1 = (ii 107) then (if (q1.2.1 80 37) < (ii 6) then (ii 1) else (if q1.1 = (ii 102) then (if (ii 6) ≤ (q1.2.1 80 38) then (ii 0) else (ii 1)) else (ii 0))) else (if q1.1 = (ii 102) then (if (ii 6) ≤ (q1.2.1 80 38) then (ii 0) else (ii 1)) else (ii 0)))) else (if q1.1 = (ii 107) then (if (q1.2.1 80 37) < (ii 6) then (ii 1) else (if q1.1 = (ii 102) then (if (ii 6) ≤ (q1.2.1 80 38) then (ii 0) else (ii 1)) else (ii 0))) else (if q1.1 = (ii 102) then (if (ii 6) ≤ (q1.2.1 80 38) then (ii 0) else (ii 1)) else (ii 0)))))) else (if q1.1 = (ii 118) then (if (q1.2.1 80 35) < (ii 4) then (ii 1) else (if q1.1 = (ii 105) then (if (q1.2.1 80 36) < (ii 6) then (ii 1) else (if q1.1 = (ii 107) then (if (q1.2.1 80 37) < (ii 6) then (ii 1) else (if q1.1 = (ii 102) then (if (ii 6) ≤ (q1.2.1 80 38) then (ii 0) else (ii 1)) else (ii 0))) else (if q1.1 = (ii 102) then (if (ii 6) ≤ (q1.2.1 80 38) then (ii 0) else (ii 1)) else (ii 0)))) else (if q1.1 = (ii 107) then (if (q1.2.1 80 37) < (ii 6) then (ii 1) else (if q1.1 = (ii 102) then (if (ii 6) ≤ (q1.2.1 80 38) then (ii 0) else (ii 1)) else (ii 0))) else (if q1.1 = (ii 102) then (if (ii 6) ≤ (q1.2.1 80 38) then (ii 0) else (ii 1)) else (ii 0))))) else (if q1.1 = (ii 105) then (if (q1.2.1 80 36) < (ii 6) then (ii 1) else (if q1.1 = (ii 107) then (if (q1.2.1 80 37) < (ii 6) then (ii 1) else (if q1.1 = (ii 102) then (if (ii 6) ≤ (q1.2.1 80 38) then (ii 0) else (ii 1)) else (ii 0))) else (if q1.1 = (ii 102) then (if (ii 6) ≤ (q1.2.1 80 38) then (ii 0) else (ii 1)) else (ii 0)))) else (if q1.1 = (ii 107) then (if (q1.2.1 80 37) < (ii 6) then (ii 1) else (if q1.1 = (ii 102) then (if (ii 6) ≤ (q1.2.1 80 38) then (ii 0) else (ii 1)) else (ii 0))) else (if q1.1 = (ii 102) then (if (ii 6) ≤ (q1.2.1 80 38) then (ii 0) else (ii 1)) else (ii 0)))))))] [vi q7.1] q7.2 r h'
      refine Ev.blk (pc' := 92) (lv' := [some (vr 12 0 80), some (vi q1.1), some (vi (if q1.1 = (ii 115) then (if (q1.2.1 80 40) = 0 then (ii 1) else (if q1.1 = (ii 118) then (if (q1.2.1 80 35) < (ii 4) then (ii 1) else (if q1.1 = (ii 105) then (if (q1.2.1 80 36) < (ii 6) then (ii 1) else (if q1.1 = (ii 107) then (if (q1.2.1 80 37) < (ii 6) then (ii 1) else (if q1.1 = (ii 102) then (if (ii 6) ≤ (q1.2.1 80 38) then (ii 0) else (ii 1)) else (ii 0))) else (if q1.1 = (ii 102) then (if (ii 6) ≤ (q1.2.1 80 38) then (ii 0) else (ii 1)) else (ii 0)))) else (if q1.1 = (ii 107) then (if (q1.2.1 80 37) < (ii 6) then (ii 1) else (if q1.1 = (ii 102) then (if (ii 6) ≤ (q1.2.1 80 38) then (ii 0) else (ii 1)) else (ii 0))) else (if q1.1 = (ii 102) then (if (ii 6) ≤ (q1.2.1 80 38) then (ii 0) else (ii 1)) else (ii 0))))) else (if q1.1 = (ii 105) then (if (q1.2.1 80 36) < (ii 6) then (ii 1) else (if q1.1 = (ii 107) then (if (q1.2.1 80 37) < (ii 6) then (ii 1) else (if q1.1 = (ii 102) then (if (ii 6) ≤ (q1.2.1 80 38) then (ii 0) else (ii 1)) else (ii 0))) else (if q1.1 = (ii 102) then (if (ii 6) ≤ (q1.2.1 80 38) then (ii 0) else (ii 1)) else (ii 0)))) else (if q1.1 = (ii 107) then (if (q1.2.1 80 37) < (ii 6) then (ii 1) else (if q1.1 = (ii 102) then (if (ii 6) ≤ (q1.2.1 80 38) then (ii 0) else (ii 1)) else (ii 0))) else (if q1.1 = (ii 102) then (if (ii 6) ≤ (q1.2.1 80 38) then (ii 0) else (ii 1)) else (ii 0)))))) else (if q1.1 = (ii 118) then (if (q1.2.1 80 35) < (ii 4) then (ii 1) else (if q1.1 = (ii 105) then (if (q1.2.1 80 36) < (ii 6) then (ii 1) else (if q1.1 = (ii 107) then (if (q1.2.1 80 37) < (ii 6) then (ii 1) else (if q1.1 = (ii 102) then (if (ii 6) ≤ (q1.2.1 80 38) then (ii 0) else (ii 1)) else (ii 0))) else (if q1.1 = (ii 102) then (if (ii 6) ≤ (q1.2.1 80 38) then (ii 0) else (ii 1)) else (ii 0)))) else (if q1.1 = (ii 107) then (if (q1.2.1 80 37) < (ii 6) then (ii 1) else (if q1.1 = (ii 102) then (if (ii 6) ≤ (q1.2.1 80 38) then (ii 0) else (ii 1)) else (ii 0))) else (if q1.1 = (ii 102) then (if (ii 6) ≤ (q1.2.1 80 38) then (ii 0) else (ii 1)) else (ii 0))))) else (if q1.1 = (ii 105) then (if (q1.2.1 80 36) < (ii 6) then (ii 1) else (if q1.1 = (ii 107) then (if (q1.2.1 80 37) < (ii 6) then (ii 1) else (if q1.1 = (ii 102) then (if (ii 6) ≤ (q1.2.1 80 38) then (ii 0) else (ii 1)) else (ii 0))) else (if q1.1 = (ii 102) then (if (ii 6) ≤ (q1.2.1 80 38) then (ii 0) else (ii 1)) else (ii 0)))) else (if q1.1 = (ii 107) then (if (q1.2.1 80 37) < (ii 6) then (ii 1) else (if q1.1 = (ii 102) then (if (ii 6) ≤ (q1.2.1 80 38) then (ii 0) else (ii 1)) else (ii 0))) else (if q1.1 = (ii 102) then (if (ii 6) ≤ (q1.2.1 80 38) then (ii 0) else (ii 1)) else (ii 0)))))))]) (st' := []) (h' := q7.2) 45 1 (Nat.le_of_ble_eq_true rfl) tk_R_readClause rfl rfl ⟨trivial, trivial⟩ ?_
      obtain rfl := Option.some.inj hx
      obtain ⟨rfl, rfl⟩ := hP
      exact Ev.vret 46 tk_R_readClause rfl rfl
  refine Ev.icmp_ne 5 18 tk_R_readClause rfl (by decide) (fun hc15 => ?_) (fun hc15 => ?_)
  · refine Ev.blk (pc' := 21) (lv' := [some (vr 12 0 80), some (vi q1.1), none]) (st' := [vi (ii 118), vi q1.1]) (h' := q1.2) 9 2 (Nat.le_of_ble_eq_true rfl) tk_R_readClause rfl rfl ⟨trivial, trivial, trivial⟩ ?_
    refine Ev.icmp_ne 11 32 tk_R_readClause rfl (by decide) (fun hc16 => ?_) (fun hc16 => ?_)
    · refine Ev.blk (pc' := 35) (lv' := [some (vr 12 0 80), some (vi q1.1), none]) (st' := [vi (ii 105), vi q1.1]) (h' := q1.2) 16 2 (Nat.le_of_ble_eq_true rfl) tk_R_readClause rfl rfl ⟨trivial, trivial, trivial⟩ ?_
      refine Ev.icmp_ne 18 47 tk_R_readClause rfl (by decide) (fun hc17 => ?_) (fun hc17 => ?_)
      · refine Ev.blk (pc' := 50) (lv' := [some (vr 12 0 80), some (vi q1.1), none]) (st' := [vi (ii 107), vi q1.1]) (h' := q1.2) 23 2 (Nat.le_of_ble_eq_true rfl) tk_R_readClause rfl rfl ⟨trivial, trivial, trivial⟩ ?_
        refine Ev.icmp_ne 25 62 tk_R_readClause rfl (by decide) (fun hc18 => ?_) (fun hc18 => ?_)
        · refine Ev.blk (pc' := 65) (lv' := [some (vr 12 0 80), some (vi q1.1), none]) (st' := [vi (ii 102), vi q1.1]) (h' := q1.2) 30 2 (Nat.le_of_ble_eq_true rfl) tk_R_readClause rfl rfl ⟨trivial, trivial, trivial⟩ ?_
          refine Ev.icmp_ne 32 81 tk_R_readClause rfl (by decide) (fun hc19 => ?_) (fun hc19 => ?_)
          · refine Ev.blk (pc' := 82) (lv' := [some (vr 12 0 80), some (vi q1.1), none]) (st' := [vi (ii 0)]) (h' := q1.2) 39 1 (Nat.le_of_ble_eq_true rfl) tk_R_readClause rfl rfl ⟨trivial, trivial⟩ ?_
            exact Ev.msk [true, true, false] (K2 _ (by first | rfl | simp only [if_neg hc15, if_neg hc16, if_neg hc17, if_neg hc18, if_neg hc19]))
          · refine Ev.blk (pc' := 74) (lv' := [some (vr 12 0 80), some (vi q1.1), none]) (st' := [vi (ii 6), vi (q1.2.1 80 38)]) (h' := q1.2) 33 3 (Nat.le_of_ble_eq_true rfl) tk_R_readClause rfl rfl ⟨trivial, trivial, trivial, trivial⟩ ?_
            refine Ev.icmp_ge 36 81 tk_R_readClause rfl (by decide) (fun hc20 => ?_) (fun hc20 => ?_)
            · refine Ev.blk (pc' := 82) (lv' := [some (vr 12 0 80), some (vi q1.1), none]) (st' := [vi (ii 0)]) (h' := q1.2) 39 1 (Nat.le_of_ble_eq_true rfl) tk_R_readClause rfl rfl ⟨trivial, trivial⟩ ?_
              exact Ev.msk [true, true, false] (K2 _ (by first | rfl | simp only [if_neg hc15, if_neg hc16, if_neg hc17, if_neg hc18, if_pos hc19, if_pos hc20]))
            · refine Ev.blk (pc' := 82) (lv' := [some (vr 12 0 80), some (vi q1.1), none]) (st' := [vi (ii 1)]) (h' := q1.2) 37 2 (Nat.le_of_ble_eq_true rfl) tk_R_readClause rfl rfl ⟨trivial, trivial, trivial⟩ ?_
              exact Ev.msk [true, true, false] (K2 _ (by first | rfl | simp only [if_neg hc15, if_neg hc16, if_neg hc17, if_neg hc18, if_pos hc19, if_neg hc20]))
        · refine Ev.blk (pc' := 59) (lv' := [some (vr 12 0 80), some (vi q1.1), none]) (st' := [vi (ii 6), vi (q1.2.1 80 37)]) (h' := q1.2) 26 3 (Nat.le_of_ble_eq_true rfl) tk_R_readClause rfl rfl ⟨trivial, trivial, trivial, trivial⟩ ?_
          refine Ev.icmp_lt 29 77 tk_R_readClause rfl (by decide) (fun hc21 => ?_) (fun hc21 => ?_)
          · refine Ev.blk (pc' := 82) (lv' := [some (vr 12 0 80), some (vi q1.1), none]) (st' := [vi (ii 1)]) (h' := q1.2) 37 2 (Nat.le_of_ble_eq_true rfl) tk_R_readClause rfl rfl ⟨trivial, trivial, trivial⟩ ?_
            exact Ev.msk [true, true, false] (K2 _ (by first | rfl | simp only [if_neg hc15, if_neg hc16, if_neg hc17, if_pos hc18, if_pos hc21]))
          · refine Ev.blk (pc' := 65) (lv' := [some (vr 12 0 80), some (vi q1.1), none]) (st' := [vi (ii 102), vi q1.1]) (h' := q1.2) 30 2 (Nat.le_of_ble_eq_true rfl) tk_R_readClause rfl rfl ⟨trivial, trivial, trivial⟩ ?_
            refine Ev.icmp_ne 32 81 tk_R_readClause rfl (by decide) (fun hc22 => ?_) (fun hc22 => ?_)
            · refine Ev.blk (pc' := 82) (lv' := [some (vr 12 0 80), some (vi q1.1), none]) (st' := [vi (ii 0)]) (h' := q1.2) 39 1 (Nat.le_of_ble_eq_true rfl) tk_R_readClause rfl rfl ⟨trivial, trivial⟩ ?_
              exact Ev.msk [true, true, false] (K2 _ (by first | rfl | simp only [if_neg hc15, if_neg hc16, if_neg hc17, if_pos hc18, if_neg hc21, if_neg hc22]))
            · refine Ev.blk (pc' := 74) (lv' := [some (vr 12 0 80), some (vi q1.1), none]) (st' := [vi (ii 6), vi (q1.2.1 80 38)]) (h' := q1.2) 33 3 (Nat.le_of_ble_eq_true rfl) tk_R_readClause rfl rfl ⟨trivial, trivial, trivial, trivial⟩ ?_
              refine Ev.icmp_ge 36 81 tk_R_readClause rfl (by decide) (fun hc23 => ?_) (fun hc23 => ?_)
              · refine Ev.blk (pc' := 82) (lv' := [some (vr 12 0 80), some (vi q1.1), none]) (st' := [vi (ii 0)]) (h' := q1.2) 39 1 (Nat.le_of_ble_eq_true rfl) tk_R_readClause rfl rfl ⟨trivial, trivial⟩ ?_
                exact Ev.msk [true, true, false] (K2 _ (by first | rfl | simp only [if_neg hc15, if_neg hc16, if_neg hc17, if_pos hc18, if_neg hc21, if_pos hc22, if_pos hc23]))
              · refine Ev.blk (pc' := 82) (lv' := [some (vr 12 0 80), some (vi q1.1), none]) (st' := [vi (ii 1)]) (h' := q1.2) 37 2 (Nat.le_of_ble_eq_true rfl) tk_R_readClause rfl rfl ⟨trivial, trivial, trivial⟩ ?_
                exact Ev.msk [true, true, false] (K2 _ (by first | rfl | simp only [if_neg hc15, if_neg hc16, if_neg hc17, if_pos hc18, if_neg hc21, if_pos hc22, if_neg hc23]))
      · refine Ev.blk (pc' := 44) (lv' := [some (vr 12 0 80), some (vi q1.1), none]) (st' := [vi (ii 6), vi (q1.2.1 80 36)]) (h' := q1.2) 19 3 (Nat.le_of_ble_eq_true rfl) tk_R_readClause rfl rfl ⟨trivial, trivial, trivial, trivial⟩ ?_
        refine Ev.icmp_lt 22 77 tk_R_readClause rfl (by decide) (fun hc24 => ?_) (fun hc24 => ?_)
        · refine Ev.blk (pc' := 82) (lv' := [some (vr 12 0 80), some (vi q1.1), none]) (st' := [vi (ii 1)]) (h' := q1.2) 37 2 (Nat.le_of_ble_eq_true rfl) tk_R_readClause rfl rfl ⟨trivial, trivial, trivial⟩ ?_
          exact Ev.msk [true, true, false] (K2 _ (by first | rfl | simp only [if_neg hc15, if_neg hc16, if_pos hc17, if_pos hc24]))
        · refine Ev.blk (pc' := 50) (lv' := [some (vr 12 0 80), some (vi q1.1), none]) (st' := [vi (ii 107), vi q1.1]) (h' := q1.2) 23 2 (Nat.le_of_ble_eq_true rfl) tk_R_readClause rfl rfl ⟨trivial, trivial, trivial⟩ ?_
          refine Ev.icmp_ne 25 62 tk_R_readClause rfl (by decide) (fun hc25 => ?_) (fun hc25 => ?_)
          · refine Ev.blk (pc' := 65) (lv' := [some (vr 12 0 80), some (vi q1.1), none]) (st' := [vi (ii 102), vi q1.1]) (h' := q1.2) 30 2 (Nat.le_of_ble_eq_true rfl) tk_R_readClause rfl rfl ⟨trivial, trivial, trivial⟩ ?_
            refine Ev.icmp_ne 32 81 tk_R_readClause rfl (by decide) (fun hc26 => ?_) (fun hc26 => ?_)
            · refine Ev.blk (pc' := 82) (lv' := [some (vr 12 0 80), some (vi q1.1), none]) (st' := [vi (ii 0)]) (h' := q1.2) 39 1 (Nat.le_of_ble_eq_true rfl) tk_R_readClause rfl rfl ⟨trivial, trivial⟩ ?_
              exact Ev.msk [true, true, false] (K2 _ (by first | rfl | simp only [if_neg hc15, if_neg hc16, if_pos hc17, if_neg hc24, if_neg hc25, if_neg hc26]))
            · refine Ev.blk (pc' := 74) (lv' := [some (vr 12 0 80), some (vi q1.1), none]) (st' := [vi (ii 6), vi (q1.2.1 80 38)]) (h' := q1.2) 33 3 (Nat.le_of_ble_eq_true rfl) tk_R_readClause rfl rfl ⟨trivial, trivial, trivial, trivial⟩ ?_
              refine Ev.icmp_ge 36 81 tk_R_readClause rfl (by decide) (fun hc27 => ?_) (fun hc27 => ?_)
              · refine Ev.blk (pc' := 82) (lv' := [some (vr 12 0 80), some (vi q1.1), none]) (st' := [vi (ii 0)]) (h' := q1.2) 39 1 (Nat.le_of_ble_eq_true rfl) tk_R_readClause rfl rfl ⟨trivial, trivial⟩ ?_
                exact Ev.msk [true, true, false] (K2 _ (by first | rfl | simp only [if_neg hc15, if_neg hc16, if_pos hc17, if_neg hc24, if_neg hc25, if_pos hc26, if_pos hc27]))
              · refine Ev.blk (pc' := 82) (lv' := [some (vr 12 0 80), some (vi q1.1), none]) (st' := [vi (ii 1)]) (h' := q1.2) 37 2 (Nat.le_of_ble_eq_true rfl) tk_R_readClause rfl rfl ⟨trivial, trivial, trivial⟩ ?_
                exact Ev.msk [true, true, false] (K2 _ (by first | rfl | simp only [if_neg hc15, if_neg hc16, if_pos hc17, if_neg hc24, if_neg hc25, if_pos hc26, if_neg hc27]))
          · refine Ev.blk (pc' := 59) (lv' := [some (vr 12 0 80), some (vi q1.1), none]) (st' := [vi (ii 6), vi (q1.2.1 80 37)]) (h' := q1.2) 26 3 (Nat.le_of_ble_eq_true rfl) tk_R_readClause rfl rfl ⟨trivial, trivial, trivial, trivial⟩ ?_
            refine Ev.icmp_lt 29 77 tk_R_readClause rfl (by decide) (fun hc28 => ?_) (fun hc28 => ?_)
            · refine Ev.blk (pc' := 82) (lv' := [some (vr 12 0 80), some (vi q1.1), none]) (st' := [vi (ii 1)]) (h' := q1.2) 37 2 (Nat.le_of_ble_eq_true rfl) tk_R_readClause rfl rfl ⟨trivial, trivial, trivial⟩ ?_
              exact Ev.msk [true, true, false] (K2 _ (by first | rfl | simp only [if_neg hc15, if_neg hc16, if_pos hc17, if_neg hc24, if_pos hc25, if_pos hc28]))
            · refine Ev.blk (pc' := 65) (lv' := [some (vr 12 0 80), some (vi q1.1), none]) (st' := [vi (ii 102), vi q1.1]) (h' := q1.2) 30 2 (Nat.le_of_ble_eq_true rfl) tk_R_readClause rfl rfl ⟨trivial, trivial, trivial⟩ ?_
              refine Ev.icmp_ne 32 81 tk_R_readClause rfl (by decide) (fun hc29 => ?_) (fun hc29 => ?_)
              · refine Ev.blk (pc' := 82) (lv' := [some (vr 12 0 80), some (vi q1.1), none]) (st' := [vi (ii 0)]) (h' := q1.2) 39 1 (Nat.le_of_ble_eq_true rfl) tk_R_readClause rfl rfl ⟨trivial, trivial⟩ ?_
                exact Ev.msk [true, true, false] (K2 _ (by first | rfl | simp only [if_neg hc15, if_neg hc16, if_pos hc17, if_neg hc24, if_pos hc25, if_neg hc28, if_neg hc29]))
              · refine Ev.blk (pc' := 74) (lv' := [some (vr 12 0 80), some (vi q1.1), none]) (st' := [vi (ii 6), vi (q1.2.1 80 38)]) (h' := q1.2) 33 3 (Nat.le_of_ble_eq_true rfl) tk_R_readClause rfl rfl ⟨trivial, trivial, trivial, trivial⟩ ?_
                refine Ev.icmp_ge 36 81 tk_R_readClause rfl (by decide) (fun hc30 => ?_) (fun hc30 => ?_)
                · refine Ev.blk (pc' := 82) (lv' := [some (vr 12 0 80), some (vi q1.1), none]) (st' := [vi (ii 0)]) (h' := q1.2) 39 1 (Nat.le_of_ble_eq_true rfl) tk_R_readClause rfl rfl ⟨trivial, trivial⟩ ?_
                  exact Ev.msk [true, true, false] (K2 _ (by first | rfl | simp only [if_neg hc15, if_neg hc16, if_pos hc17, if_neg hc24, if_pos hc25, if_neg hc28, if_pos hc29, if_pos hc30]))
                · refine Ev.blk (pc' := 82) (lv' := [some (vr 12 0 80), some (vi q1.1), none]) (st' := [vi (ii 1)]) (h' := q1.2) 37 2 (Nat.le_of_ble_eq_true rfl) tk_R_readClause rfl rfl ⟨trivial, trivial, trivial⟩ ?_
                  exact Ev.msk [true, true, false] (K2 _ (by first | rfl | simp only [if_neg hc15, if_neg hc16, if_pos hc17, if_neg hc24, if_pos hc25, if_neg hc28, if_pos hc29, if_neg hc30]))
    · refine Ev.blk (pc' := 29) (lv' := [some (vr 12 0 80), some (vi q1.1), none]) (st' := [vi (ii 4), vi (q1.2.1 80 35)]) (h' := q1.2) 12 3 (Nat.le_of_ble_eq_true rfl) tk_R_readClause rfl rfl ⟨trivial, trivial, trivial, trivial⟩ ?_
      refine Ev.icmp_lt 15 77 tk_R_readClause rfl (by decide) (fun hc31 => ?_) (fun hc31 => ?_)
      · refine Ev.blk (pc' := 82) (lv' := [some (vr 12 0 80), some (vi q1.1), none]) (st' := [vi (ii 1)]) (h' := q1.2) 37 2 (Nat.le_of_ble_eq_true rfl) tk_R_readClause rfl rfl ⟨trivial, trivial, trivial⟩ ?_
        exact Ev.msk [true, true, false] (K2 _ (by first | rfl | simp only [if_neg hc15, if_pos hc16, if_pos hc31]))
      · refine Ev.blk (pc' := 35) (lv' := [some (vr 12 0 80), some (vi q1.1), none]) (st' := [vi (ii 105), vi q1.1]) (h' := q1.2) 16 2 (Nat.le_of_ble_eq_true rfl) tk_R_readClause rfl rfl ⟨trivial, trivial, trivial⟩ ?_
        refine Ev.icmp_ne 18 47 tk_R_readClause rfl (by decide) (fun hc32 => ?_) (fun hc32 => ?_)
        · refine Ev.blk (pc' := 50) (lv' := [some (vr 12 0 80), some (vi q1.1), none]) (st' := [vi (ii 107), vi q1.1]) (h' := q1.2) 23 2 (Nat.le_of_ble_eq_true rfl) tk_R_readClause rfl rfl ⟨trivial, trivial, trivial⟩ ?_
          refine Ev.icmp_ne 25 62 tk_R_readClause rfl (by decide) (fun hc33 => ?_) (fun hc33 => ?_)
          · refine Ev.blk (pc' := 65) (lv' := [some (vr 12 0 80), some (vi q1.1), none]) (st' := [vi (ii 102), vi q1.1]) (h' := q1.2) 30 2 (Nat.le_of_ble_eq_true rfl) tk_R_readClause rfl rfl ⟨trivial, trivial, trivial⟩ ?_
            refine Ev.icmp_ne 32 81 tk_R_readClause rfl (by decide) (fun hc34 => ?_) (fun hc34 => ?_)
            · refine Ev.blk (pc' := 82) (lv' := [some (vr 12 0 80), some (vi q1.1), none]) (st' := [vi (ii 0)]) (h' := q1.2) 39 1 (Nat.le_of_ble_eq_true rfl) tk_R_readClause rfl rfl ⟨trivial, trivial⟩ ?_
              exact Ev.msk [true, true, false] (K2 _ (by first | rfl | simp only [if_neg hc15, if_pos hc16, if_neg hc31, if_neg hc32, if_neg hc33, if_neg hc34]))
            · refine Ev.blk (pc' := 74) (lv' := [some (vr 12 0 80), some (vi q1.1), none]) (st' := [vi (ii 6), vi (q1.2.1 80 38)]) (h' := q1.2) 33 3 (Nat.le_of_ble_eq_true rfl) tk_R_readClause rfl rfl ⟨trivial, trivial, trivial, trivial⟩ ?_
              refine Ev.icmp_ge 36 81 tk_R_readClause rfl (by decide) (fun hc35 => ?_) (fun hc35 => ?_)
              · refine Ev.blk (pc' := 82) (lv' := [some (vr 12 0 80), some (vi q1.1), none]) (st' := [vi (ii 0)]) (h' := q1.2) 39 1 (Nat.le_of_ble_eq_true rfl) tk_R_readClause rfl rfl ⟨trivial, trivial⟩ ?_
                exact Ev.msk [true, true, false] (K2 _ (by first | rfl | simp only [if_neg hc15, if_pos hc16, if_neg hc31, if_neg hc32, if_neg hc33, if_pos hc34, if_pos hc35]))
              · refine Ev.blk (pc' := 82) (lv' := [some (vr 12 0 80), some (vi q1.1), none]) (st' := [vi (ii 1)]) (h' := q1.2) 37 2 (Nat.le_of_ble_eq_true rfl) tk_R_readClause rfl rfl ⟨trivial, trivial, trivial⟩ ?_
                exact Ev.msk [true, true, false] (K2 _ (by first | rfl | simp only [if_neg hc15, if_pos hc16, if_neg hc31, if_neg hc32, if_neg hc33, if_pos hc34, if_neg hc35]))
          · refine Ev.blk (pc' := 59) (lv' := [some (vr 12 0 80), some (vi q1.1), none]) (st' := [vi (ii 6), vi (q1.2.1 80 37)]) (h' := q1.2) 26 3 (Nat.le_of_ble_eq_true rfl) tk_R_readClause rfl rfl ⟨trivial, trivial, trivial, trivial⟩ ?_
            refine Ev.icmp_lt 29 77 tk_R_readClause rfl (by decide) (fun hc36 => ?_) (fun hc36 => ?_)
            · refine Ev.blk (pc' := 82) (lv' := [some (vr 12 0 80), some (vi q1.1), none]) (st' := [vi (ii 1)]) (h' := q1.2) 37 2 (Nat.le_of_ble_eq_true rfl) tk_R_readClause rfl rfl ⟨trivial, trivial, trivial⟩ ?_
              exact Ev.msk [true, true, false] (K2 _ (by first | rfl | simp only [if_neg hc15, if_pos hc16, if_neg hc31, if_neg hc32, if_pos hc33, if_pos hc36]))
            · refine Ev.blk (pc' := 65) (lv' := [some (vr 12 0 80), some (vi q1.1), none]) (st' := [vi (ii 102), vi q1.1]) (h' := q1.2) 30 2 (Nat.le_of_ble_eq_true rfl) tk_R_readClause rfl rfl ⟨trivial, trivial, trivial⟩ ?_
              refine Ev.icmp_ne 32 81 tk_R_readClause rfl (by decide) (fun hc37 => ?_) (fun hc37 => ?_)
              · refine Ev.blk (pc' := 82) (lv' := [some (vr 12 0 80), some (vi q1.1), none]) (st' := [vi (ii 0)]) (h' := q1.2) 39 1 (Nat.le_of_ble_eq_true rfl) tk_R_readClause rfl rfl ⟨trivial, trivial⟩ ?_
                exact Ev.msk [true, true, false] (K2 _ (by first | rfl | simp only [if_neg hc15, if_pos hc16, if_neg hc31, if_neg hc32, if_pos hc33, if_neg hc36, if_neg hc37]))
              · refine Ev.blk (pc' := 74) (lv' := [some (vr 12 0 80), some (vi q1.1), none]) (st' := [vi (ii 6), vi (q1.2.1 80 38)]) (h' := q1.2) 33 3 (Nat.le_of_ble_eq_true rfl) tk_R_readClause rfl rfl ⟨trivial, trivial, trivial, trivial⟩ ?_
                refine Ev.icmp_ge 36 81 tk_R_readClause rfl (by decide) (fun hc38 => ?_) (fun hc38 => ?_)
                · refine Ev.blk (pc' := 82) (lv' := [some (vr 12 0 80), some (vi q1.1), none]) (st' := [vi (ii 0)]) (h' := q1.2) 39 1 (Nat.le_of_ble_eq_true rfl) tk_R_readClause rfl rfl ⟨trivial, trivial⟩ ?_
                  exact Ev.msk [true, true, false] (K2 _ (by first | rfl | simp only [if_neg hc15, if_pos hc16, if_neg hc31, if_neg hc32, if_pos hc33, if_neg hc36, if_pos hc37, if_pos hc38]))
                · refine Ev.blk (pc' := 82) (lv' := [some (vr 12 0 80), some (vi q1.1), none]) (st' := [vi (ii 1)]) (h' := q1.2) 37 2 (Nat.le_of_ble_eq_true rfl) tk_R_readClause rfl rfl ⟨trivial, trivial, trivial⟩ ?_
                  exact Ev.msk [true, true, false] (K2 _ (by first | rfl | simp only [if_neg hc15, if_pos hc16, if_neg hc31, if_neg hc32, if_pos hc33, if_neg hc36, if_pos hc37, if_neg hc38]))
        · refine Ev.blk (pc' := 44) (lv' := [some (vr 12 0 80), some (vi q1.1), none]) (st' := [vi (ii 6), vi (q1.2.1 80 36)]) (h' := q1.2) 19 3 (Nat.le_of_ble_eq_true rfl) tk_R_readClause rfl rfl ⟨trivial, trivial, trivial, trivial⟩ ?_
          refine Ev.icmp_lt 22 77 tk_R_readClause rfl (by decide) (fun hc39 => ?_) (fun hc39 => ?_)
          · refine Ev.blk (pc' := 82) (lv' := [some (vr 12 0 80), some (vi q1.1), none]) (st' := [vi (ii 1)]) (h' := q1.2) 37 2 (Nat.le_of_ble_eq_true rfl) tk_R_readClause rfl rfl ⟨trivial, trivial, trivial⟩ ?_
            exact Ev.msk [true, true, false] (K2 _ (by first | rfl | simp only [if_neg hc15, if_pos hc16, if_neg hc31, if_pos hc32, if_pos hc39]))
          · refine Ev.blk (pc' := 50) (lv' := [some (vr 12 0 80), some (vi q1.1), none]) (st' := [vi (ii 107), vi q1.1]) (h' := q1.2) 23 2 (Nat.le_of_ble_eq_true rfl) tk_R_readClause rfl rfl ⟨trivial, trivial, trivial⟩ ?_
            refine Ev.icmp_ne 25 62 tk_R_readClause rfl (by decide) (fun hc40 => ?_) (fun hc40 => ?_)
            · refine Ev.blk (pc' := 65) (lv' := [some (vr 12 0 80), some (vi q1.1), none]) (st' := [vi (ii 102), vi q1.1]) (h' := q1.2) 30 2 (Nat.le_of_ble_eq_true rfl) tk_R_readClause rfl rfl ⟨trivial, trivial, trivial⟩ ?_
              refine Ev.icmp_ne 32 81 tk_R_readClause rfl (by decide) (fun hc41 => ?_) (fun hc41 => ?_)
              · refine Ev.blk (pc' := 82) (lv' := [some (vr 12 0 80), some (vi q1.1), none]) (st' := [vi (ii 0)]) (h' := q1.2) 39 1 (Nat.le_of_ble_eq_true rfl) tk_R_readClause rfl rfl ⟨trivial, trivial⟩ ?_
                exact Ev.msk [true, true, false] (K2 _ (by first | rfl | simp only [if_neg hc15, if_pos hc16, if_neg hc31, if_pos hc32, if_neg hc39, if_neg hc40, if_neg hc41]))
              · refine Ev.blk (pc' := 74) (lv' := [some (vr 12 0 80), some (vi q1.1), none]) (st' := [vi (ii 6), vi (q1.2.1 80 38)]) (h' := q1.2) 33 3 (Nat.le_of_ble_eq_true rfl) tk_R_readClause rfl rfl ⟨trivial, trivial, trivial, trivial⟩ ?_
                refine Ev.icmp_ge 36 81 tk_R_readClause rfl (by decide) (fun hc42 => ?_) (fun hc42 => ?_)
                · refine Ev.blk (pc' := 82) (lv' := [some (vr 12 0 80), some (vi q1.1), none]) (st' := [vi (ii 0)]) (h' := q1.2) 39 1 (Nat.le_of_ble_eq_true rfl) tk_R_readClause rfl rfl ⟨trivial, trivial⟩ ?_
                  exact Ev.msk [true, true, false] (K2 _ (by first | rfl | simp only [if_neg hc15, if_pos hc16, if_neg hc31, if_pos hc32, if_neg hc39, if_neg hc40, if_pos hc41, if_pos hc42]))
                · refine Ev.blk (pc' := 82) (lv' := [some (vr 12 0 80), some (vi q1.1), none]) (st' := [vi (ii 1)]) (h' := q1.2) 37 2 (Nat.le_of_ble_eq_true rfl) tk_R_readClause rfl rfl ⟨trivial, trivial, trivial⟩ ?_
                  exact Ev.msk [true, true, false] (K2 _ (by first | rfl | simp only [if_neg hc15, if_pos hc16, if_neg hc31, if_pos hc32, if_neg hc39, if_neg hc40, if_pos hc41, if_neg hc42]))
            · refine Ev.blk (pc' := 59) (lv' := [some (vr 12 0 80), some (vi q1.1), none]) (st' := [vi (ii 6), vi (q1.2.1 80 37)]) (h' := q1.2) 26 3 (Nat.le_of_ble_eq_true rfl) tk_R_readClause rfl rfl ⟨trivial, trivial, trivial, trivial⟩ ?_
              refine Ev.icmp_lt 29 77 tk_R_readClause rfl (by decide) (fun hc43 => ?_) (fun hc43 => ?_)
              · refine Ev.blk (pc' := 82) (lv' := [some (vr 12 0 80), some (vi q1.1), none]) (st' := [vi (ii 1)]) (h' := q1.2) 37 2 (Nat.le_of_ble_eq_true rfl) tk_R_readClause rfl rfl ⟨trivial, trivial, trivial⟩ ?_
                exact Ev.msk [true, true, false] (K2 _ (by first | rfl | simp only [if_neg hc15, if_pos hc16, if_neg hc31, if_pos hc32, if_neg hc39, if_pos hc40, if_pos hc43]))
              · refine Ev.blk (pc' := 65) (lv' := [some (vr 12 0 80), some (vi q1.1), none]) (st' := [vi (ii 102), vi q1.1]) (h' := q1.2) 30 2 (Nat.le_of_ble_eq_true rfl) tk_R_readClause rfl rfl ⟨trivial, trivial, trivial⟩ ?_
                refine Ev.icmp_ne 32 81 tk_R_readClause rfl (by decide) (fun hc44 => ?_) (fun hc44 => ?_)
                · refine Ev.blk (pc' := 82) (lv' := [some (vr 12 0 80), some (vi q1.1), none]) (st' := [vi (ii 0)]) (h' := q1.2) 39 1 (Nat.le_of_ble_eq_true rfl) tk_R_readClause rfl rfl ⟨trivial, trivial⟩ ?_
                  exact Ev.msk [true, true, false] (K2 _ (by first | rfl | simp only [if_neg hc15, if_pos hc16, if_neg hc31, if_pos hc32, if_neg hc39, if_pos hc40, if_neg hc43, if_neg hc44]))
                · refine Ev.blk (pc' := 74) (lv' := [some (vr 12 0 80), some (vi q1.1), none]) (st' := [vi (ii 6), vi (q1.2.1 80 38)]) (h' := q1.2) 33 3 (Nat.le_of_ble_eq_true rfl) tk_R_readClause rfl rfl ⟨trivial, trivial, trivial, trivial⟩ ?_
                  refine Ev.icmp_ge 36 81 tk_R_readClause rfl (by decide) (fun hc45 => ?_) (fun hc45 => ?_)
                  · refine Ev.blk (pc' := 82) (lv' := [some (vr 12 0 80), some (vi q1.1), none]) (st' := [vi (ii 0)]) (h' := q1.2) 39 1 (Nat.le_of_ble_eq_true rfl) tk_R_readClause rfl rfl ⟨trivial, trivial⟩ ?_
                    exact Ev.msk [true, true, false] (K2 _ (by first | rfl | simp only [if_neg hc15, if_pos hc16, if_neg hc31, if_pos hc32, if_neg hc39, if_pos hc40, if_neg hc43, if_pos hc44, if_pos hc45]))
                  · refine Ev.blk (pc' := 82) (lv' := [some (vr 12 0 80), some (vi q1.1), none]) (st' := [vi (ii 1)]) (h' := q1.2) 37 2 (Nat.le_of_ble_eq_true rfl) tk_R_readClause rfl rfl ⟨trivial, trivial, trivial⟩ ?_
                    exact Ev.msk [true, true, false] (K2 _ (by first | rfl | simp only [if_neg hc15, if_pos hc16, if_neg hc31, if_pos hc32, if_neg hc39, if_pos hc40, if_neg hc43, if_pos hc44, if_neg hc45]))
  · refine Ev.blk (pc' := 15) (lv' := [some (vr 12 0 80), some (vi q1.1), none]) (st' := [vi (q1.2.1 80 40)]) (h' := q1.2) 6 2 (Nat.le_of_ble_eq_true rfl) tk_R_readClause rfl rfl ⟨trivial, trivial, trivial⟩ ?_
    refine Ev.if_eq 8 77 tk_R_readClause rfl (by decide) (fun hc46 => ?_) (fun hc46 => ?_)
    · refine Ev.blk (pc' := 82) (lv' := [some (vr 12 0 80), some (vi q1.1), none]) (st' := [vi (ii 1)]) (h' := q1.2) 37 2 (Nat.le_of_ble_eq_true rfl) tk_R_readClause rfl rfl ⟨trivial, trivial, trivial⟩ ?_
      exact Ev.msk [true, true, false] (K2 _ (by first | rfl | simp only [if_pos hc15, if_pos hc46]))
    · refine Ev.blk (pc' := 21) (lv' := [some (vr 12 0 80), some (vi q1.1), none]) (st' := [vi (ii 118), vi q1.1]) (h' := q1.2) 9 2 (Nat.le_of_ble_eq_true rfl) tk_R_readClause rfl rfl ⟨trivial, trivial, trivial⟩ ?_
      refine Ev.icmp_ne 11 32 tk_R_readClause rfl (by decide) (fun hc47 => ?_) (fun hc47 => ?_)
      · refine Ev.blk (pc' := 35) (lv' := [some (vr 12 0 80), some (vi q1.1), none]) (st' := [vi (ii 105), vi q1.1]) (h' := q1.2) 16 2 (Nat.le_of_ble_eq_true rfl) tk_R_readClause rfl rfl ⟨trivial, trivial, trivial⟩ ?_
        refine Ev.icmp_ne 18 47 tk_R_readClause rfl (by decide) (fun hc48 => ?_) (fun hc48 => ?_)
        · refine Ev.blk (pc' := 50) (lv' := [some (vr 12 0 80), some (vi q1.1), none]) (st' := [vi (ii 107), vi q1.1]) (h' := q1.2) 23 2 (Nat.le_of_ble_eq_true rfl) tk_R_readClause rfl rfl ⟨trivial, trivial, trivial⟩ ?_
          refine Ev.icmp_ne 25 62 tk_R_readClause rfl (by decide) (fun hc49 => ?_) (fun hc49 => ?_)
          · refine Ev.blk (pc' := 65) (lv' := [some (vr 12 0 80), some (vi q1.1), none]) (st' := [vi (ii 102), vi q1.1]) (h' := q1.2) 30 2 (Nat.le_of_ble_eq_true rfl) tk_R_readClause rfl rfl ⟨trivial, trivial, trivial⟩ ?_
            refine Ev.icmp_ne 32 81 tk_R_readClause rfl (by decide) (fun hc50 => ?_) (fun hc50 => ?_)
            · refine Ev.blk (pc' := 82) (lv' := [some (vr 12 0 80), some (vi q1.1), none]) (st' := [vi (ii 0)]) (h' := q1.2) 39 1 (Nat.le_of_ble_eq_true rfl) tk_R_readClause rfl rfl ⟨trivial, trivial⟩ ?_
              exact Ev.msk [true, true, false] (K2 _ (by first | rfl | simp only [if_pos hc15, if_neg hc46, if_neg hc47, if_neg hc48, if_neg hc49, if_neg hc50]))
            · refine Ev.blk (pc' := 74) (lv' := [some (vr 12 0 80), some (vi q1.1), none]) (st' := [vi (ii 6), vi (q1.2.1 80 38)]) (h' := q1.2) 33 3 (Nat.le_of_ble_eq_true rfl) tk_R_readClause rfl rfl ⟨trivial, trivial, trivial, trivial⟩ ?_
              refine Ev.icmp_ge 36 81 tk_R_readClause rfl (by decide) (fun hc51 => ?_) (fun hc51 => ?_)
              · refine Ev.blk (pc' := 82) (lv' := [some (vr 12 0 80), some (vi q1.1), none]) (st' := [vi (ii 0)]) (h' := q1.2) 39 1 (Nat.le_of_ble_eq_true rfl) tk_R_readClause rfl rfl ⟨trivial, trivial⟩ ?_
                exact Ev.msk [true, true, false] (K2 _ (by first | rfl | simp only [if_pos hc15, if_neg hc46, if_neg hc47, if_neg hc48, if_neg hc49, if_pos hc50, if_pos hc51]))
              · refine Ev.blk (pc' := 82) (lv' := [some (vr 12 0 80), some (vi q1.1), none]) (st' := [vi (ii 1)]) (h' := q1.2) 37 2 (Nat.le_of_ble_eq_true rfl) tk_R_readClause rfl rfl ⟨trivial, trivial, trivial⟩ ?_
                exact Ev.msk [true, true, false] (K2 _ (by first | rfl | simp only [if_pos hc15, if_neg hc46, if_neg hc47, if_neg hc48, if_neg hc49, if_pos hc50, if_neg hc51]))
          · refine Ev.blk (pc' := 59) (lv' := [some (vr 12 0 80), some (vi q1.1), none]) (st' := [vi (ii 6), vi (q1.2.1 80 37)]) (h' := q1.2) 26 3 (Nat.le_of_ble_eq_true rfl) tk_R_readClause rfl rfl ⟨trivial, trivial, trivial, trivial⟩ ?_
            refine Ev.icmp_lt 29 77 tk_R_readClause rfl (by decide) (fun hc52 => ?_) (fun hc52 => ?_)
            · refine Ev.blk (pc' := 82) (lv' := [some (vr 12 0 80), some (vi q1.1), none]) (st' := [vi (ii 1)]) (h' := q1.2) 37 2 (Nat.le_of_ble_eq_true rfl) tk_R_readClause rfl rfl ⟨trivial, trivial, trivial⟩ ?_
              exact Ev.msk [true, true, false] (K2 _ (by first | rfl | simp only [if_pos hc15, if_neg hc46, if_neg hc47, if_neg hc48, if_pos hc49, if_pos hc52]))
            · refine Ev.blk (pc' := 65) (lv' := [some (vr 12 0 80), some (vi q1.1), none]) (st' := [vi (ii 102), vi q1.1]) (h' := q1.2) 30 2 (Nat.le_of_ble_eq_true rfl) tk_R_readClause rfl rfl ⟨trivial, trivial, trivial⟩ ?_
              refine Ev.icmp_ne 32 81 tk_R_readClause rfl (by decide) (fun hc53 => ?_) (fun hc53 => ?_)
              · refine Ev.blk (pc' := 82) (lv' := [some (vr 12 0 80), some (vi q1.1), none]) (st' := [vi (ii 0)]) (h' := q1.2) 39 1 (Nat.le_of_ble_eq_true rfl) tk_R_readClause rfl rfl ⟨trivial, trivial⟩ ?_
                exact Ev.msk [true, true, false] (K2 _ (by first | rfl | simp only [if_pos hc15, if_neg hc46, if_neg hc47, if_neg hc48, if_pos hc49, if_neg hc52, if_neg hc53]))
              · refine Ev.blk (pc' := 74) (lv' := [some (vr 12 0 80), some (vi q1.1), none]) (st' := [vi (ii 6), vi (q1.2.1 80 38)]) (h' := q1.2) 33 3 (Nat.le_of_ble_eq_true rfl) tk_R_readClause rfl rfl ⟨trivial, trivial, trivial, trivial⟩ ?_
                refine Ev.icmp_ge 36 81 tk_R_readClause rfl (by decide) (fun hc54 => ?_) (fun hc54 => ?_)
                · refine Ev.blk (pc' := 82) (lv' := [some (vr 12 0 80), some (vi q1.1), none]) (st' := [vi (ii 0)]) (h' := q1.2) 39 1 (Nat.le_of_ble_eq_true rfl) tk_R_readClause rfl rfl ⟨trivial, trivial⟩ ?_
                  exact Ev.msk [true, true, false] (K2 _ (by first | rfl | simp only [if_pos hc15, if_neg hc46, if_neg hc47, if_neg hc48, if_pos hc49, if_neg hc52, if_pos hc53, if_pos hc54]))
                · refine Ev.blk (pc' := 82) (lv' := [some (vr 12 0 80), some (vi q1.1), none]) (st' := [vi (ii 1)]) (h' := q1.2) 37 2 (Nat.le_of_ble_eq_true rfl) tk_R_readClause rfl rfl ⟨trivial, trivial, trivial⟩ ?_
                  exact Ev.msk [true, true, false] (K2 _ (by first | rfl | simp only [if_pos hc15, if_neg hc46, if_neg hc47, if_neg hc48, if_pos hc49, if_neg hc52, if_pos hc53, if_neg hc54]))
        · refine Ev.blk (pc' := 44) (lv' := [some (vr 12 0 80), some (vi q1.1), none]) (st' := [vi (ii 6), vi (q1.2.1 80 36)]) (h' := q1.2) 19 3 (Nat.le_of_ble_eq_true rfl) tk_R_readClause rfl rfl ⟨trivial, trivial, trivial, trivial⟩ ?_
          refine Ev.icmp_lt 22 77 tk_R_readClause rfl (by decide) (fun hc55 => ?_) (fun hc55 => ?_)
          · refine Ev.blk (pc' := 82) (lv' := [some (vr 12 0 80), some (vi q1.1), none]) (st' := [vi (ii 1)]) (h' := q1.2) 37 2 (Nat.le_of_ble_eq_true rfl) tk_R_readClause rfl rfl ⟨trivial, trivial, trivial⟩ ?_
            exact Ev.msk [true, true, false] (K2 _ (by first | rfl | simp only [if_pos hc15, if_neg hc46, if_neg hc47, if_pos hc48, if_pos hc55]))
          · refine Ev.blk (pc' := 50) (lv' := [some (vr 12 0 80), some (vi q1.1), none]) (st' := [vi (ii 107), vi q1.1]) (h' := q1.2) 23 2 (Nat.le_of_ble_eq_true rfl) tk_R_readClause rfl rfl ⟨trivial, trivial, trivial⟩ ?_
            refine Ev.icmp_ne 25 62 tk_R_readClause rfl (by decide) (fun hc56 => ?_) (fun hc56 => ?_)
            · refine Ev.blk (pc' := 65) (lv' := [some (vr 12 0 80), some (vi q1.1), none]) (st' := [vi (ii 102), vi q1.1]) (h' := q1.2) 30 2 (Nat.le_of_ble_eq_true rfl) tk_R_readClause rfl rfl ⟨trivial, trivial, trivial⟩ ?_
              refine Ev.icmp_ne 32 81 tk_R_readClause rfl (by decide) (fun hc57 => ?_) (fun hc57 => ?_)
              · refine Ev.blk (pc' := 82) (lv' := [some (vr 12 0 80), some (vi q1.1), none]) (st' := [vi (ii 0)]) (h' := q1.2) 39 1 (Nat.le_of_ble_eq_true rfl) tk_R_readClause rfl rfl ⟨trivial, trivial⟩ ?_
                exact Ev.msk [true, true, false] (K2 _ (by first | rfl | simp only [if_pos hc15, if_neg hc46, if_neg hc47, if_pos hc48, if_neg hc55, if_neg hc56, if_neg hc57]))
              · refine Ev.blk (pc' := 74) (lv' := [some (vr 12 0 80), some (vi q1.1), none]) (st' := [vi (ii 6), vi (q1.2.1 80 38)]) (h' := q1.2) 33 3 (Nat.le_of_ble_eq_true rfl) tk_R_readClause rfl rfl ⟨trivial, trivial, trivial, trivial⟩ ?_
                refine Ev.icmp_ge 36 81 tk_R_readClause rfl (by decide) (fun hc58 => ?_) (fun hc58 => ?_)
                · refine Ev.blk (pc' := 82) (lv' := [some (vr 12 0 80), some (vi q1.1), none]) (st' := [vi (ii 0)]) (h' := q1.2) 39 1 (Nat.le_of_ble_eq_true rfl) tk_R_readClause rfl rfl ⟨trivial, trivial⟩ ?_
                  exact Ev.msk [true, true, false] (K2 _ (by first | rfl | simp only [if_pos hc15, if_neg hc46, if_neg hc47, if_pos hc48, if_neg hc55, if_neg hc56, if_pos hc57, if_pos hc58]))
                · refine Ev.blk (pc' := 82) (lv' := [some (vr 12 0 80), some (vi q1.1), none]) (st' := [vi (ii 1)]) (h' := q1.2) 37 2 (Nat.le_of_ble_eq_true rfl) tk_R_readClause rfl rfl ⟨trivial, trivial, trivial⟩ ?_
                  exact Ev.msk [true, true, false] (K2 _ (by first | rfl | simp only [if_pos hc15, if_neg hc46, if_neg hc47, if_pos hc48, if_neg hc55, if_neg hc56, if_pos hc57, if_neg hc58]))
            · refine Ev.blk (pc' := 59) (lv' := [some (vr 12 0 80), some (vi q1.1), none]) (st' := [vi (ii 6), vi (q1.2.1 80 37)]) (h' := q1.2) 26 3 (Nat.le_of_ble_eq_true rfl) tk_R_readClause rfl rfl ⟨trivial, trivial, trivial, trivial⟩ ?_
              refine Ev.icmp_lt 29 77 tk_R_readClause rfl (by decide) (fun hc59 => ?_) (fun hc59 => ?_)
              · refine Ev.blk (pc' := 82) (lv' := [some (vr 12 0 80), some (vi q1.1), none]) (st' := [vi (ii 1)]) (h' := q1.2) 37 2 (Nat.le_of_ble_eq_true rfl) tk_R_readClause rfl rfl ⟨trivial, trivial, trivial⟩ ?_
                exact Ev.msk [true, true, false] (K2 _ (by first | rfl | simp only [if_pos hc15, if_neg hc46, if_neg hc47, if_pos hc48, if_neg hc55, if_pos hc56, if_pos hc59]))
              · refine Ev.blk (pc' := 65) (lv' := [some (vr 12 0 80), some (vi q1.1), none]) (st' := [vi (ii 102), vi q1.1]) (h' := q1.2) 30 2 (Nat.le_of_ble_eq_true rfl) tk_R_readClause rfl rfl ⟨trivial, trivial, trivial⟩ ?_
                refine Ev.icmp_ne 32 81 tk_R_readClause rfl (by decide) (fun hc60 => ?_) (fun hc60 => ?_)
                · refine Ev.blk (pc' := 82) (lv' := [some (vr 12 0 80), some (vi q1.1), none]) (st' := [vi (ii 0)]) (h' := q1.2) 39 1 (Nat.le_of_ble_eq_true rfl) tk_R_readClause rfl rfl ⟨trivial, trivial⟩ ?_
                  exact Ev.msk [true, true, false] (K2 _ (by first | rfl | simp only [if_pos hc15, if_neg hc46, if_neg hc47, if_pos hc48, if_neg hc55, if_pos hc56, if_neg hc59, if_neg hc60]))
                · refine Ev.blk (pc' := 74) (lv' := [some (vr 12 0 80), some (vi q1.1), none]) (st' := [vi (ii 6), vi (q1.2.1 80 38)]) (h' := q1.2) 33 3 (Nat.le_of_ble_eq_true rfl) tk_R_readClause rfl rfl ⟨trivial, trivial, trivial, trivial⟩ ?_
                  refine Ev.icmp_ge 36 81 tk_R_readClause rfl (by decide) (fun hc61 => ?_) (fun hc61 => ?_)
                  · refine Ev.blk (pc' := 82) (lv' := [some (vr 12 0 80), some (vi q1.1), none]) (st' := [vi (ii 0)]) (h' := q1.2) 39 1 (Nat.le_of_ble_eq_true rfl) tk_R_readClause rfl rfl ⟨trivial, trivial⟩ ?_
                    exact Ev.msk [true, true, false] (K2 _ (by first | rfl | simp only [if_pos hc15, if_neg hc46, if_neg hc47, if_pos hc48, if_neg hc55, if_pos hc56, if_neg hc59, if_pos hc60, if_pos hc61]))
                  · refine Ev.blk (pc' := 82) (lv' := [some (vr 12 0 80), some (vi q1.1), none]) (st' := [vi (ii 1)]) (h' := q1.2) 37 2 (Nat.le_of_ble_eq_true rfl) tk_R_readClause rfl rfl ⟨trivial, trivial, trivial⟩ ?_
                    exact Ev.msk [true, true, false] (K2 _ (by first | rfl | simp only [if_pos hc15, if_neg hc46, if_neg hc47, if_pos hc48, if_neg hc55, if_pos hc56, if_neg hc59, if_pos hc60, if_neg hc61]))
      · refine Ev.blk (pc' := 29) (lv' := [some (vr 12 0 80), some (vi q1.1), none]) (st' := [vi (ii 4), vi (q1.2.1 80 35)]) (h' := q1.2) 12 3 (Nat.le_of_ble_eq_true rfl) tk_R_readClause rfl rfl ⟨trivial, trivial, trivial, trivial⟩ ?_
        refine Ev.icmp_lt 15 77 tk_R_readClause rfl (by decide) (fun hc62 => ?_) (fun hc62 => ?_)
        · refine Ev.blk (pc' := 82) (lv' := [some (vr 12 0 80), some (vi q1.1), none]) (st' := [vi (ii 1)]) (h' := q1.2) 37 2 (Nat.le_of_ble_eq_true rfl) tk_R_readClause rfl rfl ⟨trivial, trivial, trivial⟩ ?_
          exact Ev.msk [true, true, false] (K2 _ (by first | rfl | simp only [if_pos hc15, if_neg hc46, if_pos hc47, if_pos hc62]))
        · refine Ev.blk (pc' := 35) (lv' := [some (vr 12 0 80), some (vi q1.1), none]) (st' := [vi (ii 105), vi q1.1]) (h' := q1.2) 16 2 (Nat.le_of_ble_eq_true rfl) tk_R_readClause rfl rfl ⟨trivial, trivial, trivial⟩ ?_
          refine Ev.icmp_ne 18 47 tk_R_readClause rfl (by decide) (fun hc63 => ?_) (fun hc63 => ?_)
          · refine Ev.blk (pc' := 50) (lv' := [some (vr 12 0 80), some (vi q1.1), none]) (st' := [vi (ii 107), vi q1.1]) (h' := q1.2) 23 2 (Nat.le_of_ble_eq_true rfl) tk_R_readClause rfl rfl ⟨trivial, trivial, trivial⟩ ?_
            refine Ev.icmp_ne 25 62 tk_R_readClause rfl (by decide) (fun hc64 => ?_) (fun hc64 => ?_)
            · refine Ev.blk (pc' := 65) (lv' := [some (vr 12 0 80), some (vi q1.1), none]) (st' := [vi (ii 102), vi q1.1]) (h' := q1.2) 30 2 (Nat.le_of_ble_eq_true rfl) tk_R_readClause rfl rfl ⟨trivial, trivial, trivial⟩ ?_
              refine Ev.icmp_ne 32 81 tk_R_readClause rfl (by decide) (fun hc65 => ?_) (fun hc65 => ?_)
              · refine Ev.blk (pc' := 82) (lv' := [some (vr 12 0 80), some (vi q1.1), none]) (st' := [vi (ii 0)]) (h' := q1.2) 39 1 (Nat.le_of_ble_eq_true rfl) tk_R_readClause rfl rfl ⟨trivial, trivial⟩ ?_
                exact Ev.msk [true, true, false] (K2 _ (by first | rfl | simp only [if_pos hc15, if_neg hc46, if_pos hc47, if_neg hc62, if_neg hc63, if_neg hc64, if_neg hc65]))
              · refine Ev.blk (pc' := 74) (lv' := [some (vr 12 0 80), some (vi q1.1), none]) (st' := [vi (ii 6), vi (q1.2.1 80 38)]) (h' := q1.2) 33 3 (Nat.le_of_ble_eq_true rfl) tk_R_readClause rfl rfl ⟨trivial, trivial, trivial, trivial⟩ ?_
                refine Ev.icmp_ge 36 81 tk_R_readClause rfl (by decide) (fun hc66 => ?_) (fun hc66 => ?_)
                · refine Ev.blk (pc' := 82) (lv' := [some (vr 12 0 80), some (vi q1.1), none]) (st' := [vi (ii 0)]) (h' := q1.2) 39 1 (Nat.le_of_ble_eq_true rfl) tk_R_readClause rfl rfl ⟨trivial, trivial⟩ ?_
                  exact Ev.msk [true, true, false] (K2 _ (by first | rfl | simp only [if_pos hc15, if_neg hc46, if_pos hc47, if_neg hc62, if_neg hc63, if_neg hc64, if_pos hc65, if_pos hc66]))
                · refine Ev.blk (pc' := 82) (lv' := [some (vr 12 0 80), some (vi q1.1), none]) (st' := [vi (ii 1)]) (h' := q1.2) 37 2 (Nat.le_of_ble_eq_true rfl) tk_R_readClause rfl rfl ⟨trivial, trivial, trivial⟩ ?_
                  exact Ev.msk [true, true, false] (K2 _ (by first | rfl | simp only [if_pos hc15, if_neg hc46, if_pos hc47, if_neg hc62, if_neg hc63, if_neg hc64, if_pos hc65, if_neg hc66]))
            · refine Ev.blk (pc' := 59) (lv' := [some (vr 12 0 80), some (vi q1.1), none]) (st' := [vi (ii 6), vi (q1.2.1 80 37)]) (h' := q1.2) 26 3 (Nat.le_of_ble_eq_true rfl) tk_R_readClause rfl rfl ⟨trivial, trivial, trivial, trivial⟩ ?_
              refine Ev.icmp_lt 29 77 tk_R_readClause rfl (by decide) (fun hc67 => ?_) (fun hc67 => ?_)
              · refine Ev.blk (pc' := 82) (lv' := [some (vr 12 0 80), some (vi q1.1), none]) (st' := [vi (ii 1)]) (h' := q1.2) 37 2 (Nat.le_of_ble_eq_true rfl) tk_R_readClause rfl rfl ⟨trivial, trivial, trivial⟩ ?_
                exact Ev.msk [true, true, false] (K2 _ (by first | rfl | simp only [if_pos hc15, if_neg hc46, if_pos hc47, if_neg hc62, if_neg hc63, if_pos hc64, if_pos hc67]))
              · refine Ev.blk (pc' := 65) (lv' := [some (vr 12 0 80), some (vi q1.1), none]) (st' := [vi (ii 102), vi q1.1]) (h' := q1.2) 30 2 (Nat.le_of_ble_eq_true rfl) tk_R_readClause rfl rfl ⟨trivial, trivial, trivial⟩ ?_
                refine Ev.icmp_ne 32 81 tk_R_readClause rfl (by decide) (fun hc68 => ?_) (fun hc68 => ?_)
                · refine Ev.blk (pc' := 82) (lv' := [some (vr 12 0 80), some (vi q1.1), none]) (st' := [vi (ii 0)]) (h' := q1.2) 39 1 (Nat.le_of_ble_eq_true rfl) tk_R_readClause rfl rfl ⟨trivial, trivial⟩ ?_
                  exact Ev.msk [true, true, false] (K2 _ (by first | rfl | simp only [if_pos hc15, if_neg hc46, if_pos hc47, if_neg hc62, if_neg hc63, if_pos hc64, if_neg hc67, if_neg hc68]))
                · refine Ev.blk (pc' := 74) (lv' := [some (vr 12 0 80), some (vi q1.1), none]) (st' := [vi (ii 6), vi (q1.2.1 80 38)]) (h' := q1.2) 33 3 (Nat.le_of_ble_eq_true rfl) tk_R_readClause rfl rfl ⟨trivial, trivial, trivial, trivial⟩ ?_
                  refine Ev.icmp_ge 36 81 tk_R_readClause rfl (by decide) (fun hc69 => ?_) (fun hc69 => ?_)
                  · refine Ev.blk (pc' := 82) (lv' := [some (vr 12 0 80), some (vi q1.1), none]) (st' := [vi (ii 0)]) (h' := q1.2) 39 1 (Nat.le_of_ble_eq_true rfl) tk_R_readClause rfl rfl ⟨trivial, trivial⟩ ?_
                    exact Ev.msk [true, true, false] (K2 _ (by first | rfl | simp only [if_pos hc15, if_neg hc46, if_pos hc47, if_neg hc62, if_neg hc63, if_pos hc64, if_neg hc67, if_pos hc68, if_pos hc69]))
                  · refine Ev.blk (pc' := 82) (lv' := [some (vr 12 0 80), some (vi q1.1), none]) (st' := [vi (ii 1)]) (h' := q1.2) 37 2 (Nat.le_of_ble_eq_true rfl) tk_R_readClause rfl rfl ⟨trivial, trivial, trivial⟩ ?_
                    exact Ev.msk [true, true, false] (K2 _ (by first | rfl | simp only [if_pos hc15, if_neg hc46, if_pos hc47, if_neg hc62, if_neg hc63, if_pos hc64, if_neg hc67, if_pos hc68, if_neg hc69]))
          · refine Ev.blk (pc' := 44) (lv' := [some (vr 12 0 80), some (vi q1.1), none]) (st' := [vi (ii 6), vi (q1.2.1 80 36)]) (h' := q1.2) 19 3 (Nat.le_of_ble_eq_true rfl) tk_R_readClause rfl rfl ⟨trivial, trivial, trivial, trivial⟩ ?_
            refine Ev.icmp_lt 22 77 tk_R_readClause rfl (by decide) (fun hc70 => ?_) (fun hc70 => ?_)
            · refine Ev.blk (pc' := 82) (lv' := [some (vr 12 0 80), some (vi q1.1), none]) (st' := [vi (ii 1)]) (h' := q1.2) 37 2 (Nat.le_of_ble_eq_true rfl) tk_R_readClause rfl rfl ⟨trivial, trivial, trivial⟩ ?_
              exact Ev.msk [true, true, false] (K2 _ (by first | rfl | simp only [if_pos hc15, if_neg hc46, if_pos hc47, if_neg hc62, if_pos hc63, if_pos hc70]))
            · refine Ev.blk (pc' := 50) (lv' := [some (vr 12 0 80), some (vi q1.1), none]) (st' := [vi (ii 107), vi q1.1]) (h' := q1.2) 23 2 (Nat.le_of_ble_eq_true rfl) tk_R_readClause rfl rfl ⟨trivial, trivial, trivial⟩ ?_
              refine Ev.icmp_ne 25 62 tk_R_readClause rfl (by decide) (fun hc71 => ?_) (fun hc71 => ?_)
              · refine Ev.blk (pc' := 65) (lv' := [some (vr 12 0 80), some (vi q1.1), none]) (st' := [vi (ii 102), vi q1.1]) (h' := q1.2) 30 2 (Nat.le_of_ble_eq_true rfl) tk_R_readClause rfl rfl ⟨trivial, trivial, trivial⟩ ?_
                refine Ev.icmp_ne 32 81 tk_R_readClause rfl (by decide) (fun hc72 => ?_) (fun hc72 => ?_)
                · refine Ev.blk (pc' := 82) (lv' := [some (vr 12 0 80), some (vi q1.1), none]) (st' := [vi (ii 0)]) (h' := q1.2) 39 1 (Nat.le_of_ble_eq_true rfl) tk_R_readClause rfl rfl ⟨trivial, trivial⟩ ?_
                  exact Ev.msk [true, true, false] (K2 _ (by first | rfl | simp only [if_pos hc15, if_neg hc46, if_pos hc47, if_neg hc62, if_pos hc63, if_neg hc70, if_neg hc71, if_neg hc72]))
                · refine Ev.blk (pc' := 74) (lv' := [some (vr 12 0 80), some (vi q1.1), none]) (st' := [vi (ii 6), vi (q1.2.1 80 38)]) (h' := q1.2) 33 3 (Nat.le_of_ble_eq_true rfl) tk_R_readClause rfl rfl ⟨trivial, trivial, trivial, trivial⟩ ?_
                  refine Ev.icmp_ge 36 81 tk_R_readClause rfl (by decide) (fun hc73 => ?_) (fun hc73 => ?_)
                  · refine Ev.blk (pc' := 82) (lv' := [some (vr 12 0 80), some (vi q1.1), none]) (st' := [vi (ii 0)]) (h' := q1.2) 39 1 (Nat.le_of_ble_eq_true rfl) tk_R_readClause rfl rfl ⟨trivial, trivial⟩ ?_
                    exact Ev.msk [true, true, false] (K2 _ (by first | rfl | simp only [if_pos hc15, if_neg hc46, if_pos hc47, if_neg hc62, if_pos hc63, if_neg hc70, if_neg hc71, if_pos hc72, if_pos hc73]))
                  · refine Ev.blk (pc' := 82) (lv' := [some (vr 12 0 80), some (vi q1.1), none]) (st' := [vi (ii 1)]) (h' := q1.2) 37 2 (Nat.le_of_ble_eq_true rfl) tk_R_readClause rfl rfl ⟨trivial, trivial, trivial⟩ ?_
                    exact Ev.msk [true, true, false] (K2 _ (by first | rfl | simp only [if_pos hc15, if_neg hc46, if_pos hc47, if_neg hc62, if_pos hc63, if_neg hc70, if_neg hc71, if_pos hc72, if_neg hc73]))
              · refine Ev.blk (pc' := 59) (lv' := [some (vr 12 0 80), some (vi q1.1), none]) (st' := [vi (ii 6), vi (q1.2.1 80 37)]) (h' := q1.2) 26 3 (Nat.le_of_ble_eq_true rfl) tk_R_readClause rfl rfl ⟨trivial, trivial, trivial, trivial⟩ ?_
                refine Ev.icmp_lt 29 77 tk_R_readClause rfl (by decide) (fun hc74 => ?_) (fun hc74 => ?_)
                · refine Ev.blk (pc' := 82) (lv' := [some (vr 12 0 80), some (vi q1.1), none]) (st' := [vi (ii 1)]) (h' := q1.2) 37 2 (Nat.le_of_ble_eq_true rfl) tk_R_readClause rfl rfl ⟨trivial, trivial, trivial⟩ ?_
                  exact Ev.msk [true, true, false] (K2 _ (by first | rfl | simp only [if_pos hc15, if_neg hc46, if_pos hc47, if_neg hc62, if_pos hc63, if_neg hc70, if_pos hc71, if_pos hc74]))
                · refine Ev.blk (pc' := 65) (lv' := [some (vr 12 0 80), some (vi q1.1), none]) (st' := [vi (ii 102), vi q1.1]) (h' := q1.2) 30 2 (Nat.le_of_ble_eq_true rfl) tk_R_readClause rfl rfl ⟨trivial, trivial, trivial⟩ ?_
                  refine Ev.icmp_ne 32 81 tk_R_readClause rfl (by decide) (fun hc75 => ?_) (fun hc75 => ?_)
                  · refine Ev.blk (pc' := 82) (lv' := [some (vr 12 0 80), some (vi q1.1), none]) (st' := [vi (ii 0)]) (h' := q1.2) 39 1 (Nat.le_of_ble_eq_true rfl) tk_R_readClause rfl rfl ⟨trivial, trivial⟩ ?_
                    exact Ev.msk [true, true, false] (K2 _ (by first | rfl | simp only [if_pos hc15, if_neg hc46, if_pos hc47, if_neg hc62, if_pos hc63, if_neg hc70, if_pos hc71, if_neg hc74, if_neg hc75]))
                  · refine Ev.blk (pc' := 74) (lv' := [some (vr 12 0 80), some (vi q1.1), none]) (st' := [vi (ii 6), vi (q1.2.1 80 38)]) (h' := q1.2) 33 3 (Nat.le_of_ble_eq_true rfl) tk_R_readClause rfl rfl ⟨trivial, trivial, trivial, trivial⟩ ?_
                    refine Ev.icmp_ge 36 81 tk_R_readClause rfl (by decide) (fun hc76 => ?_) (fun hc76 => ?_)
                    · refine Ev.blk (pc' := 82) (lv' := [some (vr 12 0 80), some (vi q1.1), none]) (st' := [vi (ii 0)]) (h' := q1.2) 39 1 (Nat.le_of_ble_eq_true rfl) tk_R_readClause rfl rfl ⟨trivial, trivial⟩ ?_
                      exact Ev.msk [true, true, false] (K2 _ (by first | rfl | simp only [if_pos hc15, if_neg hc46, if_pos hc47, if_neg hc62, if_pos hc63, if_neg hc70, if_pos hc71, if_neg hc74, if_pos hc75, if_pos hc76]))
                    · refine Ev.blk (pc' := 82) (lv' := [some (vr 12 0 80), some (vi q1.1), none]) (st' := [vi (ii 1)]) (h' := q1.2) 37 2 (Nat.le_of_ble_eq_true rfl) tk_R_readClause rfl rfl ⟨trivial, trivial, trivial⟩ ?_
                      exact Ev.msk [true, true, false] (K2 _ (by first | rfl | simp only [if_pos hc15, if_neg hc46, if_pos hc47, if_neg hc62, if_pos hc63, if_neg hc70, if_pos hc71, if_neg hc74, if_pos hc75, if_neg hc76]))
set_option maxRecDepth 4000 in
theorem s_R_beside (Γ : AG) (a0 : Int32) (a1 : Int32) (a2 : Int32) (a3 : Int32) (h : AH) (x : Int32) (hx : f_R_beside a0 a1 a2 a3 h = some x) : MetA Γ m_R_beside [vi a0, vi a1, vi a2, vi a3] h (some (vi x)) h := by
  refine Ev.met rfl rfl (Nat.le_of_ble_eq_true rfl) ?_
  show Ev Γ m_R_beside 0 [some (vi a0), some (vi a1), some (vi a2), some (vi a3), none, none] [] h _ _
  obtain ⟨r, hr⟩ : ∃ r : Option AV, r = some (vi x) := ⟨_, rfl⟩
  obtain ⟨h', hh⟩ : ∃ h' : AH, h' = h := ⟨_, rfl⟩
  have hP : r = some (vi x) ∧ h' = h := ⟨hr, hh⟩
  suffices hS : Ev Γ m_R_beside 0 [some (vi a0), some (vi a1), some (vi a2), some (vi a3), none, none] [] h r h' by rw [hr, hh] at hS; exact hS
  clear hr hh
  unfold f_R_beside at hx
  obtain ⟨hg1, hx⟩ := gd hx
  refine Ev.blk (pc' := 4) (lv' := [some (vi a0), some (vi a1), some (vi a2), some (vi a3), none, none]) (st' := [vi a1, vi (remI a0 a2)]) (h' := h) 0 4 (Nat.le_of_ble_eq_true rfl) tk_R_beside rfl rfl ⟨trivial, trivial, hg1, trivial, trivial⟩ ?_
  have K2 : ∀ v2_0 : Int32, v2_0 = (if a1 = 0 then (ii 1) else (if a1 = (ii 2) then (ii (-1)) else (ii 0))) → Ev Γ m_R_beside 21 [some (vi a0), some (vi a1), some (vi a2), some (vi a3), none, none] [vi v2_0, vi (remI a0 a2)] h r h' := by
    intro v2_0 e3
    subst e3
    obtain ⟨hg4, hx⟩ := gd hx
    refine Ev.blk (pc' := 29) (lv' := [some (vi a0), some (vi a1), some (vi a2), some (vi a3), some (vi ((remI a0 a2) + (if a1 = 0 then (ii 1) else (if a1 = (ii 2) then (ii (-1)) else (ii 0))))), none]) (st' := [vi (ii 1), vi a1, vi (a0 / a2)]) (h' := h) 13 7 (Nat.le_of_ble_eq_true rfl) tk_R_beside rfl rfl ⟨trivial, trivial, trivial, trivial, hg4, trivial, trivial, trivial⟩ ?_
    have K5 : ∀ v5_0 : Int32, v5_0 = (if a1 = (ii 1) then (ii 1) else (if a1 = (ii 3) then (ii (-1)) else (ii 0))) → Ev Γ m_R_beside 46 [none, none, some (vi a2), some (vi a3), some (vi ((remI a0 a2) + (if a1 = 0 then (ii 1) else (if a1 = (ii 2) then (ii (-1)) else (ii 0))))), none] [vi v5_0, vi (a0 / a2)] h r h' := by
      intro v5_0 e6
      subst e6
      refine Ev.blk (pc' := 51) (lv' := [none, none, some (vi a2), some (vi a3), some (vi ((remI a0 a2) + (if a1 = 0 then (ii 1) else (if a1 = (ii 2) then (ii (-1)) else (ii 0))))), some (vi ((a0 / a2) + (if a1 = (ii 1) then (ii 1) else (if a1 = (ii 3) then (ii (-1)) else (ii 0)))))]) (st' := [vi ((remI a0 a2) + (if a1 = 0 then (ii 1) else (if a1 = (ii 2) then (ii (-1)) else (ii 0))))]) (h' := h) 29 3 (Nat.le_of_ble_eq_true rfl) tk_R_beside rfl rfl ⟨trivial, trivial, trivial, trivial⟩ ?_
      refine Ev.if_lt 32 71 tk_R_beside rfl (by decide) (fun hc7 => ?_) (fun hc7 => ?_)
      · replace hx := ip hc7 hx
        refine Ev.blk (pc' := 82) (lv' := [none, none, some (vi a2), some (vi a3), some (vi ((remI a0 a2) + (if a1 = 0 then (ii 1) else (if a1 = (ii 2) then (ii (-1)) else (ii 0))))), some (vi ((a0 / a2) + (if a1 = (ii 1) then (ii 1) else (if a1 = (ii 3) then (ii (-1)) else (ii 0)))))]) (st' := [vi (ii (-1))]) (h' := h) 41 2 (Nat.le_of_ble_eq_true rfl) tk_R_beside rfl rfl ⟨trivial, trivial, trivial⟩ ?_
        obtain rfl := Option.some.inj hx
        obtain ⟨rfl, rfl⟩ := hP
        exact Ev.iret 48 tk_R_beside rfl rfl
      · replace hx := ia hc7 hx
        refine Ev.blk (pc' := 57) (lv' := [none, none, some (vi a2), some (vi a3), some (vi ((remI a0 a2) + (if a1 = 0 then (ii 1) else (if a1 = (ii 2) then (ii (-1)) else (ii 0))))), some (vi ((a0 / a2) + (if a1 = (ii 1) then (ii 1) else (if a1 = (ii 3) then (ii (-1)) else (ii 0)))))]) (st' := [vi a2, vi ((remI a0 a2) + (if a1 = 0 then (ii 1) else (if a1 = (ii 2) then (ii (-1)) else (ii 0))))]) (h' := h) 33 2 (Nat.le_of_ble_eq_true rfl) tk_R_beside rfl rfl ⟨trivial, trivial, trivial⟩ ?_
        refine Ev.icmp_ge 35 71 tk_R_beside rfl (by decide) (fun hc8 => ?_) (fun hc8 => ?_)
        · replace hx := ip hc8 hx
          refine Ev.blk (pc' := 82) (lv' := [none, none, some (vi a2), some (vi a3), some (vi ((remI a0 a2) + (if a1 = 0 then (ii 1) else (if a1 = (ii 2) then (ii (-1)) else (ii 0))))), some (vi ((a0 / a2) + (if a1 = (ii 1) then (ii 1) else (if a1 = (ii 3) then (ii (-1)) else (ii 0)))))]) (st' := [vi (ii (-1))]) (h' := h) 41 2 (Nat.le_of_ble_eq_true rfl) tk_R_beside rfl rfl ⟨trivial, trivial, trivial⟩ ?_
          obtain rfl := Option.some.inj hx
          obtain ⟨rfl, rfl⟩ := hP
          exact Ev.iret 48 tk_R_beside rfl rfl
        · replace hx := ia hc8 hx
          refine Ev.blk (pc' := 62) (lv' := [none, none, some (vi a2), some (vi a3), some (vi ((remI a0 a2) + (if a1 = 0 then (ii 1) else (if a1 = (ii 2) then (ii (-1)) else (ii 0))))), some (vi ((a0 / a2) + (if a1 = (ii 1) then (ii 1) else (if a1 = (ii 3) then (ii (-1)) else (ii 0)))))]) (st' := [vi ((a0 / a2) + (if a1 = (ii 1) then (ii 1) else (if a1 = (ii 3) then (ii (-1)) else (ii 0))))]) (h' := h) 36 1 (Nat.le_of_ble_eq_true rfl) tk_R_beside rfl rfl ⟨trivial, trivial⟩ ?_
          refine Ev.if_lt 37 71 tk_R_beside rfl (by decide) (fun hc9 => ?_) (fun hc9 => ?_)
          · replace hx := ip hc9 hx
            refine Ev.blk (pc' := 82) (lv' := [none, none, some (vi a2), some (vi a3), some (vi ((remI a0 a2) + (if a1 = 0 then (ii 1) else (if a1 = (ii 2) then (ii (-1)) else (ii 0))))), some (vi ((a0 / a2) + (if a1 = (ii 1) then (ii 1) else (if a1 = (ii 3) then (ii (-1)) else (ii 0)))))]) (st' := [vi (ii (-1))]) (h' := h) 41 2 (Nat.le_of_ble_eq_true rfl) tk_R_beside rfl rfl ⟨trivial, trivial, trivial⟩ ?_
            obtain rfl := Option.some.inj hx
            obtain ⟨rfl, rfl⟩ := hP
            exact Ev.iret 48 tk_R_beside rfl rfl
          · replace hx := ia hc9 hx
            refine Ev.blk (pc' := 68) (lv' := [none, none, some (vi a2), some (vi a3), some (vi ((remI a0 a2) + (if a1 = 0 then (ii 1) else (if a1 = (ii 2) then (ii (-1)) else (ii 0))))), some (vi ((a0 / a2) + (if a1 = (ii 1) then (ii 1) else (if a1 = (ii 3) then (ii (-1)) else (ii 0)))))]) (st' := [vi a3, vi ((a0 / a2) + (if a1 = (ii 1) then (ii 1) else (if a1 = (ii 3) then (ii (-1)) else (ii 0))))]) (h' := h) 38 2 (Nat.le_of_ble_eq_true rfl) tk_R_beside rfl rfl ⟨trivial, trivial, trivial⟩ ?_
            refine Ev.icmp_lt 40 75 tk_R_beside rfl (by decide) (fun hc10 => ?_) (fun hc10 => ?_)
            · replace hx := ip hc10 hx
              refine Ev.blk (pc' := 82) (lv' := [none, none, some (vi a2), some (vi a3), some (vi ((remI a0 a2) + (if a1 = 0 then (ii 1) else (if a1 = (ii 2) then (ii (-1)) else (ii 0))))), some (vi ((a0 / a2) + (if a1 = (ii 1) then (ii 1) else (if a1 = (ii 3) then (ii (-1)) else (ii 0)))))]) (st' := [vi ((((a0 / a2) + (if a1 = (ii 1) then (ii 1) else (if a1 = (ii 3) then (ii (-1)) else (ii 0)))) * a2) + ((remI a0 a2) + (if a1 = 0 then (ii 1) else (if a1 = (ii 2) then (ii (-1)) else (ii 0)))))]) (h' := h) 43 5 (Nat.le_of_ble_eq_true rfl) tk_R_beside rfl rfl ⟨trivial, trivial, trivial, trivial, trivial, trivial⟩ ?_
              obtain rfl := Option.some.inj hx
              obtain ⟨rfl, rfl⟩ := hP
              exact Ev.iret 48 tk_R_beside rfl rfl
            · replace hx := ia hc10 hx
              refine Ev.blk (pc' := 82) (lv' := [none, none, some (vi a2), some (vi a3), some (vi ((remI a0 a2) + (if a1 = 0 then (ii 1) else (if a1 = (ii 2) then (ii (-1)) else (ii 0))))), some (vi ((a0 / a2) + (if a1 = (ii 1) then (ii 1) else (if a1 = (ii 3) then (ii (-1)) else (ii 0)))))]) (st' := [vi (ii (-1))]) (h' := h) 41 2 (Nat.le_of_ble_eq_true rfl) tk_R_beside rfl rfl ⟨trivial, trivial, trivial⟩ ?_
              obtain rfl := Option.some.inj hx
              obtain ⟨rfl, rfl⟩ := hP
              exact Ev.iret 48 tk_R_beside rfl rfl
    refine Ev.icmp_ne 20 36 tk_R_beside rfl (by decide) (fun hc11 => ?_) (fun hc11 => ?_)
    · refine Ev.blk (pc' := 38) (lv' := [some (vi a0), some (vi a1), some (vi a2), some (vi a3), some (vi ((remI a0 a2) + (if a1 = 0 then (ii 1) else (if a1 = (ii 2) then (ii (-1)) else (ii 0))))), none]) (st' := [vi (ii 3), vi a1, vi (a0 / a2)]) (h' := h) 23 2 (Nat.le_of_ble_eq_true rfl) tk_R_beside rfl rfl ⟨trivial, trivial, trivial⟩ ?_
      refine Ev.icmp_ne 25 45 tk_R_beside rfl (by decide) (fun hc12 => ?_) (fun hc12 => ?_)
      · refine Ev.blk (pc' := 46) (lv' := [some (vi a0), some (vi a1), some (vi a2), some (vi a3), some (vi ((remI a0 a2) + (if a1 = 0 then (ii 1) else (if a1 = (ii 2) then (ii (-1)) else (ii 0))))), none]) (st' := [vi (ii 0), vi (a0 / a2)]) (h' := h) 28 1 (Nat.le_of_ble_eq_true rfl) tk_R_beside rfl rfl ⟨trivial, trivial⟩ ?_
        exact Ev.msk [false, false, true, true, true, false] (K5 _ (by first | rfl | simp only [if_neg hc11, if_neg hc12]))
      · refine Ev.blk (pc' := 46) (lv' := [some (vi a0), some (vi a1), some (vi a2), some (vi a3), some (vi ((remI a0 a2) + (if a1 = 0 then (ii 1) else (if a1 = (ii 2) then (ii (-1)) else (ii 0))))), none]) (st' := [vi (ii (-1)), vi (a0 / a2)]) (h' := h) 26 2 (Nat.le_of_ble_eq_true rfl) tk_R_beside rfl rfl ⟨trivial, trivial, trivial⟩ ?_
        exact Ev.msk [false, false, true, true, true, false] (K5 _ (by first | rfl | simp only [if_neg hc11, if_pos hc12]))
    · refine Ev.blk (pc' := 46) (lv' := [some (vi a0), some (vi a1), some (vi a2), some (vi a3), some (vi ((remI a0 a2) + (if a1 = 0 then (ii 1) else (if a1 = (ii 2) then (ii (-1)) else (ii 0))))), none]) (st' := [vi (ii 1), vi (a0 / a2)]) (h' := h) 21 2 (Nat.le_of_ble_eq_true rfl) tk_R_beside rfl rfl ⟨trivial, trivial, trivial⟩ ?_
      exact Ev.msk [false, false, true, true, true, false] (K5 _ (by first | rfl | simp only [if_pos hc11]))
  refine Ev.if_ne 4 11 tk_R_beside rfl (by decide) (fun hc13 => ?_) (fun hc13 => ?_)
  · refine Ev.blk (pc' := 13) (lv' := [some (vi a0), some (vi a1), some (vi a2), some (vi a3), none, none]) (st' := [vi (ii 2), vi a1, vi (remI a0 a2)]) (h' := h) 7 2 (Nat.le_of_ble_eq_true rfl) tk_R_beside rfl rfl ⟨trivial, trivial, trivial⟩ ?_
    refine Ev.icmp_ne 9 20 tk_R_beside rfl (by decide) (fun hc14 => ?_) (fun hc14 => ?_)
    · refine Ev.blk (pc' := 21) (lv' := [some (vi a0), some (vi a1), some (vi a2), some (vi a3), none, none]) (st' := [vi (ii 0), vi (remI a0 a2)]) (h' := h) 12 1 (Nat.le_of_ble_eq_true rfl) tk_R_beside rfl rfl ⟨trivial, trivial⟩ ?_
      exact Ev.msk [true, true, true, true, false, false] (K2 _ (by first | rfl | simp only [if_neg hc13, if_neg hc14]))
    · refine Ev.blk (pc' := 21) (lv' := [some (vi a0), some (vi a1), some (vi a2), some (vi a3), none, none]) (st' := [vi (ii (-1)), vi (remI a0 a2)]) (h' := h) 10 2 (Nat.le_of_ble_eq_true rfl) tk_R_beside rfl rfl ⟨trivial, trivial, trivial⟩ ?_
      exact Ev.msk [true, true, true, true, false, false] (K2 _ (by first | rfl | simp only [if_neg hc13, if_pos hc14]))
  · refine Ev.blk (pc' := 21) (lv' := [some (vi a0), some (vi a1), some (vi a2), some (vi a3), none, none]) (st' := [vi (ii 1), vi (remI a0 a2)]) (h' := h) 5 2 (Nat.le_of_ble_eq_true rfl) tk_R_beside rfl rfl ⟨trivial, trivial, trivial⟩ ?_
    exact Ev.msk [true, true, true, true, false, false] (K2 _ (by first | rfl | simp only [if_pos hc13]))
set_option maxRecDepth 4000 in
theorem l_R_areApart_L24 (Γ : AG) : ∀ (n : Nat) (n1 : Nat) (o1 : Nat) (v2 : Int32) (v3 : Int32) (v4 : Int32) (v5 : Int32) (h : AH) (x : (Int32) ⊕ (Unit)), R_areApart_L24 n n1 o1 v2 v3 v4 v5 h = some x → ∀ (r : Option AV) (h' : AH), (∀ z, x = .inl z → r = some (vi z) ∧ h' = h) → (∀ z, x = .inr z → Ev Γ m_R_areApart 54 [none, some (vr 20 n1 o1), some (vi v2), some (vi v3), some (vi v4), none] [] h r h') → Ev Γ m_R_areApart 24 [none, some (vr 20 n1 o1), some (vi v2), some (vi v3), some (vi v4), some (vi v5)] [] h r h' := by
  intro n
  induction n with
  | zero => intro n1 o1 v2 v3 v4 v5 h x hx; cases hx
  | succ n ih =>
    intro n1 o1 v2 v3 v4 v5 h x hx r h' hI hP
    replace hx : R_areApart_L24_b (R_areApart_L24 n) n1 o1 v2 v3 v4 v5 h = some x := hx
    unfold R_areApart_L24_b at hx
    refine Ev.blk (pc' := 28) (lv' := [none, some (vr 20 n1 o1), some (vi v2), some (vi v3), some (vi v4), some (vi v5)]) (st' := [vi v4, vi v5]) (h' := h) 16 2 (Nat.le_of_ble_eq_true rfl) tk_R_areApart rfl rfl ⟨trivial, trivial, trivial⟩ ?_
    refine Ev.icmp_ge 18 54 tk_R_areApart rfl (by decide) (fun hc1 => ?_) (fun hc1 => ?_)
    · replace hx := ip hc1 hx
      obtain rfl := Option.some.inj hx
      exact Ev.msk [false, true, true, true, true, false] (hP _ rfl)
    · replace hx := ia hc1 hx
      obtain ⟨hg2, hx⟩ := gd hx
      obtain ⟨hg3, hx⟩ := gd hx
      refine Ev.blk (pc' := 43) (lv' := [none, some (vr 20 n1 o1), some (vi v2), some (vi v3), some (vi v4), some (vi v5)]) (st' := [vi (h.1 o1 ((ii 2) * v4).toNatClampNeg), vi (h.1 o1 ((ii 2) * v5).toNatClampNeg)]) (h' := h) 19 10 (Nat.le_of_ble_eq_true rfl) tk_R_areApart rfl rfl ⟨trivial, trivial, trivial, trivial, hg2, trivial, trivial, trivial, trivial, hg3, trivial⟩ ?_
      refine Ev.icmp_ne 29 48 tk_R_areApart rfl (by decide) (fun hc4 => ?_) (fun hc4 => ?_)
      · replace hx := ia hc4 hx
        refine Ev.blk (pc' := 24) (lv' := [none, some (vr 20 n1 o1), some (vi v2), some (vi v3), some (vi v4), some (vi (v5 + ii 1))]) (st' := []) (h' := h) 32 2 (Nat.le_of_ble_eq_true rfl) tk_R_areApart rfl rfl ⟨trivial, trivial, trivial⟩ ?_
        exact Ev.msk [false, true, true, true, true, true] (ih n1 o1 v2 v3 v4 (v5 + ii 1) h _ hx r h' hI hP)
      · replace hx := ip hc4 hx
        refine Ev.blk (pc' := 47) (lv' := [none, some (vr 20 n1 o1), some (vi v2), some (vi v3), some (vi v4), some (vi v5)]) (st' := [vi (ii 0)]) (h' := h) 30 1 (Nat.le_of_ble_eq_true rfl) tk_R_areApart rfl rfl ⟨trivial, trivial⟩ ?_
        obtain rfl := Option.some.inj hx
        obtain ⟨rfl, rfl⟩ := hI _ rfl
        exact Ev.zret 31 tk_R_areApart rfl rfl rfl
set_option maxRecDepth 4000 in
theorem l_R_areApart_L3 (Γ : AG) : ∀ (n : Nat) (n1 : Nat) (o1 : Nat) (v2 : Int32) (v3 : Int32) (v4 : Int32) (h : AH) (x : Int32), R_areApart_L3 n n1 o1 v2 v3 v4 h = some x → ∀ (r : Option AV) (h' : AH), r = some (vi x) ∧ h' = h → Ev Γ m_R_areApart 3 [none, some (vr 20 n1 o1), some (vi v2), some (vi v3), some (vi v4), none] [] h r h' := by
  intro n
  induction n with
  | zero => intro n1 o1 v2 v3 v4 h x hx; cases hx
  | succ n ih =>
    intro n1 o1 v2 v3 v4 h x hx r h' hP
    replace hx : R_areApart_L3_b (R_areApart_L3 n) n1 o1 v2 v3 v4 h = some x := hx
    unfold R_areApart_L3_b at hx
    refine Ev.blk (pc' := 6) (lv' := [none, some (vr 20 n1 o1), some (vi v2), some (vi v3), some (vi v4), none]) (st' := [vi v2, vi v4]) (h' := h) 2 2 (Nat.le_of_ble_eq_true rfl) tk_R_areApart rfl rfl ⟨trivial, trivial, trivial⟩ ?_
    refine Ev.icmp_ge 4 60 tk_R_areApart rfl (by decide) (fun hc1 => ?_) (fun hc1 => ?_)
    · replace hx := ip hc1 hx
      refine Ev.blk (pc' := 61) (lv' := [none, some (vr 20 n1 o1), some (vi v2), some (vi v3), some (vi v4), none]) (st' := [vi (ii 1)]) (h' := h) 36 1 (Nat.le_of_ble_eq_true rfl) tk_R_areApart rfl rfl ⟨trivial, trivial⟩ ?_
      obtain rfl := Option.some.inj hx
      obtain ⟨rfl, rfl⟩ := hP
      exact Ev.zret 37 tk_R_areApart rfl rfl rfl
    · replace hx := ia hc1 hx
      obtain ⟨hg2, hx⟩ := gd hx
      refine Ev.blk (pc' := 16) (lv' := [none, some (vr 20 n1 o1), some (vi v2), some (vi v3), some (vi v4), none]) (st' := [vi v3, vi (h.1 o1 ((ii 2) * v4).toNatClampNeg)]) (h' := h) 5 6 (Nat.le_of_ble_eq_true rfl) tk_R_areApart rfl rfl ⟨trivial, trivial, trivial, trivial, hg2, trivial, trivial⟩ ?_
      refine Ev.icmp_lt 11 21 tk_R_areApart rfl (by decide) (fun hc3 => ?_) (fun hc3 => ?_)
      · replace hx := ip hc3 hx
        refine Ev.blk (pc' := 24) (lv' := [none, some (vr 20 n1 o1), some (vi v2), some (vi v3), some (vi v4), some (vi (ii 0))]) (st' := []) (h' := h) 14 2 (Nat.le_of_ble_eq_true rfl) tk_R_areApart rfl rfl ⟨trivial, trivial, trivial⟩ ?_
        obtain ⟨q1, hq4, hx⟩ := bd hx
        rcases q1 with w | q1
        · cases hx
          refine Ev.msk [false, true, true, true, true, true] ?_
          show Ev Γ m_R_areApart 24 [none, some (vr 20 n1 o1), some (vi v2), some (vi v3), some (vi v4), some (vi (ii 0))] [] h r h'
          exact l_R_areApart_L24 Γ FU n1 o1 v2 v3 v4 (ii 0) h _ hq4 r h' (fun z hz => by cases hz; exact hP) (fun z hz => by cases hz)
        · refine Ev.msk [false, true, true, true, true, true] ?_
          show Ev Γ m_R_areApart 24 [none, some (vr 20 n1 o1), some (vi v2), some (vi v3), some (vi v4), some (vi (ii 0))] [] h r h'
          refine l_R_areApart_L24 Γ FU n1 o1 v2 v3 v4 (ii 0) h _ hq4 r h' (fun z hz => by cases hz) (fun z hz => ?_)
          cases hz
          replace hx := smr hx
          show Ev Γ m_R_areApart 54 [none, some (vr 20 n1 o1), some (vi v2), some (vi v3), some (vi v4), none] [] h r h'
          refine Ev.blk (pc' := 3) (lv' := [none, some (vr 20 n1 o1), some (vi v2), some (vi v3), some (vi (v4 + ii 1)), none]) (st' := []) (h' := h) 34 2 (Nat.le_of_ble_eq_true rfl) tk_R_areApart rfl rfl ⟨trivial, trivial, trivial⟩ ?_
          exact Ev.msk [false, true, true, true, true, false] (ih n1 o1 v2 v3 (v4 + ii 1) h _ hx r h' hP)
      · replace hx := ia hc3 hx
        refine Ev.blk (pc' := 20) (lv' := [none, some (vr 20 n1 o1), some (vi v2), some (vi v3), some (vi v4), none]) (st' := [vi (ii 0)]) (h' := h) 12 1 (Nat.le_of_ble_eq_true rfl) tk_R_areApart rfl rfl ⟨trivial, trivial⟩ ?_
        obtain rfl := Option.some.inj hx
        obtain ⟨rfl, rfl⟩ := hP
        exact Ev.zret 13 tk_R_areApart rfl rfl rfl
set_option maxRecDepth 4000 in
theorem s_R_areApart (Γ : AG) (n1 : Nat) (o1 : Nat) (a2 : Int32) (a3 : Int32) (h : AH) (x : Int32) (hx : f_R_areApart n1 o1 a2 a3 h = some x) : MetA Γ m_R_areApart [vr 12 0 80, vr 20 n1 o1, vi a2, vi a3] h (some (vi x)) h := by
  refine Ev.met rfl rfl (Nat.le_of_ble_eq_true rfl) ?_
  show Ev Γ m_R_areApart 0 [some (vr 12 0 80), some (vr 20 n1 o1), some (vi a2), some (vi a3), none, none] [] h _ _
  obtain ⟨r, hr⟩ : ∃ r : Option AV, r = some (vi x) := ⟨_, rfl⟩
  obtain ⟨h', hh⟩ : ∃ h' : AH, h' = h := ⟨_, rfl⟩
  have hP : r = some (vi x) ∧ h' = h := ⟨hr, hh⟩
  suffices hS : Ev Γ m_R_areApart 0 [some (vr 12 0 80), some (vr 20 n1 o1), some (vi a2), some (vi a3), none, none] [] h r h' by rw [hr, hh] at hS; exact hS
  clear hr hh
  unfold f_R_areApart at hx
  refine Ev.blk (pc' := 3) (lv' := [some (vr 12 0 80), some (vr 20 n1 o1), some (vi a2), some (vi a3), some (vi (ii 0)), none]) (st' := []) (h' := h) 0 2 (Nat.le_of_ble_eq_true rfl) tk_R_areApart rfl rfl ⟨trivial, trivial, trivial⟩ ?_
  refine Ev.msk [false, true, true, true, true, false] ?_
  show Ev Γ m_R_areApart 3 [none, some (vr 20 n1 o1), some (vi a2), some (vi a3), some (vi (ii 0)), none] [] h r h'
  exact l_R_areApart_L3 Γ FU n1 o1 a2 a3 (ii 0) h _ hx r h' hP
set_option maxRecDepth 4000 in
theorem l_R_isWhole_L117 (Γ : AG) : ∀ (n : Nat) (v1 : Int32) (v2 : Int32) (h : AH) (x : Int32), R_isWhole_L117 n v1 v2 h = some x → ∀ (r : Option AV) (h' : AH), r = some (vi x) ∧ h' = h → Ev Γ m_R_isWhole 117 [some (vr 12 0 80), some (vi v1), some (vi v2), none, none] [] h r h' := by
  intro n
  induction n with
  | zero => intro v1 v2 h x hx; cases hx
  | succ n ih =>
    intro v1 v2 h x hx r h' hP
    replace hx : R_isWhole_L117_b (R_isWhole_L117 n) v1 v2 h = some x := hx
    unfold R_isWhole_L117_b at hx
    refine Ev.blk (pc' := 122) (lv' := [some (vr 12 0 80), some (vi v1), some (vi v2), none, none]) (st' := [vi (h.1 80 38), vi v2]) (h' := h) 75 3 (Nat.le_of_ble_eq_true rfl) tk_R_isWhole rfl rfl ⟨trivial, trivial, trivial, trivial⟩ ?_
    refine Ev.icmp_ge 78 146 tk_R_isWhole rfl (by decide) (fun hc1 => ?_) (fun hc1 => ?_)
    · replace hx := ip hc1 hx
      refine Ev.blk (pc' := 150) (lv' := [some (vr 12 0 80), some (vi v1), some (vi v2), none, none]) (st' := [vi (h.1 80 38)]) (h' := h) 91 2 (Nat.le_of_ble_eq_true rfl) tk_R_isWhole rfl rfl ⟨trivial, trivial, trivial⟩ ?_
      refine Ev.if_le 93 189 tk_R_isWhole rfl (by decide) (fun hc2 => ?_) (fun hc2 => ?_)
      · replace hx := ip hc2 hx
        refine Ev.blk (pc' := 190) (lv' := [some (vr 12 0 80), some (vi v1), some (vi v2), none, none]) (st' := [vi (ii 0)]) (h' := h) 112 1 (Nat.le_of_ble_eq_true rfl) tk_R_isWhole rfl rfl ⟨trivial, trivial⟩ ?_
        obtain rfl := Option.some.inj hx
        obtain ⟨rfl, rfl⟩ := hP
        exact Ev.zret 113 tk_R_isWhole rfl rfl rfl
      · replace hx := ia hc2 hx
        refine Ev.blk (pc' := 163) (lv' := [some (vr 12 0 80), some (vi v1), some (vi v2), none, none]) (st' := [vi v1, vi (h.1 80 36), vr 20 12 90, vr 12 0 80]) (h' := h) 94 6 (Nat.le_of_ble_eq_true rfl) tk_R_isWhole rfl rfl ⟨trivial, trivial, trivial, trivial, trivial, trivial, trivial⟩ ?_
        obtain ⟨q1, hq3, hx⟩ := bd hx
        refine Ev.callV (ν := m_R_areApart) (av := [vr 20 12 90, vi (h.1 80 36), vi v1]) (rest := []) (r1 := some (vi q1)) (h1 := h) (ci := 12) (nn := 0) (o := 80) 100 3 tk_R_isWhole rfl bb_R_areApart vv_R_areApart lk_12_290 (by decide) rfl rfl (Or.inl rfl) (Nat.le_of_ble_eq_true rfl) (s_R_areApart Γ 12 90 (h.1 80 36) v1 h _ hq3) ?_
        show Ev Γ m_R_isWhole 166 [some (vr 12 0 80), some (vi v1), some (vi v2), none, none] [vi q1] h r h'
        refine Ev.if_eq 101 189 tk_R_isWhole rfl (by decide) (fun hc4 => ?_) (fun hc4 => ?_)
        · replace hx := ip hc4 hx
          refine Ev.blk (pc' := 190) (lv' := [some (vr 12 0 80), some (vi v1), some (vi v2), none, none]) (st' := [vi (ii 0)]) (h' := h) 112 1 (Nat.le_of_ble_eq_true rfl) tk_R_isWhole rfl rfl ⟨trivial, trivial⟩ ?_
          obtain rfl := Option.some.inj hx
          obtain ⟨rfl, rfl⟩ := hP
          exact Ev.zret 113 tk_R_isWhole rfl rfl rfl
        · replace hx := ia hc4 hx
          refine Ev.blk (pc' := 179) (lv' := [some (vr 12 0 80), some (vi v1), some (vi v2), none, none]) (st' := [vi v1, vi (h.1 80 37), vr 20 12 92, vr 12 0 80]) (h' := h) 102 6 (Nat.le_of_ble_eq_true rfl) tk_R_isWhole rfl rfl ⟨trivial, trivial, trivial, trivial, trivial, trivial, trivial⟩ ?_
          obtain ⟨q2, hq5, hx⟩ := bd hx
          refine Ev.callV (ν := m_R_areApart) (av := [vr 20 12 92, vi (h.1 80 37), vi v1]) (rest := []) (r1 := some (vi q2)) (h1 := h) (ci := 12) (nn := 0) (o := 80) 108 3 tk_R_isWhole rfl bb_R_areApart vv_R_areApart lk_12_290 (by decide) rfl rfl (Or.inl rfl) (Nat.le_of_ble_eq_true rfl) (s_R_areApart Γ 12 92 (h.1 80 37) v1 h _ hq5) ?_
          show Ev Γ m_R_isWhole 182 [some (vr 12 0 80), some (vi v1), some (vi v2), none, none] [vi q2] h r h'
          refine Ev.if_eq 109 189 tk_R_isWhole rfl (by decide) (fun hc6 => ?_) (fun hc6 => ?_)
          · replace hx := ip hc6 hx
            refine Ev.blk (pc' := 190) (lv' := [some (vr 12 0 80), some (vi v1), some (vi v2), none, none]) (st' := [vi (ii 0)]) (h' := h) 112 1 (Nat.le_of_ble_eq_true rfl) tk_R_isWhole rfl rfl ⟨trivial, trivial⟩ ?_
            obtain rfl := Option.some.inj hx
            obtain ⟨rfl, rfl⟩ := hP
            exact Ev.zret 113 tk_R_isWhole rfl rfl rfl
          · replace hx := ia hc6 hx
            refine Ev.blk (pc' := 190) (lv' := [some (vr 12 0 80), some (vi v1), some (vi v2), none, none]) (st' := [vi (ii 1)]) (h' := h) 110 2 (Nat.le_of_ble_eq_true rfl) tk_R_isWhole rfl rfl ⟨trivial, trivial, trivial⟩ ?_
            obtain rfl := Option.some.inj hx
            obtain ⟨rfl, rfl⟩ := hP
            exact Ev.zret 113 tk_R_isWhole rfl rfl rfl
    · replace hx := ia hc1 hx
      obtain ⟨hg7, hx⟩ := gd hx
      refine Ev.blk (pc' := 135) (lv' := [some (vr 12 0 80), some (vi v1), some (vi v2), none, none]) (st' := [vi v1, vi (h.1 94 ((ii 6) * v2).toNatClampNeg)]) (h' := h) 79 7 (Nat.le_of_ble_eq_true rfl) tk_R_isWhole rfl rfl ⟨trivial, trivial, trivial, trivial, trivial, hg7, trivial, trivial⟩ ?_
      refine Ev.icmp_lt 86 140 tk_R_isWhole rfl (by decide) (fun hc8 => ?_) (fun hc8 => ?_)
      · replace hx := ip hc8 hx
        refine Ev.blk (pc' := 117) (lv' := [some (vr 12 0 80), some (vi v1), some (vi (v2 + ii 1)), none, none]) (st' := []) (h' := h) 89 2 (Nat.le_of_ble_eq_true rfl) tk_R_isWhole rfl rfl ⟨trivial, trivial, trivial⟩ ?_
        exact Ev.msk [true, true, true, false, false] (ih v1 (v2 + ii 1) h _ hx r h' hP)
      · replace hx := ia hc8 hx
        refine Ev.blk (pc' := 139) (lv' := [some (vr 12 0 80), some (vi v1), some (vi v2), none, none]) (st' := [vi (ii 0)]) (h' := h) 87 1 (Nat.le_of_ble_eq_true rfl) tk_R_isWhole rfl rfl ⟨trivial, trivial⟩ ?_
        obtain rfl := Option.some.inj hx
        obtain ⟨rfl, rfl⟩ := hP
        exact Ev.zret 88 tk_R_isWhole rfl rfl rfl
set_option maxRecDepth 4000 in
theorem l_R_isWhole_L44 (Γ : AG) : ∀ (n : Nat) (v1 : Int32) (v2 : Int32) (v3 : Int32) (v4 : Int32) (h : AH) (x : Int32), R_isWhole_L44 n v1 v2 v3 v4 h = some x → ∀ (r : Option AV) (h' : AH), Ev Γ m_R_isWhole 102 [some (vr 12 0 80), some (vi v1), some (vi v2), some (vi x), none] [] h r h' → Ev Γ m_R_isWhole 44 [some (vr 12 0 80), some (vi v1), some (vi v2), some (vi v3), some (vi v4)] [] h r h' := by
  intro n
  induction n with
  | zero => intro v1 v2 v3 v4 h x hx; cases hx
  | succ n ih =>
    intro v1 v2 v3 v4 h x hx r h' hP
    replace hx : R_isWhole_L44_b (R_isWhole_L44 n) v1 v2 v3 v4 h = some x := hx
    unfold R_isWhole_L44_b at hx
    obtain ⟨hg1, hx⟩ := gd hx
    refine Ev.blk (pc' := 57) (lv' := [some (vr 12 0 80), some (vi v1), some (vi v2), some (vi v3), some (vi v4)]) (st' := [vi (h.1 88 (((ii 13) * v2) + (ii 3)).toNatClampNeg), vi v4]) (h' := h) 30 9 (Nat.le_of_ble_eq_true rfl) tk_R_isWhole rfl rfl ⟨trivial, trivial, trivial, trivial, trivial, trivial, trivial, trivial, hg1, trivial⟩ ?_
    refine Ev.icmp_ge 39 102 tk_R_isWhole rfl (by decide) (fun hc2 => ?_) (fun hc2 => ?_)
    · replace hx := ip hc2 hx
      obtain rfl := Option.some.inj hx
      exact Ev.msk [true, true, true, true, false] hP
    · replace hx := ia hc2 hx
      refine Ev.blk (pc' := 62) (lv' := [some (vr 12 0 80), some (vi v1), some (vi v2), some (vi v3), some (vi v4)]) (st' := [vi (ii (-1)), vi v3]) (h' := h) 40 2 (Nat.le_of_ble_eq_true rfl) tk_R_isWhole rfl rfl ⟨trivial, trivial, trivial⟩ ?_
      refine Ev.icmp_eq 42 102 tk_R_isWhole rfl (by decide) (fun hc3 => ?_) (fun hc3 => ?_)
      · replace hx := ip hc3 hx
        obtain rfl := Option.some.inj hx
        exact Ev.msk [true, true, true, true, false] hP
      · replace hx := ia hc3 hx
        obtain ⟨hg4, hx⟩ := gd hx
        obtain ⟨hg5, hx⟩ := gd hx
        obtain ⟨hg6, hx⟩ := gd hx
        refine Ev.blk (pc' := 92) (lv' := [some (vr 12 0 80), some (vi v1), some (vi v2), some (vi v3), some (vi v4)]) (st' := [vi (h.1 86 (ii 1).toNatClampNeg), vi (h.1 86 (ii 0).toNatClampNeg), vi (h.1 88 ((((ii 13) * v2) + (ii 4)) + v4).toNatClampNeg), vi v3]) (h' := h) 43 19 (Nat.le_of_ble_eq_true rfl) tk_R_isWhole rfl rfl ⟨trivial, trivial, trivial, trivial, trivial, trivial, trivial, trivial, trivial, trivial, hg4, trivial, trivial, trivial, hg5, trivial, trivial, trivial, hg6, trivial⟩ ?_
        obtain ⟨q1, hq7, hx⟩ := bd hx
        refine Ev.callS (ν := m_R_beside) (av := [vi v3, vi (h.1 88 ((((ii 13) * v2) + (ii 4)) + v4).toNatClampNeg), vi (h.1 86 (ii 0).toNatClampNeg), vi (h.1 86 (ii 1).toNatClampNeg)]) (rest := []) (r1 := some (vi q1)) (h1 := h) 62 4 tk_R_isWhole rfl bb_R_beside vv_R_beside lk_12_286 (by decide) rfl rfl (Nat.le_of_ble_eq_true rfl) (s_R_beside Γ v3 (h.1 88 ((((ii 13) * v2) + (ii 4)) + v4).toNatClampNeg) (h.1 86 (ii 0).toNatClampNeg) (h.1 86 (ii 1).toNatClampNeg) h _ hq7) ?_
        show Ev Γ m_R_isWhole 95 [some (vr 12 0 80), some (vi v1), some (vi v2), some (vi v3), some (vi v4)] [vi q1] h r h'
        refine Ev.blk (pc' := 44) (lv' := [some (vr 12 0 80), some (vi v1), some (vi v2), some (vi q1), some (vi (v4 + ii 1))]) (st' := []) (h' := h) 63 3 (Nat.le_of_ble_eq_true rfl) tk_R_isWhole rfl rfl ⟨trivial, trivial, trivial, trivial⟩ ?_
        exact Ev.msk [true, true, true, true, true] (ih v1 v2 q1 (v4 + ii 1) h _ hx r h' hP)
set_option maxRecDepth 4000 in
theorem l_R_isWhole_L16 (Γ : AG) : ∀ (n : Nat) (v1 : Int32) (v2 : Int32) (h : AH) (x : (Int32) ⊕ (Unit)), R_isWhole_L16 n v1 v2 h = some x → ∀ (r : Option AV) (h' : AH), (∀ z, x = .inl z → r = some (vi z) ∧ h' = h) → (∀ z, x = .inr z → Ev Γ m_R_isWhole 115 [some (vr 12 0 80), some (vi v1), none, none, none] [] h r h') → Ev Γ m_R_isWhole 16 [some (vr 12 0 80), some (vi v1), some (vi v2), none, none] [] h r h' := by
  intro n
  induction n with
  | zero => intro v1 v2 h x hx; cases hx
  | succ n ih =>
    intro v1 v2 h x hx r h' hI hP
    replace hx : R_isWhole_L16_b (R_isWhole_L16 n) v1 v2 h = some x := hx
    unfold R_isWhole_L16_b at hx
    refine Ev.blk (pc' := 21) (lv' := [some (vr 12 0 80), some (vi v1), some (vi v2), none, none]) (st' := [vi (h.1 80 35), vi v2]) (h' := h) 12 3 (Nat.le_of_ble_eq_true rfl) tk_R_isWhole rfl rfl ⟨trivial, trivial, trivial, trivial⟩ ?_
    refine Ev.icmp_ge 15 115 tk_R_isWhole rfl (by decide) (fun hc1 => ?_) (fun hc1 => ?_)
    · replace hx := ip hc1 hx
      obtain rfl := Option.some.inj hx
      exact Ev.msk [true, true, false, false, false] (hP _ rfl)
    · replace hx := ia hc1 hx
      obtain ⟨hg2, hx⟩ := gd hx
      refine Ev.blk (pc' := 36) (lv' := [some (vr 12 0 80), some (vi v1), some (vi v2), some (vi (h.1 88 ((ii 13) * v2).toNatClampNeg)), none]) (st' := [vi v1, vi (h.1 88 ((ii 13) * v2).toNatClampNeg)]) (h' := h) 16 9 (Nat.le_of_ble_eq_true rfl) tk_R_isWhole rfl rfl ⟨trivial, trivial, trivial, trivial, trivial, hg2, trivial, trivial, trivial, trivial⟩ ?_
      refine Ev.icmp_lt 25 41 tk_R_isWhole rfl (by decide) (fun hc3 => ?_) (fun hc3 => ?_)
      · replace hx := ip hc3 hx
        refine Ev.blk (pc' := 44) (lv' := [some (vr 12 0 80), some (vi v1), some (vi v2), some (vi (h.1 88 ((ii 13) * v2).toNatClampNeg)), some (vi (ii 0))]) (st' := []) (h' := h) 28 2 (Nat.le_of_ble_eq_true rfl) tk_R_isWhole rfl rfl ⟨trivial, trivial, trivial⟩ ?_
        obtain ⟨q1, hq4, hx⟩ := bd hx
        refine Ev.msk [true, true, true, true, true] ?_
        show Ev Γ m_R_isWhole 44 [some (vr 12 0 80), some (vi v1), some (vi v2), some (vi (h.1 88 ((ii 13) * v2).toNatClampNeg)), some (vi (ii 0))] [] h r h'
        refine l_R_isWhole_L44 Γ FU v1 v2 (h.1 88 ((ii 13) * v2).toNatClampNeg) (ii 0) h _ hq4 r h' ?_
        show Ev Γ m_R_isWhole 102 [some (vr 12 0 80), some (vi v1), some (vi v2), some (vi q1), none] [] h r h'
        refine Ev.blk (pc' := 104) (lv' := [some (vr 12 0 80), some (vi v1), some (vi v2), some (vi q1), none]) (st' := [vi (ii (-1)), vi q1]) (h' := h) 66 2 (Nat.le_of_ble_eq_true rfl) tk_R_isWhole rfl rfl ⟨trivial, trivial, trivial⟩ ?_
        refine Ev.icmp_ne 68 109 tk_R_isWhole rfl (by decide) (fun hc5 => ?_) (fun hc5 => ?_)
        · replace hx := ia hc5 hx
          refine Ev.blk (pc' := 16) (lv' := [some (vr 12 0 80), some (vi v1), some (vi (v2 + ii 1)), some (vi q1), none]) (st' := []) (h' := h) 71 2 (Nat.le_of_ble_eq_true rfl) tk_R_isWhole rfl rfl ⟨trivial, trivial, trivial⟩ ?_
          exact Ev.msk [true, true, true, false, false] (ih v1 (v2 + ii 1) h _ hx r h' hI hP)
        · replace hx := ip hc5 hx
          refine Ev.blk (pc' := 108) (lv' := [some (vr 12 0 80), some (vi v1), some (vi v2), some (vi q1), none]) (st' := [vi (ii 0)]) (h' := h) 69 1 (Nat.le_of_ble_eq_true rfl) tk_R_isWhole rfl rfl ⟨trivial, trivial⟩ ?_
          obtain rfl := Option.some.inj hx
          obtain ⟨rfl, rfl⟩ := hI _ rfl
          exact Ev.zret 70 tk_R_isWhole rfl rfl rfl
      · replace hx := ia hc3 hx
        refine Ev.blk (pc' := 40) (lv' := [some (vr 12 0 80), some (vi v1), some (vi v2), some (vi (h.1 88 ((ii 13) * v2).toNatClampNeg)), none]) (st' := [vi (ii 0)]) (h' := h) 26 1 (Nat.le_of_ble_eq_true rfl) tk_R_isWhole rfl rfl ⟨trivial, trivial⟩ ?_
        obtain rfl := Option.some.inj hx
        obtain ⟨rfl, rfl⟩ := hI _ rfl
        exact Ev.zret 27 tk_R_isWhole rfl rfl rfl
set_option maxRecDepth 4000 in
theorem s_R_isWhole (Γ : AG) (h : AH) (x : Int32) (hx : f_R_isWhole  h = some x) : MetA Γ m_R_isWhole [vr 12 0 80] h (some (vi x)) h := by
  refine Ev.met rfl rfl (Nat.le_of_ble_eq_true rfl) ?_
  show Ev Γ m_R_isWhole 0 [some (vr 12 0 80), none, none, none, none] [] h _ _
  obtain ⟨r, hr⟩ : ∃ r : Option AV, r = some (vi x) := ⟨_, rfl⟩
  obtain ⟨h', hh⟩ : ∃ h' : AH, h' = h := ⟨_, rfl⟩
  have hP : r = some (vi x) ∧ h' = h := ⟨hr, hh⟩
  suffices hS : Ev Γ m_R_isWhole 0 [some (vr 12 0 80), none, none, none, none] [] h r h' by rw [hr, hh] at hS; exact hS
  clear hr hh
  unfold f_R_isWhole at hx
  obtain ⟨hg1, hx⟩ := gd hx
  obtain ⟨hg2, hx⟩ := gd hx
  refine Ev.blk (pc' := 16) (lv' := [some (vr 12 0 80), some (vi ((h.1 86 (ii 0).toNatClampNeg) * (h.1 86 (ii 1).toNatClampNeg))), some (vi (ii 0)), none, none]) (st' := []) (h' := h) 0 12 (Nat.le_of_ble_eq_true rfl) tk_R_isWhole rfl rfl ⟨trivial, trivial, trivial, hg1, trivial, trivial, trivial, hg2, trivial, trivial, trivial, trivial, trivial⟩ ?_
  obtain ⟨q1, hq3, hx⟩ := bd hx
  rcases q1 with w | q1
  · cases hx
    refine Ev.msk [true, true, true, false, false] ?_
    show Ev Γ m_R_isWhole 16 [some (vr 12 0 80), some (vi ((h.1 86 (ii 0).toNatClampNeg) * (h.1 86 (ii 1).toNatClampNeg))), some (vi (ii 0)), none, none] [] h r h'
    exact l_R_isWhole_L16 Γ FU ((h.1 86 (ii 0).toNatClampNeg) * (h.1 86 (ii 1).toNatClampNeg)) (ii 0) h _ hq3 r h' (fun z hz => by cases hz; exact hP) (fun z hz => by cases hz)
  · refine Ev.msk [true, true, true, false, false] ?_
    show Ev Γ m_R_isWhole 16 [some (vr 12 0 80), some (vi ((h.1 86 (ii 0).toNatClampNeg) * (h.1 86 (ii 1).toNatClampNeg))), some (vi (ii 0)), none, none] [] h r h'
    refine l_R_isWhole_L16 Γ FU ((h.1 86 (ii 0).toNatClampNeg) * (h.1 86 (ii 1).toNatClampNeg)) (ii 0) h _ hq3 r h' (fun z hz => by cases hz) (fun z hz => ?_)
    cases hz
    replace hx := smr hx
    show Ev Γ m_R_isWhole 115 [some (vr 12 0 80), some (vi ((h.1 86 (ii 0).toNatClampNeg) * (h.1 86 (ii 1).toNatClampNeg))), none, none, none] [] h r h'
    refine Ev.blk (pc' := 117) (lv' := [some (vr 12 0 80), some (vi ((h.1 86 (ii 0).toNatClampNeg) * (h.1 86 (ii 1).toNatClampNeg))), some (vi (ii 0)), none, none]) (st' := []) (h' := h) 73 2 (Nat.le_of_ble_eq_true rfl) tk_R_isWhole rfl rfl ⟨trivial, trivial, trivial⟩ ?_
    refine Ev.msk [true, true, true, false, false] ?_
    show Ev Γ m_R_isWhole 117 [some (vr 12 0 80), some (vi ((h.1 86 (ii 0).toNatClampNeg) * (h.1 86 (ii 1).toNatClampNeg))), some (vi (ii 0)), none, none] [] h r h'
    exact l_R_isWhole_L117 Γ FU ((h.1 86 (ii 0).toNatClampNeg) * (h.1 86 (ii 1).toNatClampNeg)) (ii 0) h _ hx r h' hP
