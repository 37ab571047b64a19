set_option maxRecDepth 4000 in
theorem l_R_readHeath_L40 (Γ : AG) : ∀ (n : Nat) (v1 : Int32) (h : AH) (x : AH), R_readHeath_L40 n v1 h = some x → ∀ (r : Option AV) (h' : AH), Ev Γ m_R_readHeath 63 [some (vr 12 0 80), none] [] x r h' → Ev Γ m_R_readHeath 40 [some (vr 12 0 80), some (vi v1)] [] h r h' := by
  intro n
  induction n with
  | zero => intro v1 h x hx; cases hx
  | succ n ih =>
    intro v1 h x hx r h' hP
    replace hx : R_readHeath_L40_b (R_readHeath_L40 n) v1 h = some x := hx
    unfold R_readHeath_L40_b at hx
    refine Ev.blk (pc' := 42) (lv' := [some (vr 12 0 80), some (vi v1)]) (st' := [vi (ii 4), vi v1]) (h' := h) 24 2 (Nat.le_of_ble_eq_true rfl) tk_R_readHeath rfl rfl ⟨trivial, trivial, trivial⟩ ?_
    refine Ev.icmp_ge 26 63 tk_R_readHeath rfl (by decide) (fun hc1 => ?_) (fun hc1 => ?_)
    · replace hx := ip hc1 hx
      obtain rfl := Option.some.inj hx
      exact Ev.msk [true, false] hP
    · replace hx := ia hc1 hx
      refine Ev.blk (pc' := 53) (lv' := [some (vr 12 0 80), some (vi v1)]) (st' := [vi v1, vi (ii 115), vi v1, vr 20 4 86]) (h' := h) 27 5 (Nat.le_of_ble_eq_true rfl) tk_R_readHeath rfl rfl ⟨trivial, trivial, trivial, trivial, trivial, trivial⟩ ?_
      refine Ev.callS (ν := m_R_usual) (av := [vi (ii 115), vi v1]) (rest := [vi v1, vr 20 4 86]) (r1 := some (vi (p_R_usual (ii 115) v1))) (h1 := h) 32 2 tk_R_readHeath rfl bb_R_usual vv_R_usual lk_12_227 (by decide) rfl rfl (Nat.le_of_ble_eq_true rfl) (s_R_usual Γ (ii 115) v1 h) ?_
      show Ev Γ m_R_readHeath 56 [some (vr 12 0 80), some (vi v1)] [vi (p_R_usual (ii 115) v1), vi v1, vr 20 4 86] h r h'
      obtain ⟨hg2, hx⟩ := gd hx
      refine Ev.blk (pc' := 40) (lv' := [some (vr 12 0 80), some (vi (v1 + ii 1))]) (st' := []) (h' := (wI h 86 v1.toNatClampNeg (p_R_usual (ii 115) v1))) 33 3 (Nat.le_of_ble_eq_true rfl) tk_R_readHeath rfl rfl ⟨hg2, trivial, trivial, trivial⟩ ?_
      exact Ev.msk [true, true] (ih (v1 + ii 1) (wI h 86 v1.toNatClampNeg (p_R_usual (ii 115) v1)) _ hx r h' hP)
set_option maxRecDepth 4000 in
theorem l_R_readHeath_L65 (Γ : AG) : ∀ (n : Nat) (v1 : Int32) (h : AH) (x : AH), R_readHeath_L65 n v1 h = some x → ∀ (r : Option AV) (h' : AH), r = none ∧ h' = x → Ev Γ m_R_readHeath 65 [some (vr 12 0 80), some (vi v1)] [] h r h' := by
  intro n
  induction n with
  | zero => intro v1 h x hx; cases hx
  | succ n ih =>
    intro v1 h x hx r h' hP
    replace hx : R_readHeath_L65_b (R_readHeath_L65 n) v1 h = some x := hx
    unfold R_readHeath_L65_b at hx
    refine Ev.blk (pc' := 66) (lv' := [some (vr 12 0 80), some (vi v1)]) (st' := [vi v1]) (h' := h) 38 1 (Nat.le_of_ble_eq_true rfl) tk_R_readHeath rfl rfl ⟨trivial, trivial⟩ ?_
    refine Ev.if_eq 39 121 tk_R_readHeath rfl (by decide) (fun hc1 => ?_) (fun hc1 => ?_)
    · replace hx := ip hc1 hx
      refine Ev.blk (pc' := 126) (lv' := [some (vr 12 0 80), some (vi v1)]) (st' := [vi (ii (-1)), vi (h.1 80 11)]) (h' := h) 67 3 (Nat.le_of_ble_eq_true rfl) tk_R_readHeath rfl rfl ⟨trivial, trivial, trivial, trivial⟩ ?_
      refine Ev.icmp_ne 70 149 tk_R_readHeath rfl (by decide) (fun hc2 => ?_) (fun hc2 => ?_)
      · replace hx := ia hc2 hx
        obtain rfl := Option.some.inj hx
        obtain ⟨rfl, rfl⟩ := hP
        exact Ev.vret 81 tk_R_readHeath rfl rfl
      · replace hx := ip hc2 hx
        refine Ev.blk (pc' := 130) (lv' := [some (vr 12 0 80), some (vi v1)]) (st' := [vr 12 0 80]) (h' := h) 71 1 (Nat.le_of_ble_eq_true rfl) tk_R_readHeath rfl rfl ⟨trivial, trivial⟩ ?_
        obtain ⟨q1, hq3, hx⟩ := bd hx
        refine Ev.callV (ν := m_R_look) (av := []) (rest := []) (r1 := some (vi q1.1)) (h1 := q1.2) (ci := 12) (nn := 0) (o := 80) 72 0 tk_R_readHeath rfl bb_R_look vv_R_look lk_12_144 (by decide) rfl rfl (Or.inl rfl) (Nat.le_of_ble_eq_true rfl) (s_R_look Γ h _ hq3) ?_
        show Ev Γ m_R_readHeath 133 [some (vr 12 0 80), some (vi v1)] [vi q1.1] q1.2 r h'
        refine Ev.blk (pc' := 134) (lv' := [some (vr 12 0 80), some (vi v1)]) (st' := [vi (ii (-1)), vi q1.1]) (h' := q1.2) 73 1 (Nat.le_of_ble_eq_true rfl) tk_R_readHeath rfl rfl ⟨trivial, trivial⟩ ?_
        refine Ev.icmp_ne 74 144 tk_R_readHeath rfl (by decide) (fun hc4 => ?_) (fun hc4 => ?_)
        · replace hx := ia hc4 hx
          refine Ev.blk (pc' := 145) (lv' := [some (vr 12 0 80), some (vi v1)]) (st' := [vr 12 0 80]) (h' := q1.2) 78 1 (Nat.le_of_ble_eq_true rfl) tk_R_readHeath rfl rfl ⟨trivial, trivial⟩ ?_
          obtain ⟨q2, hq5, hx⟩ := bd hx
          refine Ev.callV (ν := m_R_fails) (av := []) (rest := []) (r1 := some (vi q2.1)) (h1 := q2.2) (ci := 12) (nn := 0) (o := 80) 79 0 tk_R_readHeath rfl bb_R_fails vv_R_fails lk_12_140 (by decide) rfl rfl (Or.inl rfl) (Nat.le_of_ble_eq_true rfl) (s_R_fails Γ q1.2 _ hq5) ?_
          show Ev Γ m_R_readHeath 148 [some (vr 12 0 80), some (vi v1)] [vi q2.1] q2.2 r h'
          refine Ev.blk (pc' := 149) (lv' := [some (vr 12 0 80), some (vi v1)]) (st' := []) (h' := q2.2) 80 1 (Nat.le_of_ble_eq_true rfl) tk_R_readHeath rfl rfl ⟨trivial, trivial⟩ ?_
          obtain rfl := Option.some.inj hx
          obtain ⟨rfl, rfl⟩ := hP
          exact Ev.vret 81 tk_R_readHeath rfl rfl
        · replace hx := ip hc4 hx
          refine Ev.blk (pc' := 138) (lv' := [some (vr 12 0 80), some (vi v1)]) (st' := [vr 12 0 80]) (h' := q1.2) 75 1 (Nat.le_of_ble_eq_true rfl) tk_R_readHeath rfl rfl ⟨trivial, trivial⟩ ?_
          obtain ⟨q3, hq6, hx⟩ := bd hx
          refine Ev.callV (ν := m_R_isWhole) (av := []) (rest := []) (r1 := some (vi q3)) (h1 := q1.2) (ci := 12) (nn := 0) (o := 80) 76 0 tk_R_readHeath rfl bb_R_isWhole vv_R_isWhole lk_12_297 (by decide) rfl rfl (Or.inl rfl) (Nat.le_of_ble_eq_true rfl) (s_R_isWhole Γ q1.2 _ hq6) ?_
          show Ev Γ m_R_readHeath 141 [some (vr 12 0 80), some (vi v1)] [vi q3] q1.2 r h'
          refine Ev.if_ne 77 149 tk_R_readHeath rfl (by decide) (fun hc7 => ?_) (fun hc7 => ?_)
          · replace hx := ia hc7 hx
            obtain rfl := Option.some.inj hx
            obtain ⟨rfl, rfl⟩ := hP
            exact Ev.vret 81 tk_R_readHeath rfl rfl
          · replace hx := ip hc7 hx
            refine Ev.blk (pc' := 145) (lv' := [some (vr 12 0 80), some (vi v1)]) (st' := [vr 12 0 80]) (h' := q1.2) 78 1 (Nat.le_of_ble_eq_true rfl) tk_R_readHeath rfl rfl ⟨trivial, trivial⟩ ?_
            obtain ⟨q4, hq8, hx⟩ := bd hx
            refine Ev.callV (ν := m_R_fails) (av := []) (rest := []) (r1 := some (vi q4.1)) (h1 := q4.2) (ci := 12) (nn := 0) (o := 80) 79 0 tk_R_readHeath rfl bb_R_fails vv_R_fails lk_12_140 (by decide) rfl rfl (Or.inl rfl) (Nat.le_of_ble_eq_true rfl) (s_R_fails Γ q1.2 _ hq8) ?_
            show Ev Γ m_R_readHeath 148 [some (vr 12 0 80), some (vi v1)] [vi q4.1] q4.2 r h'
            refine Ev.blk (pc' := 149) (lv' := [some (vr 12 0 80), some (vi v1)]) (st' := []) (h' := q4.2) 80 1 (Nat.le_of_ble_eq_true rfl) tk_R_readHeath rfl rfl ⟨trivial, trivial⟩ ?_
            obtain rfl := Option.some.inj hx
            obtain ⟨rfl, rfl⟩ := hP
            exact Ev.vret 81 tk_R_readHeath rfl rfl
    · replace hx := ia hc1 hx
      refine Ev.blk (pc' := 74) (lv' := [some (vr 12 0 80), some (vi v1)]) (st' := [vi (ii (-1)), vi (h.1 80 11)]) (h' := h) 40 3 (Nat.le_of_ble_eq_true rfl) tk_R_readHeath rfl rfl ⟨trivial, trivial, trivial, trivial⟩ ?_
      refine Ev.icmp_ne 43 121 tk_R_readHeath rfl (by decide) (fun hc9 => ?_) (fun hc9 => ?_)
      · replace hx := ia hc9 hx
        refine Ev.blk (pc' := 126) (lv' := [some (vr 12 0 80), some (vi v1)]) (st' := [vi (ii (-1)), vi (h.1 80 11)]) (h' := h) 67 3 (Nat.le_of_ble_eq_true rfl) tk_R_readHeath rfl rfl ⟨trivial, trivial, trivial, trivial⟩ ?_
        refine Ev.icmp_ne 70 149 tk_R_readHeath rfl (by decide) (fun hc10 => ?_) (fun hc10 => ?_)
        · replace hx := ia hc10 hx
          obtain rfl := Option.some.inj hx
          obtain ⟨rfl, rfl⟩ := hP
          exact Ev.vret 81 tk_R_readHeath rfl rfl
        · replace hx := ip hc10 hx
          refine Ev.blk (pc' := 130) (lv' := [some (vr 12 0 80), some (vi v1)]) (st' := [vr 12 0 80]) (h' := h) 71 1 (Nat.le_of_ble_eq_true rfl) tk_R_readHeath rfl rfl ⟨trivial, trivial⟩ ?_
          obtain ⟨q5, hq11, hx⟩ := bd hx
          refine Ev.callV (ν := m_R_look) (av := []) (rest := []) (r1 := some (vi q5.1)) (h1 := q5.2) (ci := 12) (nn := 0) (o := 80) 72 0 tk_R_readHeath rfl bb_R_look vv_R_look lk_12_144 (by decide) rfl rfl (Or.inl rfl) (Nat.le_of_ble_eq_true rfl) (s_R_look Γ h _ hq11) ?_
          show Ev Γ m_R_readHeath 133 [some (vr 12 0 80), some (vi v1)] [vi q5.1] q5.2 r h'
          refine Ev.blk (pc' := 134) (lv' := [some (vr 12 0 80), some (vi v1)]) (st' := [vi (ii (-1)), vi q5.1]) (h' := q5.2) 73 1 (Nat.le_of_ble_eq_true rfl) tk_R_readHeath rfl rfl ⟨trivial, trivial⟩ ?_
          refine Ev.icmp_ne 74 144 tk_R_readHeath rfl (by decide) (fun hc12 => ?_) (fun hc12 => ?_)
          · replace hx := ia hc12 hx
            refine Ev.blk (pc' := 145) (lv' := [some (vr 12 0 80), some (vi v1)]) (st' := [vr 12 0 80]) (h' := q5.2) 78 1 (Nat.le_of_ble_eq_true rfl) tk_R_readHeath rfl rfl ⟨trivial, trivial⟩ ?_
            obtain ⟨q6, hq13, hx⟩ := bd hx
            refine Ev.callV (ν := m_R_fails) (av := []) (rest := []) (r1 := some (vi q6.1)) (h1 := q6.2) (ci := 12) (nn := 0) (o := 80) 79 0 tk_R_readHeath rfl bb_R_fails vv_R_fails lk_12_140 (by decide) rfl rfl (Or.inl rfl) (Nat.le_of_ble_eq_true rfl) (s_R_fails Γ q5.2 _ hq13) ?_
            show Ev Γ m_R_readHeath 148 [some (vr 12 0 80), some (vi v1)] [vi q6.1] q6.2 r h'
            refine Ev.blk (pc' := 149) (lv' := [some (vr 12 0 80), some (vi v1)]) (st' := []) (h' := q6.2) 80 1 (Nat.le_of_ble_eq_true rfl) tk_R_readHeath rfl rfl ⟨trivial, trivial⟩ ?_
            obtain rfl := Option.some.inj hx
            obtain ⟨rfl, rfl⟩ := hP
            exact Ev.vret 81 tk_R_readHeath rfl rfl
          · replace hx := ip hc12 hx
            refine Ev.blk (pc' := 138) (lv' := [some (vr 12 0 80), some (vi v1)]) (st' := [vr 12 0 80]) (h' := q5.2) 75 1 (Nat.le_of_ble_eq_true rfl) tk_R_readHeath rfl rfl ⟨trivial, trivial⟩ ?_
            obtain ⟨q7, hq14, hx⟩ := bd hx
            refine Ev.callV (ν := m_R_isWhole) (av := []) (rest := []) (r1 := some (vi q7)) (h1 := q5.2) (ci := 12) (nn := 0) (o := 80) 76 0 tk_R_readHeath rfl bb_R_isWhole vv_R_isWhole lk_12_297 (by decide) rfl rfl (Or.inl rfl) (Nat.le_of_ble_eq_true rfl) (s_R_isWhole Γ q5.2 _ hq14) ?_
            show Ev Γ m_R_readHeath 141 [some (vr 12 0 80), some (vi v1)] [vi q7] q5.2 r h'
            refine Ev.if_ne 77 149 tk_R_readHeath rfl (by decide) (fun hc15 => ?_) (fun hc15 => ?_)
            · replace hx := ia hc15 hx
              obtain rfl := Option.some.inj hx
              obtain ⟨rfl, rfl⟩ := hP
              exact Ev.vret 81 tk_R_readHeath rfl rfl
            · replace hx := ip hc15 hx
              refine Ev.blk (pc' := 145) (lv' := [some (vr 12 0 80), some (vi v1)]) (st' := [vr 12 0 80]) (h' := q5.2) 78 1 (Nat.le_of_ble_eq_true rfl) tk_R_readHeath rfl rfl ⟨trivial, trivial⟩ ?_
              obtain ⟨q8, hq16, hx⟩ := bd hx
              refine Ev.callV (ν := m_R_fails) (av := []) (rest := []) (r1 := some (vi q8.1)) (h1 := q8.2) (ci := 12) (nn := 0) (o := 80) 79 0 tk_R_readHeath rfl bb_R_fails vv_R_fails lk_12_140 (by decide) rfl rfl (Or.inl rfl) (Nat.le_of_ble_eq_true rfl) (s_R_fails Γ q5.2 _ hq16) ?_
              show Ev Γ m_R_readHeath 148 [some (vr 12 0 80), some (vi v1)] [vi q8.1] q8.2 r h'
              refine Ev.blk (pc' := 149) (lv' := [some (vr 12 0 80), some (vi v1)]) (st' := []) (h' := q8.2) 80 1 (Nat.le_of_ble_eq_true rfl) tk_R_readHeath rfl rfl ⟨trivial, trivial⟩ ?_
              obtain rfl := Option.some.inj hx
              obtain ⟨rfl, rfl⟩ := hP
              exact Ev.vret 81 tk_R_readHeath rfl rfl
      · replace hx := ip hc9 hx
        refine Ev.blk (pc' := 78) (lv' := [some (vr 12 0 80), some (vi v1)]) (st' := [vr 12 0 80]) (h' := h) 44 1 (Nat.le_of_ble_eq_true rfl) tk_R_readHeath rfl rfl ⟨trivial, trivial⟩ ?_
        obtain ⟨q9, hq17, hx⟩ := bd hx
        refine Ev.callV (ν := m_R_readClause) (av := []) (rest := []) (r1 := none) (h1 := q9) (ci := 12) (nn := 0) (o := 80) 45 0 tk_R_readHeath rfl bb_R_readClause vv_R_readClause lk_12_294 (by decide) rfl rfl (Or.inl rfl) (Nat.le_of_ble_eq_true rfl) (s_R_readClause Γ h _ hq17) ?_
        show Ev Γ m_R_readHeath 81 [some (vr 12 0 80), some (vi v1)] [] q9 r h'
        refine Ev.blk (pc' := 86) (lv' := [some (vr 12 0 80), some (vi v1)]) (st' := [vi (ii (-1)), vi (q9.1 80 11)]) (h' := q9) 46 3 (Nat.le_of_ble_eq_true rfl) tk_R_readHeath rfl rfl ⟨trivial, trivial, trivial, trivial⟩ ?_
        obtain ⟨q11, hq18, hx⟩ := bd hx
        have K19 : Ev Γ m_R_readHeath 103 [some (vr 12 0 80), none] [vi q11.1] q11.2 r h' := by
          refine Ev.blk (pc' := 105) (lv' := [some (vr 12 0 80), some (vi q11.1)]) (st' := [vi q11.1]) (h' := q11.2) 57 2 (Nat.le_of_ble_eq_true rfl) tk_R_readHeath rfl rfl ⟨trivial, trivial, trivial⟩ ?_
          refine Ev.if_eq 59 65 tk_R_readHeath rfl (by decide) (fun hc20 => ?_) (fun hc20 => ?_)
          · replace hx := ip hc20 hx
            exact Ev.msk [true, true] (ih q11.1 q11.2 _ hx r h' hP)
          · replace hx := ia hc20 hx
            refine Ev.blk (pc' := 65) (lv' := [some (vr 12 0 80), some (vi q11.1)]) (st' := []) (h' := (wI q11.2 80 10 ((q11.2.1 80 10) + (ii 1)))) 60 7 (Nat.le_of_ble_eq_true rfl) tk_R_readHeath rfl rfl ⟨trivial, trivial, trivial, trivial, trivial, trivial, trivial, trivial⟩ ?_
            exact Ev.msk [true, true] (ih q11.1 (wI q11.2 80 10 ((q11.2.1 80 10) + (ii 1))) _ hx r h' hP)
        clear hx
        refine Ev.icmp_ne 49 102 tk_R_readHeath rfl (by decide) (fun hc21 => ?_) (fun hc21 => ?_)
        · replace hq18 := ia hc21 hq18
          refine Ev.blk (pc' := 103) (lv' := [some (vr 12 0 80), some (vi v1)]) (st' := [vi (ii 0)]) (h' := q9) 56 1 (Nat.le_of_ble_eq_true rfl) tk_R_readHeath rfl rfl ⟨trivial, trivial⟩ ?_
          obtain rfl := Option.some.inj hq18
          exact Ev.msk [true, false] K19
        · replace hq18 := ip hc21 hq18
          refine Ev.blk (pc' := 90) (lv' := [some (vr 12 0 80), some (vi v1)]) (st' := [vr 12 0 80]) (h' := q9) 50 1 (Nat.le_of_ble_eq_true rfl) tk_R_readHeath rfl rfl ⟨trivial, trivial⟩ ?_
          obtain ⟨q10, hq22, hq18⟩ := bd hq18
          refine Ev.callV (ν := m_R_look) (av := []) (rest := []) (r1 := some (vi q10.1)) (h1 := q10.2) (ci := 12) (nn := 0) (o := 80) 51 0 tk_R_readHeath rfl bb_R_look vv_R_look lk_12_144 (by decide) rfl rfl (Or.inl rfl) (Nat.le_of_ble_eq_true rfl) (s_R_look Γ q9 _ hq22) ?_
          show Ev Γ m_R_readHeath 93 [some (vr 12 0 80), some (vi v1)] [vi q10.1] q10.2 r h'
          refine Ev.blk (pc' := 95) (lv' := [some (vr 12 0 80), some (vi v1)]) (st' := [vi (ii 59), vi q10.1]) (h' := q10.2) 52 1 (Nat.le_of_ble_eq_true rfl) tk_R_readHeath rfl rfl ⟨trivial, trivial⟩ ?_
          refine Ev.icmp_ne 53 102 tk_R_readHeath rfl (by decide) (fun hc23 => ?_) (fun hc23 => ?_)
          · replace hq18 := ia hc23 hq18
            refine Ev.blk (pc' := 103) (lv' := [some (vr 12 0 80), some (vi v1)]) (st' := [vi (ii 0)]) (h' := q10.2) 56 1 (Nat.le_of_ble_eq_true rfl) tk_R_readHeath rfl rfl ⟨trivial, trivial⟩ ?_
            obtain rfl := Option.some.inj hq18
            exact Ev.msk [true, false] K19
          · replace hq18 := ip hc23 hq18
            refine Ev.blk (pc' := 103) (lv' := [some (vr 12 0 80), some (vi v1)]) (st' := [vi (ii 1)]) (h' := q10.2) 54 2 (Nat.le_of_ble_eq_true rfl) tk_R_readHeath rfl rfl ⟨trivial, trivial, trivial⟩ ?_
            obtain rfl := Option.some.inj hq18
            exact Ev.msk [true, false] K19
set_option maxRecDepth 4000 in
theorem s_R_readHeath (Γ : AG) (h : AH) (x : AH) (hx : f_R_readHeath  h = some x) : MetA Γ m_R_readHeath [vr 12 0 80] h (none) x := by
  refine Ev.met rfl rfl (Nat.le_of_ble_eq_true rfl) ?_
  show Ev Γ m_R_readHeath 0 [some (vr 12 0 80), none] [] h _ _
  obtain ⟨r, hr⟩ : ∃ r : Option AV, r = none := ⟨_, rfl⟩
  obtain ⟨h', hh⟩ : ∃ h' : AH, h' = x := ⟨_, rfl⟩
  have hP : r = none ∧ h' = x := ⟨hr, hh⟩
  suffices hS : Ev Γ m_R_readHeath 0 [some (vr 12 0 80), none] [] h r h' by rw [hr, hh] at hS; exact hS
  clear hr hh
  unfold f_R_readHeath at hx
  refine Ev.blk (pc' := 10) (lv' := [some (vr 12 0 80), none]) (st' := [vi (h.1 80 6), vi (ii 0), vr 21 240 81, vr 12 0 80]) (h' := h) 0 6 (Nat.le_of_ble_eq_true rfl) tk_R_readHeath rfl rfl ⟨trivial, trivial, trivial, trivial, trivial, trivial, trivial⟩ ?_
  obtain ⟨q1, hq1, hx⟩ := bd hx
  refine Ev.callV (ν := m_R_starts) (av := [vr 21 240 81, vi (ii 0), vi (h.1 80 6)]) (rest := []) (r1 := none) (h1 := q1) (ci := 12) (nn := 0) (o := 80) 6 3 tk_R_readHeath rfl bb_R_starts vv_R_starts lk_12_213 (by decide) rfl rfl (Or.inl rfl) (Nat.le_of_ble_eq_true rfl) (s_R_starts Γ 240 81 (ii 0) (h.1 80 6) h _ hq1) ?_
  show Ev Γ m_R_readHeath 13 [some (vr 12 0 80), none] [] q1 r h'
  refine Ev.blk (pc' := 40) (lv' := [some (vr 12 0 80), some (vi (ii 0))]) (st' := []) (h' := (wI (wI (wI (wI (wI q1 80 35 (ii 0)) 80 36 (ii 0)) 80 37 (ii 0)) 80 38 (ii 0)) 80 40 (ii 0))) 7 17 (Nat.le_of_ble_eq_true rfl) tk_R_readHeath rfl rfl ⟨trivial, trivial, trivial, trivial, trivial, trivial, trivial, trivial, trivial, trivial, trivial, trivial, trivial, trivial, (by decide), trivial, trivial, trivial⟩ ?_
  obtain ⟨q2, hq2, hx⟩ := bd hx
  refine Ev.msk [true, true] ?_
  show Ev Γ m_R_readHeath 40 [some (vr 12 0 80), some (vi (ii 0))] [] (wI (wI (wI (wI (wI q1 80 35 (ii 0)) 80 36 (ii 0)) 80 37 (ii 0)) 80 38 (ii 0)) 80 40 (ii 0)) r h'
  refine l_R_readHeath_L40 Γ FU (ii 0) (wI (wI (wI (wI (wI q1 80 35 (ii 0)) 80 36 (ii 0)) 80 37 (ii 0)) 80 38 (ii 0)) 80 40 (ii 0)) _ hq2 r h' ?_
  show Ev Γ m_R_readHeath 63 [some (vr 12 0 80), none] [] q2 r h'
  refine Ev.blk (pc' := 65) (lv' := [some (vr 12 0 80), some (vi (ii 1))]) (st' := []) (h' := q2) 36 2 (Nat.le_of_ble_eq_true rfl) tk_R_readHeath rfl rfl ⟨trivial, trivial, trivial⟩ ?_
  refine Ev.msk [true, true] ?_
  show Ev Γ m_R_readHeath 65 [some (vr 12 0 80), some (vi (ii 1))] [] q2 r h'
  exact l_R_readHeath_L65 Γ FU (ii 1) q2 _ hx r h' hP
set_option maxRecDepth 4000 in
theorem l_R_isAmong_L2 (Γ : AG) : ∀ (n : Nat) (o0 : Nat) (v1 : Int32) (v2 : Int32) (h : AH) (x : Int32), R_isAmong_L2 n o0 v1 v2 h = some x → ∀ (r : Option AV) (h' : AH), r = some (vi x) ∧ h' = h → Ev Γ m_R_isAmong 2 [some (vr 31 0 o0), some (vi v1), some (vi v2)] [] h r h' := by
  intro n
  induction n with
  | zero => intro o0 v1 v2 h x hx; cases hx
  | succ n ih =>
    intro o0 v1 v2 h x hx r h' hP
    replace hx : R_isAmong_L2_b (R_isAmong_L2 n) o0 v1 v2 h = some x := hx
    unfold R_isAmong_L2_b at hx
    refine Ev.blk (pc' := 4) (lv' := [some (vr 31 0 o0), some (vi v1), some (vi v2)]) (st' := [vr 31 0 o0, vi v2]) (h' := h) 2 2 (Nat.le_of_ble_eq_true rfl) tk_R_isAmong rfl rfl ⟨trivial, trivial, trivial⟩ ?_
    refine Ev.callV (ν := m_Str_length) (av := []) (rest := [vi v2]) (r1 := some (vi (p_Str_length o0))) (h1 := h) (ci := 31) (nn := 0) (o := o0) 4 0 tk_R_isAmong rfl bb_Str_length vv_Str_length lk_12_105 (by decide) rfl rfl (Or.inr ⟨rfl, rfl⟩) (Nat.le_of_ble_eq_true rfl) (s_Str_length Γ o0 h) ?_
    show Ev Γ m_R_isAmong 7 [some (vr 31 0 o0), some (vi v1), some (vi v2)] [vi (p_Str_length o0), vi v2] h r h'
    refine Ev.icmp_ge 5 27 tk_R_isAmong rfl (by decide) (fun hc1 => ?_) (fun hc1 => ?_)
    · replace hx := ip hc1 hx
      refine Ev.blk (pc' := 28) (lv' := [some (vr 31 0 o0), some (vi v1), some (vi v2)]) (st' := [vi (ii 0)]) (h' := h) 15 1 (Nat.le_of_ble_eq_true rfl) tk_R_isAmong rfl rfl ⟨trivial, trivial⟩ ?_
      obtain rfl := Option.some.inj hx
      obtain ⟨rfl, rfl⟩ := hP
      exact Ev.zret 16 tk_R_isAmong rfl rfl rfl
    · replace hx := ia hc1 hx
      refine Ev.blk (pc' := 12) (lv' := [some (vr 31 0 o0), some (vi v1), some (vi v2)]) (st' := [vi v2, vr 31 0 o0]) (h' := h) 6 2 (Nat.le_of_ble_eq_true rfl) tk_R_isAmong rfl rfl ⟨trivial, trivial, trivial⟩ ?_
      obtain ⟨q1, hq2, hx⟩ := bd hx
      refine Ev.callV (ν := m_Str_charAt) (av := [vi v2]) (rest := []) (r1 := some (vi q1)) (h1 := h) (ci := 31) (nn := 0) (o := o0) 8 1 tk_R_isAmong rfl bb_Str_charAt vv_Str_charAt lk_12_111 (by decide) rfl rfl (Or.inr ⟨rfl, rfl⟩) (Nat.le_of_ble_eq_true rfl) (s_Str_charAt Γ o0 v2 h _ hq2) ?_
      show Ev Γ m_R_isAmong 15 [some (vr 31 0 o0), some (vi v1), some (vi v2)] [vi q1] h r h'
      refine Ev.blk (pc' := 16) (lv' := [some (vr 31 0 o0), some (vi v1), some (vi v2)]) (st' := [vi v1, vi q1]) (h' := h) 9 1 (Nat.le_of_ble_eq_true rfl) tk_R_isAmong rfl rfl ⟨trivial, trivial⟩ ?_
      refine Ev.icmp_ne 10 21 tk_R_isAmong rfl (by decide) (fun hc3 => ?_) (fun hc3 => ?_)
      · replace hx := ia hc3 hx
        refine Ev.blk (pc' := 2) (lv' := [some (vr 31 0 o0), some (vi v1), some (vi (v2 + ii 1))]) (st' := []) (h' := h) 13 2 (Nat.le_of_ble_eq_true rfl) tk_R_isAmong rfl rfl ⟨trivial, trivial, trivial⟩ ?_
        exact Ev.msk [true, true, true] (ih o0 v1 (v2 + ii 1) h _ hx r h' hP)
      · replace hx := ip hc3 hx
        refine Ev.blk (pc' := 20) (lv' := [some (vr 31 0 o0), some (vi v1), some (vi v2)]) (st' := [vi (ii 1)]) (h' := h) 11 1 (Nat.le_of_ble_eq_true rfl) tk_R_isAmong rfl rfl ⟨trivial, trivial⟩ ?_
        obtain rfl := Option.some.inj hx
        obtain ⟨rfl, rfl⟩ := hP
        exact Ev.zret 12 tk_R_isAmong rfl rfl rfl
set_option maxRecDepth 4000 in
theorem s_R_isAmong (Γ : AG) (o0 : Nat) (a1 : Int32) (h : AH) (x : Int32) (hx : f_R_isAmong o0 a1 h = some x) : MetA Γ m_R_isAmong [vr 31 0 o0, vi a1] h (some (vi x)) h := by
  refine Ev.met rfl rfl (Nat.le_of_ble_eq_true rfl) ?_
  show Ev Γ m_R_isAmong 0 [some (vr 31 0 o0), some (vi a1), none] [] h _ _
  obtain ⟨r, hr⟩ : ∃ r : Option AV, r = some (vi x) := ⟨_, rfl⟩
  obtain ⟨h', hh⟩ : ∃ h' : AH, h' = h := ⟨_, rfl⟩
  have hP : r = some (vi x) ∧ h' = h := ⟨hr, hh⟩
  suffices hS : Ev Γ m_R_isAmong 0 [some (vr 31 0 o0), some (vi a1), none] [] h r h' by rw [hr, hh] at hS; exact hS
  clear hr hh
  unfold f_R_isAmong at hx
  refine Ev.blk (pc' := 2) (lv' := [some (vr 31 0 o0), some (vi a1), some (vi (ii 0))]) (st' := []) (h' := h) 0 2 (Nat.le_of_ble_eq_true rfl) tk_R_isAmong rfl rfl ⟨trivial, trivial, trivial⟩ ?_
  refine Ev.msk [true, true, true] ?_
  show Ev Γ m_R_isAmong 2 [some (vr 31 0 o0), some (vi a1), some (vi (ii 0))] [] h r h'
  exact l_R_isAmong_L2 Γ FU o0 a1 (ii 0) h _ hx r h' hP
set_option maxRecDepth 4000 in
theorem s_R_takes (Γ : AG) (a1 : Int32) (h : AH) (x : Int32 × AH) (hx : f_R_takes a1 h = some x) : MetA Γ m_R_takes [vr 12 0 80, vi a1] h (some (vi x.1)) x.2 := by
  refine Ev.met rfl rfl (Nat.le_of_ble_eq_true rfl) ?_
  show Ev Γ m_R_takes 0 [some (vr 12 0 80), some (vi a1)] [] h _ _
  obtain ⟨r, hr⟩ : ∃ r : Option AV, r = some (vi x.1) := ⟨_, rfl⟩
  obtain ⟨h', hh⟩ : ∃ h' : AH, h' = x.2 := ⟨_, rfl⟩
  have hP : r = some (vi x.1) ∧ h' = x.2 := ⟨hr, hh⟩
  suffices hS : Ev Γ m_R_takes 0 [some (vr 12 0 80), some (vi a1)] [] h r h' by rw [hr, hh] at hS; exact hS
  clear hr hh
  unfold f_R_takes at hx
  refine Ev.blk (pc' := 5) (lv' := [some (vr 12 0 80), some (vi a1)]) (st' := [vi (ii (-1)), vi (h.1 80 11)]) (h' := h) 0 3 (Nat.le_of_ble_eq_true rfl) tk_R_takes rfl rfl ⟨trivial, trivial, trivial, trivial⟩ ?_
  refine Ev.icmp_ne 3 16 tk_R_takes rfl (by decide) (fun hc1 => ?_) (fun hc1 => ?_)
  · replace hx := ia hc1 hx
    refine Ev.blk (pc' := 17) (lv' := [some (vr 12 0 80), some (vi a1)]) (st' := [vr 12 0 80]) (h' := h) 8 1 (Nat.le_of_ble_eq_true rfl) tk_R_takes rfl rfl ⟨trivial, trivial⟩ ?_
    obtain ⟨q1, hq2, hx⟩ := bd hx
    refine Ev.callV (ν := m_R_fails) (av := []) (rest := []) (r1 := some (vi q1.1)) (h1 := q1.2) (ci := 12) (nn := 0) (o := 80) 9 0 tk_R_takes rfl bb_R_fails vv_R_fails lk_12_140 (by decide) rfl rfl (Or.inl rfl) (Nat.le_of_ble_eq_true rfl) (s_R_fails Γ h _ hq2) ?_
    show Ev Γ m_R_takes 20 [some (vr 12 0 80), some (vi a1)] [vi q1.1] q1.2 r h'
    obtain ⟨hg3, hx⟩ := gd hx
    obtain rfl := Option.some.inj hx
    obtain ⟨rfl, rfl⟩ := hP
    exact Ev.zret 10 tk_R_takes rfl rfl (nbool hg3)
  · replace hx := ip hc1 hx
    refine Ev.blk (pc' := 9) (lv' := [some (vr 12 0 80), some (vi a1)]) (st' := [vr 12 0 80]) (h' := h) 4 1 (Nat.le_of_ble_eq_true rfl) tk_R_takes rfl rfl ⟨trivial, trivial⟩ ?_
    obtain ⟨q2, hq4, hx⟩ := bd hx
    refine Ev.callV (ν := m_R_look) (av := []) (rest := []) (r1 := some (vi q2.1)) (h1 := q2.2) (ci := 12) (nn := 0) (o := 80) 5 0 tk_R_takes rfl bb_R_look vv_R_look lk_12_144 (by decide) rfl rfl (Or.inl rfl) (Nat.le_of_ble_eq_true rfl) (s_R_look Γ h _ hq4) ?_
    show Ev Γ m_R_takes 12 [some (vr 12 0 80), some (vi a1)] [vi q2.1] q2.2 r h'
    refine Ev.blk (pc' := 13) (lv' := [some (vr 12 0 80), some (vi a1)]) (st' := [vi a1, vi q2.1]) (h' := q2.2) 6 1 (Nat.le_of_ble_eq_true rfl) tk_R_takes rfl rfl ⟨trivial, trivial⟩ ?_
    refine Ev.icmp_eq 7 21 tk_R_takes rfl (by decide) (fun hc5 => ?_) (fun hc5 => ?_)
    · replace hx := ip hc5 hx
      refine Ev.blk (pc' := 32) (lv' := [some (vr 12 0 80), some (vi a1)]) (st' := [vi (ii 1)]) (h' := (wI q2.2 80 10 ((q2.2.1 80 10) + (ii 1)))) 11 7 (Nat.le_of_ble_eq_true rfl) tk_R_takes rfl rfl ⟨trivial, trivial, trivial, trivial, trivial, trivial, trivial, trivial⟩ ?_
      obtain rfl := Option.some.inj hx
      obtain ⟨rfl, rfl⟩ := hP
      exact Ev.zret 18 tk_R_takes rfl rfl rfl
    · replace hx := ia hc5 hx
      refine Ev.blk (pc' := 17) (lv' := [some (vr 12 0 80), some (vi a1)]) (st' := [vr 12 0 80]) (h' := q2.2) 8 1 (Nat.le_of_ble_eq_true rfl) tk_R_takes rfl rfl ⟨trivial, trivial⟩ ?_
      obtain ⟨q3, hq6, hx⟩ := bd hx
      refine Ev.callV (ν := m_R_fails) (av := []) (rest := []) (r1 := some (vi q3.1)) (h1 := q3.2) (ci := 12) (nn := 0) (o := 80) 9 0 tk_R_takes rfl bb_R_fails vv_R_fails lk_12_140 (by decide) rfl rfl (Or.inl rfl) (Nat.le_of_ble_eq_true rfl) (s_R_fails Γ q2.2 _ hq6) ?_
      show Ev Γ m_R_takes 20 [some (vr 12 0 80), some (vi a1)] [vi q3.1] q3.2 r h'
      obtain ⟨hg7, hx⟩ := gd hx
      obtain rfl := Option.some.inj hx
      obtain ⟨rfl, rfl⟩ := hP
      exact Ev.zret 10 tk_R_takes rfl rfl (nbool hg7)
set_option maxRecDepth 4000 in
theorem s_R_goesIn (Γ : AG) (h : AH) (x : Int32 × AH) (hx : f_R_goesIn  h = some x) : MetA Γ m_R_goesIn [vr 12 0 80] h (some (vi x.1)) x.2 := by
  refine Ev.met rfl rfl (Nat.le_of_ble_eq_true rfl) ?_
  show Ev Γ m_R_goesIn 0 [some (vr 12 0 80)] [] h _ _
  obtain ⟨r, hr⟩ : ∃ r : Option AV, r = some (vi x.1) := ⟨_, rfl⟩
  obtain ⟨h', hh⟩ : ∃ h' : AH, h' = x.2 := ⟨_, rfl⟩
  have hP : r = some (vi x.1) ∧ h' = x.2 := ⟨hr, hh⟩
  suffices hS : Ev Γ m_R_goesIn 0 [some (vr 12 0 80)] [] h r h' by rw [hr, hh] at hS; exact hS
  clear hr hh
  unfold f_R_goesIn at hx
  refine Ev.blk (pc' := 6) (lv' := [some (vr 12 0 80)]) (st' := [vi (ii 6), vi (h.1 80 12)]) (h' := h) 0 3 (Nat.le_of_ble_eq_true rfl) tk_R_goesIn rfl rfl ⟨trivial, trivial, trivial, trivial⟩ ?_
  refine Ev.icmp_ne 3 14 tk_R_goesIn rfl (by decide) (fun hc1 => ?_) (fun hc1 => ?_)
  · replace hx := ia hc1 hx
    refine Ev.blk (pc' := 35) (lv' := [some (vr 12 0 80)]) (st' := [vi (ii 1)]) (h' := (wI (wI h 80 12 ((h.1 80 12) + (ii 1))) 80 10 (((wI h 80 12 ((h.1 80 12) + (ii 1))).1 80 10) + (ii 1)))) 7 13 (Nat.le_of_ble_eq_true rfl) tk_R_goesIn rfl rfl ⟨trivial, trivial, trivial, trivial, trivial, trivial, trivial, trivial, trivial, trivial, trivial, trivial, trivial, trivial⟩ ?_
    obtain rfl := Option.some.inj hx
    obtain ⟨rfl, rfl⟩ := hP
    exact Ev.zret 20 tk_R_goesIn rfl rfl rfl
  · replace hx := ip hc1 hx
    refine Ev.blk (pc' := 10) (lv' := [some (vr 12 0 80)]) (st' := [vr 12 0 80]) (h' := h) 4 1 (Nat.le_of_ble_eq_true rfl) tk_R_goesIn rfl rfl ⟨trivial, trivial⟩ ?_
    obtain ⟨q1, hq2, hx⟩ := bd hx
    refine Ev.callV (ν := m_R_fails) (av := []) (rest := []) (r1 := some (vi q1.1)) (h1 := q1.2) (ci := 12) (nn := 0) (o := 80) 5 0 tk_R_goesIn rfl bb_R_fails vv_R_fails lk_12_140 (by decide) rfl rfl (Or.inl rfl) (Nat.le_of_ble_eq_true rfl) (s_R_fails Γ h _ hq2) ?_
    show Ev Γ m_R_goesIn 13 [some (vr 12 0 80)] [vi q1.1] q1.2 r h'
    obtain ⟨hg3, hx⟩ := gd hx
    obtain rfl := Option.some.inj hx
    obtain ⟨rfl, rfl⟩ := hP
    exact Ev.zret 6 tk_R_goesIn rfl rfl (nbool hg3)
set_option maxRecDepth 4000 in
theorem l_R_atom_L90 (Γ : AG) (d : Nat) : ∀ (n : Nat) (v2 : Int32) (v3 : Int32) (h : AH) (x : Int32 × AH), R_atom_L90 n v2 v3 h = some x → ∀ (r : Option AV) (h' : AH), r = some (vi x.1) ∧ h' = x.2 → Ev Γ (m_R_atom (d + 1)) 90 [some (vr 12 0 80), none, some (vi v2), some (vi v3)] [] h r h' := by
  intro n
  induction n with
  | zero => intro v2 v3 h x hx; cases hx
  | succ n ih =>
    intro v2 v3 h x hx r h' hP
    replace hx : R_atom_L90_b (R_atom_L90 n) v2 v3 h = some x := hx
    unfold R_atom_L90_b at hx
    refine Ev.blk (pc' := 91) (lv' := [some (vr 12 0 80), none, some (vi v2), some (vi v3)]) (st' := [vr 12 0 80]) (h' := h) 53 1 (Nat.le_of_ble_eq_true rfl) tk_R_atom rfl rfl ⟨trivial, trivial⟩ ?_
    obtain ⟨q1, hq1, hx⟩ := bd hx
    refine Ev.callV (ν := m_R_isDigit) (av := []) (rest := []) (r1 := some (vi q1)) (h1 := h) (ci := 12) (nn := 0) (o := 80) 54 0 tk_R_atom rfl bb_R_isDigit vv_R_isDigit lk_12_174 (by show _ ≤ 6 + (d + 1); simp only [mv, m_R_isDigit]; omega) rfl rfl (Or.inl rfl) (Nat.le_of_ble_eq_true rfl) (s_R_isDigit Γ h _ hq1) ?_
    show Ev Γ (m_R_atom (d + 1)) 94 [some (vr 12 0 80), none, some (vi v2), some (vi v3)] [vi q1] h r h'
    refine Ev.if_eq 55 156 tk_R_atom rfl (by decide) (fun hc2 => ?_) (fun hc2 => ?_)
    · replace hx := ip hc2 hx
      refine Ev.blk (pc' := 157) (lv' := [some (vr 12 0 80), none, some (vi v2), some (vi v3)]) (st' := [vi v2]) (h' := h) 91 1 (Nat.le_of_ble_eq_true rfl) tk_R_atom rfl rfl ⟨trivial, trivial⟩ ?_
      obtain rfl := Option.some.inj hx
      obtain ⟨rfl, rfl⟩ := hP
      exact Ev.iret 92 tk_R_atom rfl rfl
    · replace hx := ia hc2 hx
      refine Ev.blk (pc' := 102) (lv' := [some (vr 12 0 80), none, some (vi v2), some (vi v3)]) (st' := [vi (ii (-1)), vi (h.1 80 11)]) (h' := h) 56 3 (Nat.le_of_ble_eq_true rfl) tk_R_atom rfl rfl ⟨trivial, trivial, trivial, trivial⟩ ?_
      refine Ev.icmp_ne 59 156 tk_R_atom rfl (by decide) (fun hc3 => ?_) (fun hc3 => ?_)
      · replace hx := ia hc3 hx
        refine Ev.blk (pc' := 157) (lv' := [some (vr 12 0 80), none, some (vi v2), some (vi v3)]) (st' := [vi v2]) (h' := h) 91 1 (Nat.le_of_ble_eq_true rfl) tk_R_atom rfl rfl ⟨trivial, trivial⟩ ?_
        obtain rfl := Option.some.inj hx
        obtain ⟨rfl, rfl⟩ := hP
        exact Ev.iret 92 tk_R_atom rfl rfl
      · replace hx := ip hc3 hx
        refine Ev.blk (pc' := 107) (lv' := [some (vr 12 0 80), none, some (vi v2), some (vi v3)]) (st' := [vi (ii 4), vi v3]) (h' := h) 60 2 (Nat.le_of_ble_eq_true rfl) tk_R_atom rfl rfl ⟨trivial, trivial, trivial⟩ ?_
        refine Ev.icmp_ne 62 117 tk_R_atom rfl (by decide) (fun hc4 => ?_) (fun hc4 => ?_)
        · replace hx := ia hc4 hx
          obtain ⟨hg5, hx⟩ := gd hx
          refine Ev.blk (pc' := 90) (lv' := [some (vr 12 0 80), none, some (vi ((((ii 10) * v2) + (h.1 (h.2.2 80 5) ((h.1 80 8) + (h.1 80 10)).toNatClampNeg)) - (ii 48))), some (vi (v3 + ii 1))]) (st' := []) (h' := (wI h 80 10 ((h.1 80 10) + (ii 1)))) 68 23 (Nat.le_of_ble_eq_true rfl) tk_R_atom rfl rfl ⟨trivial, trivial, trivial, trivial, trivial, trivial, trivial, trivial, trivial, trivial, hg5, trivial, trivial, trivial, trivial, trivial, trivial, trivial, trivial, trivial, trivial, trivial, trivial, trivial⟩ ?_
          exact Ev.msk [true, false, true, true] (ih ((((ii 10) * v2) + (h.1 (h.2.2 80 5) ((h.1 80 8) + (h.1 80 10)).toNatClampNeg)) - (ii 48)) (v3 + ii 1) (wI h 80 10 ((h.1 80 10) + (ii 1))) _ hx r h' hP)
        · replace hx := ip hc4 hx
          refine Ev.blk (pc' := 111) (lv' := [some (vr 12 0 80), none, some (vi v2), some (vi v3)]) (st' := [vr 12 0 80]) (h' := h) 63 1 (Nat.le_of_ble_eq_true rfl) tk_R_atom rfl rfl ⟨trivial, trivial⟩ ?_
          obtain ⟨q2, hq6, hx⟩ := bd hx
          refine Ev.callV (ν := m_R_fails) (av := []) (rest := []) (r1 := some (vi q2.1)) (h1 := q2.2) (ci := 12) (nn := 0) (o := 80) 64 0 tk_R_atom rfl bb_R_fails vv_R_fails lk_12_140 (by show _ ≤ 6 + (d + 1); simp only [mv, m_R_fails]; omega) rfl rfl (Or.inl rfl) (Nat.le_of_ble_eq_true rfl) (s_R_fails Γ h _ hq6) ?_
          show Ev Γ (m_R_atom (d + 1)) 114 [some (vr 12 0 80), none, some (vi v2), some (vi v3)] [vi q2.1] q2.2 r h'
          refine Ev.blk (pc' := 116) (lv' := [some (vr 12 0 80), none, some (vi v2), some (vi v3)]) (st' := [vi (ii 0)]) (h' := q2.2) 65 2 (Nat.le_of_ble_eq_true rfl) tk_R_atom rfl rfl ⟨trivial, trivial, trivial⟩ ?_
          obtain rfl := Option.some.inj hx
          obtain ⟨rfl, rfl⟩ := hP
          exact Ev.iret 67 tk_R_atom rfl rfl
set_option maxRecDepth 4000 in
theorem u_R_atom_ok (Γ : AG) (d : Nat) (rc : Nat → AH → Option (Int32 × AH)) (hrc0 : ∀ (h : AH) (x : Int32 × AH), rc 0  h = some x → MetA Γ (m_R_sum d) [vr 12 0 80] h (some (vi x.1)) x.2) (hrc1 : ∀ (h : AH) (x : Int32 × AH), rc 1  h = some x → MetA Γ (m_R_term d) [vr 12 0 80] h (some (vi x.1)) x.2) (hrc2 : ∀ (h : AH) (x : Int32 × AH), rc 2  h = some x → MetA Γ (m_R_atom d) [vr 12 0 80] h (some (vi x.1)) x.2) (h : AH) (x : Int32 × AH) (hx : u_R_atom rc  h = some x) : MetA Γ (m_R_atom (d + 1)) [vr 12 0 80] h (some (vi x.1)) x.2 := by
  refine Ev.met rfl rfl (Nat.le_of_ble_eq_true rfl) ?_
  show Ev Γ (m_R_atom (d + 1)) 0 [some (vr 12 0 80), none, none, none] [] h _ _
  obtain ⟨r, hr⟩ : ∃ r : Option AV, r = some (vi x.1) := ⟨_, rfl⟩
  obtain ⟨h', hh⟩ : ∃ h' : AH, h' = x.2 := ⟨_, rfl⟩
  have hP : r = some (vi x.1) ∧ h' = x.2 := ⟨hr, hh⟩
  suffices hS : Ev Γ (m_R_atom (d + 1)) 0 [some (vr 12 0 80), none, none, none] [] h r h' by rw [hr, hh] at hS; exact hS
  clear hr hh
  unfold u_R_atom at hx
  refine Ev.blk (pc' := 1) (lv' := [some (vr 12 0 80), none, none, none]) (st' := [vr 12 0 80]) (h' := h) 0 1 (Nat.le_of_ble_eq_true rfl) tk_R_atom rfl rfl ⟨trivial, trivial⟩ ?_
  obtain ⟨q1, hq1, hx⟩ := bd hx
  refine Ev.callV (ν := m_R_look) (av := []) (rest := []) (r1 := some (vi q1.1)) (h1 := q1.2) (ci := 12) (nn := 0) (o := 80) 1 0 tk_R_atom rfl bb_R_look vv_R_look lk_12_144 (by show _ ≤ 6 + (d + 1); simp only [mv, m_R_look]; omega) rfl rfl (Or.inl rfl) (Nat.le_of_ble_eq_true rfl) (s_R_look Γ h _ hq1) ?_
  show Ev Γ (m_R_atom (d + 1)) 4 [some (vr 12 0 80), none, none, none] [vi q1.1] q1.2 r h'
  refine Ev.blk (pc' := 8) (lv' := [some (vr 12 0 80), some (vi q1.1), none, none]) (st' := [vi q1.1, vr 31 0 7]) (h' := q1.2) 2 3 (Nat.le_of_ble_eq_true rfl) tk_R_atom rfl rfl ⟨trivial, trivial, trivial, trivial⟩ ?_
  obtain ⟨q2, hq2, hx⟩ := bd hx
  refine Ev.callS (ν := m_R_isAmong) (av := [vr 31 0 7, vi q1.1]) (rest := []) (r1 := some (vi q2)) (h1 := q1.2) 5 2 tk_R_atom rfl bb_R_isAmong vv_R_isAmong lk_12_160 (by show _ ≤ 6 + (d + 1); simp only [mv, m_R_isAmong]; omega) rfl rfl (Nat.le_of_ble_eq_true rfl) (s_R_isAmong Γ 7 q1.1 q1.2 _ hq2) ?_
  show Ev Γ (m_R_atom (d + 1)) 11 [some (vr 12 0 80), some (vi q1.1), none, none] [vi q2] q1.2 r h'
  refine Ev.if_eq 6 31 tk_R_atom rfl (by decide) (fun hc3 => ?_) (fun hc3 => ?_)
  · replace hx := ip hc3 hx
    refine Ev.blk (pc' := 34) (lv' := [some (vr 12 0 80), some (vi q1.1), none, none]) (st' := [vi (ii 91), vi q1.1]) (h' := q1.2) 18 2 (Nat.le_of_ble_eq_true rfl) tk_R_atom rfl rfl ⟨trivial, trivial, trivial⟩ ?_
    refine Ev.icmp_ne 20 74 tk_R_atom rfl (by decide) (fun hc4 => ?_) (fun hc4 => ?_)
    · replace hx := ia hc4 hx
      refine Ev.blk (pc' := 75) (lv' := [some (vr 12 0 80), some (vi q1.1), none, none]) (st' := [vr 12 0 80]) (h' := q1.2) 43 1 (Nat.le_of_ble_eq_true rfl) tk_R_atom rfl rfl ⟨trivial, trivial⟩ ?_
      obtain ⟨q3, hq5, hx⟩ := bd hx
      refine Ev.callV (ν := m_R_isDigit) (av := []) (rest := []) (r1 := some (vi q3)) (h1 := q1.2) (ci := 12) (nn := 0) (o := 80) 44 0 tk_R_atom rfl bb_R_isDigit vv_R_isDigit lk_12_174 (by show _ ≤ 6 + (d + 1); simp only [mv, m_R_isDigit]; omega) rfl rfl (Or.inl rfl) (Nat.le_of_ble_eq_true rfl) (s_R_isDigit Γ q1.2 _ hq5) ?_
      show Ev Γ (m_R_atom (d + 1)) 78 [some (vr 12 0 80), some (vi q1.1), none, none] [vi q3] q1.2 r h'
      obtain ⟨q5, hq6, hx⟩ := bd hx
      have K7 : Ev Γ (m_R_atom (d + 1)) 86 [some (vr 12 0 80), none, none, none] [] q5 r h' := by
        refine Ev.blk (pc' := 90) (lv' := [some (vr 12 0 80), none, some (vi (ii 0)), some (vi (ii 0))]) (st' := []) (h' := q5) 49 4 (Nat.le_of_ble_eq_true rfl) tk_R_atom rfl rfl ⟨trivial, trivial, trivial, trivial, trivial⟩ ?_
        refine Ev.msk [true, false, true, true] ?_
        show Ev Γ (m_R_atom (d + 1)) 90 [some (vr 12 0 80), none, some (vi (ii 0)), some (vi (ii 0))] [] q5 r h'
        exact l_R_atom_L90 Γ d FU (ii 0) (ii 0) q5 _ hx r h' hP
      clear hx
      refine Ev.if_ne 45 86 tk_R_atom rfl (by decide) (fun hc8 => ?_) (fun hc8 => ?_)
      · replace hq6 := ia hc8 hq6
        obtain rfl := Option.some.inj hq6
        exact Ev.msk [true, false, false, false] K7
      · replace hq6 := ip hc8 hq6
        refine Ev.blk (pc' := 82) (lv' := [some (vr 12 0 80), some (vi q1.1), none, none]) (st' := [vr 12 0 80]) (h' := q1.2) 46 1 (Nat.le_of_ble_eq_true rfl) tk_R_atom rfl rfl ⟨trivial, trivial⟩ ?_
        obtain ⟨q4, hq9, hq6⟩ := bd hq6
        refine Ev.callV (ν := m_R_fails) (av := []) (rest := []) (r1 := some (vi q4.1)) (h1 := q4.2) (ci := 12) (nn := 0) (o := 80) 47 0 tk_R_atom rfl bb_R_fails vv_R_fails lk_12_140 (by show _ ≤ 6 + (d + 1); simp only [mv, m_R_fails]; omega) rfl rfl (Or.inl rfl) (Nat.le_of_ble_eq_true rfl) (s_R_fails Γ q1.2 _ hq9) ?_
        show Ev Γ (m_R_atom (d + 1)) 85 [some (vr 12 0 80), some (vi q1.1), none, none] [vi q4.1] q4.2 r h'
        refine Ev.blk (pc' := 86) (lv' := [some (vr 12 0 80), some (vi q1.1), none, none]) (st' := []) (h' := q4.2) 48 1 (Nat.le_of_ble_eq_true rfl) tk_R_atom rfl rfl ⟨trivial, trivial⟩ ?_
        obtain rfl := Option.some.inj hq6
        exact Ev.msk [true, false, false, false] K7
    · replace hx := ip hc4 hx
      refine Ev.blk (pc' := 38) (lv' := [some (vr 12 0 80), some (vi q1.1), none, none]) (st' := [vr 12 0 80]) (h' := q1.2) 21 1 (Nat.le_of_ble_eq_true rfl) tk_R_atom rfl rfl ⟨trivial, trivial⟩ ?_
      obtain ⟨q6, hq10, hx⟩ := bd hx
      refine Ev.callV (ν := m_R_goesIn) (av := []) (rest := []) (r1 := some (vi q6.1)) (h1 := q6.2) (ci := 12) (nn := 0) (o := 80) 22 0 tk_R_atom rfl bb_R_goesIn vv_R_goesIn lk_12_164 (by show _ ≤ 6 + (d + 1); simp only [mv, m_R_goesIn]; omega) rfl rfl (Or.inl rfl) (Nat.le_of_ble_eq_true rfl) (s_R_goesIn Γ q1.2 _ hq10) ?_
      show Ev Γ (m_R_atom (d + 1)) 41 [some (vr 12 0 80), some (vi q1.1), none, none] [vi q6.1] q6.2 r h'
      refine Ev.if_ne 23 46 tk_R_atom rfl (by decide) (fun hc11 => ?_) (fun hc11 => ?_)
      · replace hx := ia hc11 hx
        refine Ev.blk (pc' := 47) (lv' := [some (vr 12 0 80), some (vi q1.1), none, none]) (st' := [vr 12 0 80]) (h' := q6.2) 26 1 (Nat.le_of_ble_eq_true rfl) tk_R_atom rfl rfl ⟨trivial, trivial⟩ ?_
        obtain ⟨q7, hq12, hx⟩ := bd hx
        refine Ev.callV (ν := (m_R_sum d)) (av := []) (rest := []) (r1 := some (vi q7.1)) (h1 := q7.2) (ci := 12) (nn := 0) (o := 80) 27 0 tk_R_atom rfl (bb_R_sum _) (vv_R_sum _) lk_12_167 (Nat.le_refl _) rfl rfl (Or.inl rfl) (Nat.le_of_ble_eq_true rfl) (hrc0 q6.2 _ hq12) ?_
        show Ev Γ (m_R_atom (d + 1)) 50 [some (vr 12 0 80), some (vi q1.1), none, none] [vi q7.1] q7.2 r h'
        refine Ev.blk (pc' := 54) (lv' := [some (vr 12 0 80), some (vi q1.1), some (vi q7.1), none]) (st' := [vi (ii 93), vr 12 0 80]) (h' := q7.2) 28 3 (Nat.le_of_ble_eq_true rfl) tk_R_atom rfl rfl ⟨trivial, trivial, trivial, trivial⟩ ?_
        obtain ⟨q8, hq13, hx⟩ := bd hx
        refine Ev.callV (ν := m_R_takes) (av := [vi (ii 93)]) (rest := []) (r1 := some (vi q8.1)) (h1 := q8.2) (ci := 12) (nn := 0) (o := 80) 31 1 tk_R_atom rfl bb_R_takes vv_R_takes lk_12_170 (by show _ ≤ 6 + (d + 1); simp only [mv, m_R_takes]; omega) rfl rfl (Or.inl rfl) (Nat.le_of_ble_eq_true rfl) (s_R_takes Γ (ii 93) q7.2 _ hq13) ?_
        show Ev Γ (m_R_atom (d + 1)) 57 [some (vr 12 0 80), some (vi q1.1), some (vi q7.1), none] [vi q8.1] q8.2 r h'
        refine Ev.if_ne 32 62 tk_R_atom rfl (by decide) (fun hc14 => ?_) (fun hc14 => ?_)
        · replace hx := ia hc14 hx
          refine Ev.blk (pc' := 73) (lv' := [some (vr 12 0 80), some (vi q1.1), some (vi q7.1), none]) (st' := [vi q7.1]) (h' := (wI q8.2 80 12 ((q8.2.1 80 12) - (ii 1)))) 35 7 (Nat.le_of_ble_eq_true rfl) tk_R_atom rfl rfl ⟨trivial, trivial, trivial, trivial, trivial, trivial, trivial, trivial⟩ ?_
          obtain rfl := Option.some.inj hx
          obtain ⟨rfl, rfl⟩ := hP
          exact Ev.iret 42 tk_R_atom rfl rfl
        · replace hx := ip hc14 hx
          refine Ev.blk (pc' := 61) (lv' := [some (vr 12 0 80), some (vi q1.1), some (vi q7.1), none]) (st' := [vi (ii 0)]) (h' := q8.2) 33 1 (Nat.le_of_ble_eq_true rfl) tk_R_atom rfl rfl ⟨trivial, trivial⟩ ?_
          obtain rfl := Option.some.inj hx
          obtain ⟨rfl, rfl⟩ := hP
          exact Ev.iret 34 tk_R_atom rfl rfl
      · replace hx := ip hc11 hx
        refine Ev.blk (pc' := 45) (lv' := [some (vr 12 0 80), some (vi q1.1), none, none]) (st' := [vi (ii 0)]) (h' := q6.2) 24 1 (Nat.le_of_ble_eq_true rfl) tk_R_atom rfl rfl ⟨trivial, trivial⟩ ?_
        obtain rfl := Option.some.inj hx
        obtain ⟨rfl, rfl⟩ := hP
        exact Ev.iret 25 tk_R_atom rfl rfl
  · replace hx := ia hc3 hx
    obtain ⟨hg15, hx⟩ := gd hx
    refine Ev.blk (pc' := 30) (lv' := [some (vr 12 0 80), some (vi q1.1), none, none]) (st' := [vi ((wI q1.2 80 10 ((q1.2.1 80 10) + (ii 1))).1 84 (q1.1).toNatClampNeg)]) (h' := (wI q1.2 80 10 ((q1.2.1 80 10) + (ii 1)))) 7 10 (Nat.le_of_ble_eq_true rfl) tk_R_atom rfl rfl ⟨trivial, trivial, trivial, trivial, trivial, trivial, trivial, trivial, trivial, hg15, trivial⟩ ?_
    obtain rfl := Option.some.inj hx
    obtain ⟨rfl, rfl⟩ := hP
    exact Ev.iret 17 tk_R_atom rfl rfl
theorem s_R_within (Γ : AG) (a0 : Int64) (h : AH) : MetA Γ m_R_within [vl a0] h (some (vi (p_R_within a0))) h := by
  refine Ev.met rfl rfl (Nat.le_of_ble_eq_true rfl) ?_
  generalize hx : p_R_within a0 = x
  show Ev Γ m_R_within 0 [some (vl a0), none] [] h _ _
  obtain ⟨r, hr⟩ : ∃ r : Option AV, r = some (vi x) := ⟨_, rfl⟩
  obtain ⟨h', hh⟩ : ∃ h' : AH, h' = h := ⟨_, rfl⟩
  have hP : r = some (vi x) ∧ h' = h := ⟨hr, hh⟩
  suffices hS : Ev Γ m_R_within 0 [some (vl a0), none] [] h r h' by rw [hr, hh] at hS; exact hS
  clear hr hh
  unfold p_R_within at hx
  refine Ev.blk (pc' := 7) (lv' := [some (vl a0), none]) (st' := [vl a0, vl (Int64.ofInt 1000000), vl (Int64.ofInt (-1000000))]) (h' := h) 0 3 (Nat.le_of_ble_eq_true rfl) tk_R_within rfl rfl ⟨trivial, trivial, trivial, trivial⟩ ?_
  refine Ev.mminL (rest := [vl (Int64.ofInt (-1000000))]) 3 tk_R_within rfl lk_12_151 (by decide) (Nat.le_of_ble_eq_true rfl) ?_
  show Ev Γ m_R_within 10 [some (vl a0), none] [vl (p_Math_minL (Int64.ofInt 1000000) a0), vl (Int64.ofInt (-1000000))] h r h'
  refine Ev.mmaxL (rest := []) 4 tk_R_within rfl lk_12_157 (by decide) (Nat.le_of_ble_eq_true rfl) ?_
  show Ev Γ m_R_within 13 [some (vl a0), none] [vl (p_Math_maxL (Int64.ofInt (-1000000)) (p_Math_minL (Int64.ofInt 1000000) a0))] h r h'
  refine Ev.blk (pc' := 14) (lv' := [some (vl a0), none]) (st' := [vi ((p_Math_maxL (Int64.ofInt (-1000000)) (p_Math_minL (Int64.ofInt 1000000) a0)).toInt32)]) (h' := h) 5 1 (Nat.le_of_ble_eq_true rfl) tk_R_within rfl rfl ⟨trivial, trivial⟩ ?_
  subst hx
  obtain ⟨rfl, rfl⟩ := hP
  exact Ev.iret 6 tk_R_within rfl rfl
set_option maxRecDepth 4000 in
theorem l_R_term_L5 (Γ : AG) (d : Nat) (rc : Nat → AH → Option (Int32 × AH)) (hrc0 : ∀ (h : AH) (x : Int32 × AH), rc 0  h = some x → MetA Γ (m_R_sum d) [vr 12 0 80] h (some (vi x.1)) x.2) (hrc1 : ∀ (h : AH) (x : Int32 × AH), rc 1  h = some x → MetA Γ (m_R_term d) [vr 12 0 80] h (some (vi x.1)) x.2) (hrc2 : ∀ (h : AH) (x : Int32 × AH), rc 2  h = some x → MetA Γ (m_R_atom d) [vr 12 0 80] h (some (vi x.1)) x.2) : ∀ (n : Nat) (v1 : Int32) (h : AH) (x : Int32 × AH), R_term_L5 rc n v1 h = some x → ∀ (r : Option AV) (h' : AH), r = some (vi x.1) ∧ h' = x.2 → Ev Γ (m_R_term (d + 1)) 5 [some (vr 12 0 80), some (vi v1), none, none, none] [] h r h' := by
  intro n
  induction n with
  | zero => intro v1 h x hx; cases hx
  | succ n ih =>
    intro v1 h x hx r h' hP
    replace hx : R_term_L5_b rc (R_term_L5 rc n) v1 h = some x := hx
    unfold R_term_L5_b at hx
    refine Ev.blk (pc' := 10) (lv' := [some (vr 12 0 80), some (vi v1), none, none, none]) (st' := [vi (ii (-1)), vi (h.1 80 11)]) (h' := h) 3 3 (Nat.le_of_ble_eq_true rfl) tk_R_term rfl rfl ⟨trivial, trivial, trivial, trivial⟩ ?_
    refine Ev.icmp_ne 6 94 tk_R_term rfl (by decide) (fun hc1 => ?_) (fun hc1 => ?_)
    · replace hx := ia hc1 hx
      refine Ev.blk (pc' := 95) (lv' := [some (vr 12 0 80), some (vi v1), none, none, none]) (st' := [vi v1]) (h' := h) 53 1 (Nat.le_of_ble_eq_true rfl) tk_R_term rfl rfl ⟨trivial, trivial⟩ ?_
      obtain rfl := Option.some.inj hx
      obtain ⟨rfl, rfl⟩ := hP
      exact Ev.iret 54 tk_R_term rfl rfl
    · replace hx := ip hc1 hx
      refine Ev.blk (pc' := 14) (lv' := [some (vr 12 0 80), some (vi v1), none, none, none]) (st' := [vr 12 0 80]) (h' := h) 7 1 (Nat.le_of_ble_eq_true rfl) tk_R_term rfl rfl ⟨trivial, trivial⟩ ?_
      obtain ⟨q1, hq2, hx⟩ := bd hx
      refine Ev.callV (ν := m_R_look) (av := []) (rest := []) (r1 := some (vi q1.1)) (h1 := q1.2) (ci := 12) (nn := 0) (o := 80) 8 0 tk_R_term rfl bb_R_look vv_R_look lk_12_144 (by show _ ≤ 6 + (d + 1); simp only [mv, m_R_look]; omega) rfl rfl (Or.inl rfl) (Nat.le_of_ble_eq_true rfl) (s_R_look Γ h _ hq2) ?_
      show Ev Γ (m_R_term (d + 1)) 17 [some (vr 12 0 80), some (vi v1), none, none, none] [vi q1.1] q1.2 r h'
      refine Ev.blk (pc' := 19) (lv' := [some (vr 12 0 80), some (vi v1), none, none, none]) (st' := [vi (ii 42), vi q1.1]) (h' := q1.2) 9 1 (Nat.le_of_ble_eq_true rfl) tk_R_term rfl rfl ⟨trivial, trivial⟩ ?_
      refine Ev.icmp_eq 10 31 tk_R_term rfl (by decide) (fun hc3 => ?_) (fun hc3 => ?_)
      · replace hx := ip hc3 hx
        refine Ev.blk (pc' := 32) (lv' := [some (vr 12 0 80), some (vi v1), none, none, none]) (st' := [vr 12 0 80]) (h' := q1.2) 15 1 (Nat.le_of_ble_eq_true rfl) tk_R_term rfl rfl ⟨trivial, trivial⟩ ?_
        obtain ⟨q2, hq4, hx⟩ := bd hx
        refine Ev.callV (ν := m_R_look) (av := []) (rest := []) (r1 := some (vi q2.1)) (h1 := q2.2) (ci := 12) (nn := 0) (o := 80) 16 0 tk_R_term rfl bb_R_look vv_R_look lk_12_144 (by show _ ≤ 6 + (d + 1); simp only [mv, m_R_look]; omega) rfl rfl (Or.inl rfl) (Nat.le_of_ble_eq_true rfl) (s_R_look Γ q1.2 _ hq4) ?_
        show Ev Γ (m_R_term (d + 1)) 35 [some (vr 12 0 80), some (vi v1), none, none, none] [vi q2.1] q2.2 r h'
        refine Ev.blk (pc' := 37) (lv' := [some (vr 12 0 80), some (vi v1), none, none, none]) (st' := [vi (ii 42), vi q2.1]) (h' := q2.2) 17 1 (Nat.le_of_ble_eq_true rfl) tk_R_term rfl rfl ⟨trivial, trivial⟩ ?_
        have K5 : ∀ v5_0 : Int32, v5_0 = (if q2.1 = (ii 42) then (ii 1) else (ii 0)) → Ev Γ (m_R_term (d + 1)) 45 [some (vr 12 0 80), some (vi v1), none, none, none] [vi v5_0] q2.2 r h' := by
          intro v5_0 e6
          subst e6
          refine Ev.blk (pc' := 57) (lv' := [some (vr 12 0 80), some (vi v1), some (vi (if q2.1 = (ii 42) then (ii 1) else (ii 0))), none, none]) (st' := [vr 12 0 80]) (h' := (wI q2.2 80 10 ((q2.2.1 80 10) + (ii 1)))) 22 8 (Nat.le_of_ble_eq_true rfl) tk_R_term rfl rfl ⟨trivial, trivial, trivial, trivial, trivial, trivial, trivial, trivial, trivial⟩ ?_
          obtain ⟨q3, hq7, hx⟩ := bd hx
          refine Ev.callV (ν := (m_R_atom d)) (av := []) (rest := []) (r1 := some (vi q3.1)) (h1 := q3.2) (ci := 12) (nn := 0) (o := 80) 30 0 tk_R_term rfl (bb_R_atom _) (vv_R_atom _) lk_12_177 (Nat.le_refl _) rfl rfl (Or.inl rfl) (Nat.le_of_ble_eq_true rfl) (hrc2 (wI q2.2 80 10 ((q2.2.1 80 10) + (ii 1))) _ hq7) ?_
          show Ev Γ (m_R_term (d + 1)) 60 [some (vr 12 0 80), some (vi v1), some (vi (if q2.1 = (ii 42) then (ii 1) else (ii 0))), none, none] [vi q3.1] q3.2 r h'
          refine Ev.blk (pc' := 63) (lv' := [some (vr 12 0 80), some (vi v1), some (vi (if q2.1 = (ii 42) then (ii 1) else (ii 0))), some (vl q3.1.toInt64), none]) (st' := [vi (if q2.1 = (ii 42) then (ii 1) else (ii 0))]) (h' := q3.2) 31 3 (Nat.le_of_ble_eq_true rfl) tk_R_term rfl rfl ⟨trivial, trivial, trivial, trivial⟩ ?_
          obtain ⟨q4, hq8, hx⟩ := bd hx
          have K9 : Ev Γ (m_R_term (d + 1)) 87 [some (vr 12 0 80), none, none, none, none] [vl q4] q3.2 r h' := by
            refine Ev.callS (ν := m_R_within) (av := [vl q4]) (rest := []) (r1 := some (vi (p_R_within q4))) (h1 := q3.2) 50 1 tk_R_term rfl bb_R_within vv_R_within lk_12_180 (by show _ ≤ 6 + (d + 1); simp only [mv, m_R_within]; omega) rfl rfl (Nat.le_of_ble_eq_true rfl) (s_R_within Γ q4 q3.2) ?_
            show Ev Γ (m_R_term (d + 1)) 90 [some (vr 12 0 80), none, none, none, none] [vi (p_R_within q4)] q3.2 r h'
            refine Ev.blk (pc' := 5) (lv' := [some (vr 12 0 80), some (vi (p_R_within q4)), none, none, none]) (st' := []) (h' := q3.2) 51 2 (Nat.le_of_ble_eq_true rfl) tk_R_term rfl rfl ⟨trivial, trivial, trivial⟩ ?_
            exact Ev.msk [true, true, false, false, false] (ih (p_R_within q4) q3.2 _ hx r h' hP)
          clear hx
          refine Ev.if_eq 34 73 tk_R_term rfl (by decide) (fun hc10 => ?_) (fun hc10 => ?_)
          · replace hq8 := ip hc10 hq8
            refine Ev.blk (pc' := 76) (lv' := [some (vr 12 0 80), some (vi v1), some (vi (if q2.1 = (ii 42) then (ii 1) else (ii 0))), some (vl q3.1.toInt64), none]) (st' := [vi (lg_cmp q3.1.toInt64 (Int64.ofNat 0))]) (h' := q3.2) 40 3 (Nat.le_of_ble_eq_true rfl) tk_R_term rfl rfl ⟨trivial, trivial, trivial, trivial⟩ ?_
            refine Ev.if_ne 43 83 tk_R_term rfl (by decide) (fun hc11 => ?_) (fun hc11 => ?_)
            · replace hq8 := ia hc11 hq8
              obtain ⟨hg12, hq8⟩ := gd hq8
              refine Ev.blk (pc' := 87) (lv' := [some (vr 12 0 80), some (vi v1), some (vi (if q2.1 = (ii 42) then (ii 1) else (ii 0))), some (vl q3.1.toInt64), none]) (st' := [vl (v1.toInt64 / q3.1.toInt64)]) (h' := q3.2) 46 4 (Nat.le_of_ble_eq_true rfl) tk_R_term rfl rfl ⟨trivial, trivial, trivial, hg12, trivial⟩ ?_
              obtain rfl := Option.some.inj hq8
              exact Ev.msk [true, false, false, false, false] K9
            · replace hq8 := ip hc11 hq8
              refine Ev.blk (pc' := 87) (lv' := [some (vr 12 0 80), some (vi v1), some (vi (if q2.1 = (ii 42) then (ii 1) else (ii 0))), some (vl q3.1.toInt64), none]) (st' := [vl (Int64.ofNat 0)]) (h' := q3.2) 44 2 (Nat.le_of_ble_eq_true rfl) tk_R_term rfl rfl ⟨trivial, trivial, trivial⟩ ?_
              obtain rfl := Option.some.inj hq8
              exact Ev.msk [true, false, false, false, false] K9
          · replace hq8 := ia hc10 hq8
            refine Ev.blk (pc' := 87) (lv' := [some (vr 12 0 80), some (vi v1), some (vi (if q2.1 = (ii 42) then (ii 1) else (ii 0))), some (vl q3.1.toInt64), none]) (st' := [vl (v1.toInt64 * q3.1.toInt64)]) (h' := q3.2) 35 5 (Nat.le_of_ble_eq_true rfl) tk_R_term rfl rfl ⟨trivial, trivial, trivial, trivial, trivial, trivial⟩ ?_
            obtain rfl := Option.some.inj hq8
            exact Ev.msk [true, false, false, false, false] K9
        refine Ev.icmp_ne 18 44 tk_R_term rfl (by decide) (fun hc13 => ?_) (fun hc13 => ?_)
        · refine Ev.blk (pc' := 45) (lv' := [some (vr 12 0 80), some (vi v1), none, none, none]) (st' := [vi (ii 0)]) (h' := q2.2) 21 1 (Nat.le_of_ble_eq_true rfl) tk_R_term rfl rfl ⟨trivial, trivial⟩ ?_
          exact Ev.msk [true, true, false, false, false] (K5 _ (by first | rfl | simp only [if_neg hc13]))
        · refine Ev.blk (pc' := 45) (lv' := [some (vr 12 0 80), some (vi v1), none, none, none]) (st' := [vi (ii 1)]) (h' := q2.2) 19 2 (Nat.le_of_ble_eq_true rfl) tk_R_term rfl rfl ⟨trivial, trivial, trivial⟩ ?_
          exact Ev.msk [true, true, false, false, false] (K5 _ (by first | rfl | simp only [if_pos hc13]))
      · replace hx := ia hc3 hx
        refine Ev.blk (pc' := 23) (lv' := [some (vr 12 0 80), some (vi v1), none, none, none]) (st' := [vr 12 0 80]) (h' := q1.2) 11 1 (Nat.le_of_ble_eq_true rfl) tk_R_term rfl rfl ⟨trivial, trivial⟩ ?_
        obtain ⟨q5, hq14, hx⟩ := bd hx
        refine Ev.callV (ν := m_R_look) (av := []) (rest := []) (r1 := some (vi q5.1)) (h1 := q5.2) (ci := 12) (nn := 0) (o := 80) 12 0 tk_R_term rfl bb_R_look vv_R_look lk_12_144 (by show _ ≤ 6 + (d + 1); simp only [mv, m_R_look]; omega) rfl rfl (Or.inl rfl) (Nat.le_of_ble_eq_true rfl) (s_R_look Γ q1.2 _ hq14) ?_
        show Ev Γ (m_R_term (d + 1)) 26 [some (vr 12 0 80), some (vi v1), none, none, none] [vi q5.1] q5.2 r h'
        refine Ev.blk (pc' := 28) (lv' := [some (vr 12 0 80), some (vi v1), none, none, none]) (st' := [vi (ii 47), vi q5.1]) (h' := q5.2) 13 1 (Nat.le_of_ble_eq_true rfl) tk_R_term rfl rfl ⟨trivial, trivial⟩ ?_
        refine Ev.icmp_ne 14 94 tk_R_term rfl (by decide) (fun hc15 => ?_) (fun hc15 => ?_)
        · replace hx := ia hc15 hx
          refine Ev.blk (pc' := 95) (lv' := [some (vr 12 0 80), some (vi v1), none, none, none]) (st' := [vi v1]) (h' := q5.2) 53 1 (Nat.le_of_ble_eq_true rfl) tk_R_term rfl rfl ⟨trivial, trivial⟩ ?_
          obtain rfl := Option.some.inj hx
          obtain ⟨rfl, rfl⟩ := hP
          exact Ev.iret 54 tk_R_term rfl rfl
        · replace hx := ip hc15 hx
          refine Ev.blk (pc' := 32) (lv' := [some (vr 12 0 80), some (vi v1), none, none, none]) (st' := [vr 12 0 80]) (h' := q5.2) 15 1 (Nat.le_of_ble_eq_true rfl) tk_R_term rfl rfl ⟨trivial, trivial⟩ ?_
          obtain ⟨q6, hq16, hx⟩ := bd hx
          refine Ev.callV (ν := m_R_look) (av := []) (rest := []) (r1 := some (vi q6.1)) (h1 := q6.2) (ci := 12) (nn := 0) (o := 80) 16 0 tk_R_term rfl bb_R_look vv_R_look lk_12_144 (by show _ ≤ 6 + (d + 1); simp only [mv, m_R_look]; omega) rfl rfl (Or.inl rfl) (Nat.le_of_ble_eq_true rfl) (s_R_look Γ q5.2 _ hq16) ?_
          show Ev Γ (m_R_term (d + 1)) 35 [some (vr 12 0 80), some (vi v1), none, none, none] [vi q6.1] q6.2 r h'
          refine Ev.blk (pc' := 37) (lv' := [some (vr 12 0 80), some (vi v1), none, none, none]) (st' := [vi (ii 42), vi q6.1]) (h' := q6.2) 17 1 (Nat.le_of_ble_eq_true rfl) tk_R_term rfl rfl ⟨trivial, trivial⟩ ?_
          have K17 : ∀ v17_0 : Int32, v17_0 = (if q6.1 = (ii 42) then (ii 1) else (ii 0)) → Ev Γ (m_R_term (d + 1)) 45 [some (vr 12 0 80), some (vi v1), none, none, none] [vi v17_0] q6.2 r h' := by
            intro v17_0 e18
            subst e18
            refine Ev.blk (pc' := 57) (lv' := [some (vr 12 0 80), some (vi v1), some (vi (if q6.1 = (ii 42) then (ii 1) else (ii 0))), none, none]) (st' := [vr 12 0 80]) (h' := (wI q6.2 80 10 ((q6.2.1 80 10) + (ii 1)))) 22 8 (Nat.le_of_ble_eq_true rfl) tk_R_term rfl rfl ⟨trivial, trivial, trivial, trivial, trivial, trivial, trivial, trivial, trivial⟩ ?_
            obtain ⟨q7, hq19, hx⟩ := bd hx
            refine Ev.callV (ν := (m_R_atom d)) (av := []) (rest := []) (r1 := some (vi q7.1)) (h1 := q7.2) (ci := 12) (nn := 0) (o := 80) 30 0 tk_R_term rfl (bb_R_atom _) (vv_R_atom _) lk_12_177 (Nat.le_refl _) rfl rfl (Or.inl rfl) (Nat.le_of_ble_eq_true rfl) (hrc2 (wI q6.2 80 10 ((q6.2.1 80 10) + (ii 1))) _ hq19) ?_
            show Ev Γ (m_R_term (d + 1)) 60 [some (vr 12 0 80), some (vi v1), some (vi (if q6.1 = (ii 42) then (ii 1) else (ii 0))), none, none] [vi q7.1] q7.2 r h'
            refine Ev.blk (pc' := 63) (lv' := [some (vr 12 0 80), some (vi v1), some (vi (if q6.1 = (ii 42) then (ii 1) else (ii 0))), some (vl q7.1.toInt64), none]) (st' := [vi (if q6.1 = (ii 42) then (ii 1) else (ii 0))]) (h' := q7.2) 31 3 (Nat.le_of_ble_eq_true rfl) tk_R_term rfl rfl ⟨trivial, trivial, trivial, trivial⟩ ?_
            obtain ⟨q8, hq20, hx⟩ := bd hx
            have K21 : Ev Γ (m_R_term (d + 1)) 87 [some (vr 12 0 80), none, none, none, none] [vl q8] q7.2 r h' := by
              refine Ev.callS (ν := m_R_within) (av := [vl q8]) (rest := []) (r1 := some (vi (p_R_within q8))) (h1 := q7.2) 50 1 tk_R_term rfl bb_R_within vv_R_within lk_12_180 (by show _ ≤ 6 + (d + 1); simp only [mv, m_R_within]; omega) rfl rfl (Nat.le_of_ble_eq_true rfl) (s_R_within Γ q8 q7.2) ?_
              show Ev Γ (m_R_term (d + 1)) 90 [some (vr 12 0 80), none, none, none, none] [vi (p_R_within q8)] q7.2 r h'
              refine Ev.blk (pc' := 5) (lv' := [some (vr 12 0 80), some (vi (p_R_within q8)), none, none, none]) (st' := []) (h' := q7.2) 51 2 (Nat.le_of_ble_eq_true rfl) tk_R_term rfl rfl ⟨trivial, trivial, trivial⟩ ?_
              exact Ev.msk [true, true, false, false, false] (ih (p_R_within q8) q7.2 _ hx r h' hP)
            clear hx
            refine Ev.if_eq 34 73 tk_R_term rfl (by decide) (fun hc22 => ?_) (fun hc22 => ?_)
            · replace hq20 := ip hc22 hq20
              refine Ev.blk (pc' := 76) (lv' := [some (vr 12 0 80), some (vi v1), some (vi (if q6.1 = (ii 42) then (ii 1) else (ii 0))), some (vl q7.1.toInt64), none]) (st' := [vi (lg_cmp q7.1.toInt64 (Int64.ofNat 0))]) (h' := q7.2) 40 3 (Nat.le_of_ble_eq_true rfl) tk_R_term rfl rfl ⟨trivial, trivial, trivial, trivial⟩ ?_
              refine Ev.if_ne 43 83 tk_R_term rfl (by decide) (fun hc23 => ?_) (fun hc23 => ?_)
              · replace hq20 := ia hc23 hq20
                obtain ⟨hg24, hq20⟩ := gd hq20
                refine Ev.blk (pc' := 87) (lv' := [some (vr 12 0 80), some (vi v1), some (vi (if q6.1 = (ii 42) then (ii 1) else (ii 0))), some (vl q7.1.toInt64), none]) (st' := [vl (v1.toInt64 / q7.1.toInt64)]) (h' := q7.2) 46 4 (Nat.le_of_ble_eq_true rfl) tk_R_term rfl rfl ⟨trivial, trivial, trivial, hg24, trivial⟩ ?_
                obtain rfl := Option.some.inj hq20
                exact Ev.msk [true, false, false, false, false] K21
              · replace hq20 := ip hc23 hq20
                refine Ev.blk (pc' := 87) (lv' := [some (vr 12 0 80), some (vi v1), some (vi (if q6.1 = (ii 42) then (ii 1) else (ii 0))), some (vl q7.1.toInt64), none]) (st' := [vl (Int64.ofNat 0)]) (h' := q7.2) 44 2 (Nat.le_of_ble_eq_true rfl) tk_R_term rfl rfl ⟨trivial, trivial, trivial⟩ ?_
                obtain rfl := Option.some.inj hq20
                exact Ev.msk [true, false, false, false, false] K21
            · replace hq20 := ia hc22 hq20
              refine Ev.blk (pc' := 87) (lv' := [some (vr 12 0 80), some (vi v1), some (vi (if q6.1 = (ii 42) then (ii 1) else (ii 0))), some (vl q7.1.toInt64), none]) (st' := [vl (v1.toInt64 * q7.1.toInt64)]) (h' := q7.2) 35 5 (Nat.le_of_ble_eq_true rfl) tk_R_term rfl rfl ⟨trivial, trivial, trivial, trivial, trivial, trivial⟩ ?_
              obtain rfl := Option.some.inj hq20
              exact Ev.msk [true, false, false, false, false] K21
          refine Ev.icmp_ne 18 44 tk_R_term rfl (by decide) (fun hc25 => ?_) (fun hc25 => ?_)
          · refine Ev.blk (pc' := 45) (lv' := [some (vr 12 0 80), some (vi v1), none, none, none]) (st' := [vi (ii 0)]) (h' := q6.2) 21 1 (Nat.le_of_ble_eq_true rfl) tk_R_term rfl rfl ⟨trivial, trivial⟩ ?_
            exact Ev.msk [true, true, false, false, false] (K17 _ (by first | rfl | simp only [if_neg hc25]))
          · refine Ev.blk (pc' := 45) (lv' := [some (vr 12 0 80), some (vi v1), none, none, none]) (st' := [vi (ii 1)]) (h' := q6.2) 19 2 (Nat.le_of_ble_eq_true rfl) tk_R_term rfl rfl ⟨trivial, trivial, trivial⟩ ?_
            exact Ev.msk [true, true, false, false, false] (K17 _ (by first | rfl | simp only [if_pos hc25]))
set_option maxRecDepth 4000 in
theorem u_R_term_ok (Γ : AG) (d : Nat) (rc : Nat → AH → Option (Int32 × AH)) (hrc0 : ∀ (h : AH) (x : Int32 × AH), rc 0  h = some x → MetA Γ (m_R_sum d) [vr 12 0 80] h (some (vi x.1)) x.2) (hrc1 : ∀ (h : AH) (x : Int32 × AH), rc 1  h = some x → MetA Γ (m_R_term d) [vr 12 0 80] h (some (vi x.1)) x.2) (hrc2 : ∀ (h : AH) (x : Int32 × AH), rc 2  h = some x → MetA Γ (m_R_atom d) [vr 12 0 80] h (some (vi x.1)) x.2) (h : AH) (x : Int32 × AH) (hx : u_R_term rc  h = some x) : MetA Γ (m_R_term (d + 1)) [vr 12 0 80] h (some (vi x.1)) x.2 := by
  refine Ev.met rfl rfl (Nat.le_of_ble_eq_true rfl) ?_
  show Ev Γ (m_R_term (d + 1)) 0 [some (vr 12 0 80), none, none, none, none] [] h _ _
  obtain ⟨r, hr⟩ : ∃ r : Option AV, r = some (vi x.1) := ⟨_, rfl⟩
  obtain ⟨h', hh⟩ : ∃ h' : AH, h' = x.2 := ⟨_, rfl⟩
  have hP : r = some (vi x.1) ∧ h' = x.2 := ⟨hr, hh⟩
  suffices hS : Ev Γ (m_R_term (d + 1)) 0 [some (vr 12 0 80), none, none, none, none] [] h r h' by rw [hr, hh] at hS; exact hS
  clear hr hh
  unfold u_R_term at hx
  refine Ev.blk (pc' := 1) (lv' := [some (vr 12 0 80), none, none, none, none]) (st' := [vr 12 0 80]) (h' := h) 0 1 (Nat.le_of_ble_eq_true rfl) tk_R_term rfl rfl ⟨trivial, trivial⟩ ?_
  obtain ⟨q1, hq1, hx⟩ := bd hx
  refine Ev.callV (ν := (m_R_atom d)) (av := []) (rest := []) (r1 := some (vi q1.1)) (h1 := q1.2) (ci := 12) (nn := 0) (o := 80) 1 0 tk_R_term rfl (bb_R_atom _) (vv_R_atom _) lk_12_177 (Nat.le_refl _) rfl rfl (Or.inl rfl) (Nat.le_of_ble_eq_true rfl) (hrc2 h _ hq1) ?_
  show Ev Γ (m_R_term (d + 1)) 4 [some (vr 12 0 80), none, none, none, none] [vi q1.1] q1.2 r h'
  refine Ev.blk (pc' := 5) (lv' := [some (vr 12 0 80), some (vi q1.1), none, none, none]) (st' := []) (h' := q1.2) 2 1 (Nat.le_of_ble_eq_true rfl) tk_R_term rfl rfl ⟨trivial, trivial⟩ ?_
  refine Ev.msk [true, true, false, false, false] ?_
  show Ev Γ (m_R_term (d + 1)) 5 [some (vr 12 0 80), some (vi q1.1), none, none, none] [] q1.2 r h'
  exact l_R_term_L5 Γ d rc hrc0 hrc1 hrc2 FU q1.1 q1.2 _ hx r h' hP
set_option maxRecDepth 4000 in
theorem l_R_sum_L5 (Γ : AG) (d : Nat) (rc : Nat → AH → Option (Int32 × AH)) (hrc0 : ∀ (h : AH) (x : Int32 × AH), rc 0  h = some x → MetA Γ (m_R_sum d) [vr 12 0 80] h (some (vi x.1)) x.2) (hrc1 : ∀ (h : AH) (x : Int32 × AH), rc 1  h = some x → MetA Γ (m_R_term d) [vr 12 0 80] h (some (vi x.1)) x.2) (hrc2 : ∀ (h : AH) (x : Int32 × AH), rc 2  h = some x → MetA Γ (m_R_atom d) [vr 12 0 80] h (some (vi x.1)) x.2) : ∀ (n : Nat) (v1 : Int32) (h : AH) (x : Int32 × AH), R_sum_L5 rc n v1 h = some x → ∀ (r : Option AV) (h' : AH), r = some (vi x.1) ∧ h' = x.2 → Ev Γ (m_R_sum (d + 1)) 5 [some (vr 12 0 80), some (vi v1), none, none, none] [] h r h' := by
  intro n
  induction n with
  | zero => intro v1 h x hx; cases hx
  | succ n ih =>
    intro v1 h x hx r h' hP
    replace hx : R_sum_L5_b rc (R_sum_L5 rc n) v1 h = some x := hx
    unfold R_sum_L5_b at hx
    refine Ev.blk (pc' := 10) (lv' := [some (vr 12 0 80), some (vi v1), none, none, none]) (st' := [vi (ii (-1)), vi (h.1 80 11)]) (h' := h) 3 3 (Nat.le_of_ble_eq_true rfl) tk_R_sum rfl rfl ⟨trivial, trivial, trivial, trivial⟩ ?_
    refine Ev.icmp_ne 6 84 tk_R_sum rfl (by decide) (fun hc1 => ?_) (fun hc1 => ?_)
    · replace hx := ia hc1 hx
      refine Ev.blk (pc' := 85) (lv' := [some (vr 12 0 80), some (vi v1), none, none, none]) (st' := [vi v1]) (h' := h) 47 1 (Nat.le_of_ble_eq_true rfl) tk_R_sum rfl rfl ⟨trivial, trivial⟩ ?_
      obtain rfl := Option.some.inj hx
      obtain ⟨rfl, rfl⟩ := hP
      exact Ev.iret 48 tk_R_sum rfl rfl
    · replace hx := ip hc1 hx
      refine Ev.blk (pc' := 14) (lv' := [some (vr 12 0 80), some (vi v1), none, none, none]) (st' := [vr 12 0 80]) (h' := h) 7 1 (Nat.le_of_ble_eq_true rfl) tk_R_sum rfl rfl ⟨trivial, trivial⟩ ?_
      obtain ⟨q1, hq2, hx⟩ := bd hx
      refine Ev.callV (ν := m_R_look) (av := []) (rest := []) (r1 := some (vi q1.1)) (h1 := q1.2) (ci := 12) (nn := 0) (o := 80) 8 0 tk_R_sum rfl bb_R_look vv_R_look lk_12_144 (by show _ ≤ 6 + (d + 1); simp only [mv, m_R_look]; omega) rfl rfl (Or.inl rfl) (Nat.le_of_ble_eq_true rfl) (s_R_look Γ h _ hq2) ?_
      show Ev Γ (m_R_sum (d + 1)) 17 [some (vr 12 0 80), some (vi v1), none, none, none] [vi q1.1] q1.2 r h'
      refine Ev.blk (pc' := 19) (lv' := [some (vr 12 0 80), some (vi v1), none, none, none]) (st' := [vi (ii 43), vi q1.1]) (h' := q1.2) 9 1 (Nat.le_of_ble_eq_true rfl) tk_R_sum rfl rfl ⟨trivial, trivial⟩ ?_
      refine Ev.icmp_eq 10 31 tk_R_sum rfl (by decide) (fun hc3 => ?_) (fun hc3 => ?_)
      · replace hx := ip hc3 hx
        refine Ev.blk (pc' := 32) (lv' := [some (vr 12 0 80), some (vi v1), none, none, none]) (st' := [vr 12 0 80]) (h' := q1.2) 15 1 (Nat.le_of_ble_eq_true rfl) tk_R_sum rfl rfl ⟨trivial, trivial⟩ ?_
        obtain ⟨q2, hq4, hx⟩ := bd hx
        refine Ev.callV (ν := m_R_look) (av := []) (rest := []) (r1 := some (vi q2.1)) (h1 := q2.2) (ci := 12) (nn := 0) (o := 80) 16 0 tk_R_sum rfl bb_R_look vv_R_look lk_12_144 (by show _ ≤ 6 + (d + 1); simp only [mv, m_R_look]; omega) rfl rfl (Or.inl rfl) (Nat.le_of_ble_eq_true rfl) (s_R_look Γ q1.2 _ hq4) ?_
        show Ev Γ (m_R_sum (d + 1)) 35 [some (vr 12 0 80), some (vi v1), none, none, none] [vi q2.1] q2.2 r h'
        refine Ev.blk (pc' := 37) (lv' := [some (vr 12 0 80), some (vi v1), none, none, none]) (st' := [vi (ii 43), vi q2.1]) (h' := q2.2) 17 1 (Nat.le_of_ble_eq_true rfl) tk_R_sum rfl rfl ⟨trivial, trivial⟩ ?_
        have K5 : ∀ v5_0 : Int32, v5_0 = (if q2.1 = (ii 43) then (ii 1) else (ii 0)) → Ev Γ (m_R_sum (d + 1)) 45 [some (vr 12 0 80), some (vi v1), none, none, none] [vi v5_0] q2.2 r h' := by
          intro v5_0 e6
          subst e6
          refine Ev.blk (pc' := 57) (lv' := [some (vr 12 0 80), some (vi v1), some (vi (if q2.1 = (ii 43) then (ii 1) else (ii 0))), none, none]) (st' := [vr 12 0 80]) (h' := (wI q2.2 80 10 ((q2.2.1 80 10) + (ii 1)))) 22 8 (Nat.le_of_ble_eq_true rfl) tk_R_sum rfl rfl ⟨trivial, trivial, trivial, trivial, trivial, trivial, trivial, trivial, trivial⟩ ?_
          obtain ⟨q3, hq7, hx⟩ := bd hx
          refine Ev.callV (ν := (m_R_term d)) (av := []) (rest := []) (r1 := some (vi q3.1)) (h1 := q3.2) (ci := 12) (nn := 0) (o := 80) 30 0 tk_R_sum rfl (bb_R_term _) (vv_R_term _) lk_12_184 (Nat.le_refl _) rfl rfl (Or.inl rfl) (Nat.le_of_ble_eq_true rfl) (hrc1 (wI q2.2 80 10 ((q2.2.1 80 10) + (ii 1))) _ hq7) ?_
          show Ev Γ (m_R_sum (d + 1)) 60 [some (vr 12 0 80), some (vi v1), some (vi (if q2.1 = (ii 43) then (ii 1) else (ii 0))), none, none] [vi q3.1] q3.2 r h'
          refine Ev.blk (pc' := 63) (lv' := [some (vr 12 0 80), some (vi v1), some (vi (if q2.1 = (ii 43) then (ii 1) else (ii 0))), some (vl q3.1.toInt64), none]) (st' := [vi (if q2.1 = (ii 43) then (ii 1) else (ii 0))]) (h' := q3.2) 31 3 (Nat.le_of_ble_eq_true rfl) tk_R_sum rfl rfl ⟨trivial, trivial, trivial, trivial⟩ ?_
          have K8 : ∀ v8_0 : Int64, v8_0 = (if (if q2.1 = (ii 43) then (ii 1) else (ii 0)) = 0 then (v1.toInt64 - q3.1.toInt64) else (v1.toInt64 + q3.1.toInt64)) → Ev Γ (m_R_sum (d + 1)) 77 [some (vr 12 0 80), none, none, none, none] [vl v8_0] q3.2 r h' := by
            intro v8_0 e9
            subst e9
            refine Ev.callS (ν := m_R_within) (av := [vl (if (if q2.1 = (ii 43) then (ii 1) else (ii 0)) = 0 then (v1.toInt64 - q3.1.toInt64) else (v1.toInt64 + q3.1.toInt64))]) (rest := []) (r1 := some (vi (p_R_within (if (if q2.1 = (ii 43) then (ii 1) else (ii 0)) = 0 then (v1.toInt64 - q3.1.toInt64) else (v1.toInt64 + q3.1.toInt64))))) (h1 := q3.2) 44 1 tk_R_sum rfl bb_R_within vv_R_within lk_12_180 (by show _ ≤ 6 + (d + 1); simp only [mv, m_R_within]; omega) rfl rfl (Nat.le_of_ble_eq_true rfl) (s_R_within Γ (if (if q2.1 = (ii 43) then (ii 1) else (ii 0)) = 0 then (v1.toInt64 - q3.1.toInt64) else (v1.toInt64 + q3.1.toInt64)) q3.2) ?_
            show Ev Γ (m_R_sum (d + 1)) 80 [some (vr 12 0 80), none, none, none, none] [vi (p_R_within (if (if q2.1 = (ii 43) then (ii 1) else (ii 0)) = 0 then (v1.toInt64 - q3.1.toInt64) else (v1.toInt64 + q3.1.toInt64)))] q3.2 r h'
            refine Ev.blk (pc' := 5) (lv' := [some (vr 12 0 80), some (vi (p_R_within (if (if q2.1 = (ii 43) then (ii 1) else (ii 0)) = 0 then (v1.toInt64 - q3.1.toInt64) else (v1.toInt64 + q3.1.toInt64)))), none, none, none]) (st' := []) (h' := q3.2) 45 2 (Nat.le_of_ble_eq_true rfl) tk_R_sum rfl rfl ⟨trivial, trivial, trivial⟩ ?_
            exact Ev.msk [true, true, false, false, false] (ih (p_R_within (if (if q2.1 = (ii 43) then (ii 1) else (ii 0)) = 0 then (v1.toInt64 - q3.1.toInt64) else (v1.toInt64 + q3.1.toInt64))) q3.2 _ hx r h' hP)
          refine Ev.if_eq 34 73 tk_R_sum rfl (by decide) (fun hc10 => ?_) (fun hc10 => ?_)
          · refine Ev.blk (pc' := 77) (lv' := [some (vr 12 0 80), some (vi v1), some (vi (if q2.1 = (ii 43) then (ii 1) else (ii 0))), some (vl q3.1.toInt64), none]) (st' := [vl (v1.toInt64 - q3.1.toInt64)]) (h' := q3.2) 40 4 (Nat.le_of_ble_eq_true rfl) tk_R_sum rfl rfl ⟨trivial, trivial, trivial, trivial, trivial⟩ ?_
            exact Ev.msk [true, false, false, false, false] (K8 _ (by first | rfl | simp only [if_pos hc10]))
          · refine Ev.blk (pc' := 77) (lv' := [some (vr 12 0 80), some (vi v1), some (vi (if q2.1 = (ii 43) then (ii 1) else (ii 0))), some (vl q3.1.toInt64), none]) (st' := [vl (v1.toInt64 + q3.1.toInt64)]) (h' := q3.2) 35 5 (Nat.le_of_ble_eq_true rfl) tk_R_sum rfl rfl ⟨trivial, trivial, trivial, trivial, trivial, trivial⟩ ?_
            exact Ev.msk [true, false, false, false, false] (K8 _ (by first | rfl | simp only [if_neg hc10]))
        refine Ev.icmp_ne 18 44 tk_R_sum rfl (by decide) (fun hc11 => ?_) (fun hc11 => ?_)
        · refine Ev.blk (pc' := 45) (lv' := [some (vr 12 0 80), some (vi v1), none, none, none]) (st' := [vi (ii 0)]) (h' := q2.2) 21 1 (Nat.le_of_ble_eq_true rfl) tk_R_sum rfl rfl ⟨trivial, trivial⟩ ?_
          exact Ev.msk [true, true, false, false, false] (K5 _ (by first | rfl | simp only [if_neg hc11]))
        · refine Ev.blk (pc' := 45) (lv' := [some (vr 12 0 80), some (vi v1), none, none, none]) (st' := [vi (ii 1)]) (h' := q2.2) 19 2 (Nat.le_of_ble_eq_true rfl) tk_R_sum rfl rfl ⟨trivial, trivial, trivial⟩ ?_
          exact Ev.msk [true, true, false, false, false] (K5 _ (by first | rfl | simp only [if_pos hc11]))
      · replace hx := ia hc3 hx
        refine Ev.blk (pc' := 23) (lv' := [some (vr 12 0 80), some (vi v1), none, none, none]) (st' := [vr 12 0 80]) (h' := q1.2) 11 1 (Nat.le_of_ble_eq_true rfl) tk_R_sum rfl rfl ⟨trivial, trivial⟩ ?_
        obtain ⟨q4, hq12, hx⟩ := bd hx
        refine Ev.callV (ν := m_R_look) (av := []) (rest := []) (r1 := some (vi q4.1)) (h1 := q4.2) (ci := 12) (nn := 0) (o := 80) 12 0 tk_R_sum rfl bb_R_look vv_R_look lk_12_144 (by show _ ≤ 6 + (d + 1); simp only [mv, m_R_look]; omega) rfl rfl (Or.inl rfl) (Nat.le_of_ble_eq_true rfl) (s_R_look Γ q1.2 _ hq12) ?_
        show Ev Γ (m_R_sum (d + 1)) 26 [some (vr 12 0 80), some (vi v1), none, none, none] [vi q4.1] q4.2 r h'
        refine Ev.blk (pc' := 28) (lv' := [some (vr 12 0 80), some (vi v1), none, none, none]) (st' := [vi (ii 45), vi q4.1]) (h' := q4.2) 13 1 (Nat.le_of_ble_eq_true rfl) tk_R_sum rfl rfl ⟨trivial, trivial⟩ ?_
        refine Ev.icmp_ne 14 84 tk_R_sum rfl (by decide) (fun hc13 => ?_) (fun hc13 => ?_)
        · replace hx := ia hc13 hx
          refine Ev.blk (pc' := 85) (lv' := [some (vr 12 0 80), some (vi v1), none, none, none]) (st' := [vi v1]) (h' := q4.2) 47 1 (Nat.le_of_ble_eq_true rfl) tk_R_sum rfl rfl ⟨trivial, trivial⟩ ?_
          obtain rfl := Option.some.inj hx
          obtain ⟨rfl, rfl⟩ := hP
          exact Ev.iret 48 tk_R_sum rfl rfl
        · replace hx := ip hc13 hx
          refine Ev.blk (pc' := 32) (lv' := [some (vr 12 0 80), some (vi v1), none, none, none]) (st' := [vr 12 0 80]) (h' := q4.2) 15 1 (Nat.le_of_ble_eq_true rfl) tk_R_sum rfl rfl ⟨trivial, trivial⟩ ?_
          obtain ⟨q5, hq14, hx⟩ := bd hx
          refine Ev.callV (ν := m_R_look) (av := []) (rest := []) (r1 := some (vi q5.1)) (h1 := q5.2) (ci := 12) (nn := 0) (o := 80) 16 0 tk_R_sum rfl bb_R_look vv_R_look lk_12_144 (by show _ ≤ 6 + (d + 1); simp only [mv, m_R_look]; omega) rfl rfl (Or.inl rfl) (Nat.le_of_ble_eq_true rfl) (s_R_look Γ q4.2 _ hq14) ?_
          show Ev Γ (m_R_sum (d + 1)) 35 [some (vr 12 0 80), some (vi v1), none, none, none] [vi q5.1] q5.2 r h'
          refine Ev.blk (pc' := 37) (lv' := [some (vr 12 0 80), some (vi v1), none, none, none]) (st' := [vi (ii 43), vi q5.1]) (h' := q5.2) 17 1 (Nat.le_of_ble_eq_true rfl) tk_R_sum rfl rfl ⟨trivial, trivial⟩ ?_
          have K15 : ∀ v15_0 : Int32, v15_0 = (if q5.1 = (ii 43) then (ii 1) else (ii 0)) → Ev Γ (m_R_sum (d + 1)) 45 [some (vr 12 0 80), some (vi v1), none, none, none] [vi v15_0] q5.2 r h' := by
            intro v15_0 e16
            subst e16
            refine Ev.blk (pc' := 57) (lv' := [some (vr 12 0 80), some (vi v1), some (vi (if q5.1 = (ii 43) then (ii 1) else (ii 0))), none, none]) (st' := [vr 12 0 80]) (h' := (wI q5.2 80 10 ((q5.2.1 80 10) + (ii 1)))) 22 8 (Nat.le_of_ble_eq_true rfl) tk_R_sum rfl rfl ⟨trivial, trivial, trivial, trivial, trivial, trivial, trivial, trivial, trivial⟩ ?_
            obtain ⟨q6, hq17, hx⟩ := bd hx
            refine Ev.callV (ν := (m_R_term d)) (av := []) (rest := []) (r1 := some (vi q6.1)) (h1 := q6.2) (ci := 12) (nn := 0) (o := 80) 30 0 tk_R_sum rfl (bb_R_term _) (vv_R_term _) lk_12_184 (Nat.le_refl _) rfl rfl (Or.inl rfl) (Nat.le_of_ble_eq_true rfl) (hrc1 (wI q5.2 80 10 ((q5.2.1 80 10) + (ii 1))) _ hq17) ?_
            show Ev Γ (m_R_sum (d + 1)) 60 [some (vr 12 0 80), some (vi v1), some (vi (if q5.1 = (ii 43) then (ii 1) else (ii 0))), none, none] [vi q6.1] q6.2 r h'
            refine Ev.blk (pc' := 63) (lv' := [some (vr 12 0 80), some (vi v1), some (vi (if q5.1 = (ii 43) then (ii 1) else (ii 0))), some (vl q6.1.toInt64), none]) (st' := [vi (if q5.1 = (ii 43) then (ii 1) else (ii 0))]) (h' := q6.2) 31 3 (Nat.le_of_ble_eq_true rfl) tk_R_sum rfl rfl ⟨trivial, trivial, trivial, trivial⟩ ?_
            have K18 : ∀ v18_0 : Int64, v18_0 = (if (if q5.1 = (ii 43) then (ii 1) else (ii 0)) = 0 then (v1.toInt64 - q6.1.toInt64) else (v1.toInt64 + q6.1.toInt64)) → Ev Γ (m_R_sum (d + 1)) 77 [some (vr 12 0 80), none, none, none, none] [vl v18_0] q6.2 r h' := by
              intro v18_0 e19
              subst e19
              refine Ev.callS (ν := m_R_within) (av := [vl (if (if q5.1 = (ii 43) then (ii 1) else (ii 0)) = 0 then (v1.toInt64 - q6.1.toInt64) else (v1.toInt64 + q6.1.toInt64))]) (rest := []) (r1 := some (vi (p_R_within (if (if q5.1 = (ii 43) then (ii 1) else (ii 0)) = 0 then (v1.toInt64 - q6.1.toInt64) else (v1.toInt64 + q6.1.toInt64))))) (h1 := q6.2) 44 1 tk_R_sum rfl bb_R_within vv_R_within lk_12_180 (by show _ ≤ 6 + (d + 1); simp only [mv, m_R_within]; omega) rfl rfl (Nat.le_of_ble_eq_true rfl) (s_R_within Γ (if (if q5.1 = (ii 43) then (ii 1) else (ii 0)) = 0 then (v1.toInt64 - q6.1.toInt64) else (v1.toInt64 + q6.1.toInt64)) q6.2) ?_
              show Ev Γ (m_R_sum (d + 1)) 80 [some (vr 12 0 80), none, none, none, none] [vi (p_R_within (if (if q5.1 = (ii 43) then (ii 1) else (ii 0)) = 0 then (v1.toInt64 - q6.1.toInt64) else (v1.toInt64 + q6.1.toInt64)))] q6.2 r h'
              refine Ev.blk (pc' := 5) (lv' := [some (vr 12 0 80), some (vi (p_R_within (if (if q5.1 = (ii 43) then (ii 1) else (ii 0)) = 0 then (v1.toInt64 - q6.1.toInt64) else (v1.toInt64 + q6.1.toInt64)))), none, none, none]) (st' := []) (h' := q6.2) 45 2 (Nat.le_of_ble_eq_true rfl) tk_R_sum rfl rfl ⟨trivial, trivial, trivial⟩ ?_
              exact Ev.msk [true, true, false, false, false] (ih (p_R_within (if (if q5.1 = (ii 43) then (ii 1) else (ii 0)) = 0 then (v1.toInt64 - q6.1.toInt64) else (v1.toInt64 + q6.1.toInt64))) q6.2 _ hx r h' hP)
            refine Ev.if_eq 34 73 tk_R_sum rfl (by decide) (fun hc20 => ?_) (fun hc20 => ?_)
            · refine Ev.blk (pc' := 77) (lv' := [some (vr 12 0 80), some (vi v1), some (vi (if q5.1 = (ii 43) then (ii 1) else (ii 0))), some (vl q6.1.toInt64), none]) (st' := [vl (v1.toInt64 - q6.1.toInt64)]) (h' := q6.2) 40 4 (Nat.le_of_ble_eq_true rfl) tk_R_sum rfl rfl ⟨trivial, trivial, trivial, trivial, trivial⟩ ?_
              exact Ev.msk [true, false, false, false, false] (K18 _ (by first | rfl | simp only [if_pos hc20]))
            · refine Ev.blk (pc' := 77) (lv' := [some (vr 12 0 80), some (vi v1), some (vi (if q5.1 = (ii 43) then (ii 1) else (ii 0))), some (vl q6.1.toInt64), none]) (st' := [vl (v1.toInt64 + q6.1.toInt64)]) (h' := q6.2) 35 5 (Nat.le_of_ble_eq_true rfl) tk_R_sum rfl rfl ⟨trivial, trivial, trivial, trivial, trivial, trivial⟩ ?_
              exact Ev.msk [true, false, false, false, false] (K18 _ (by first | rfl | simp only [if_neg hc20]))
          refine Ev.icmp_ne 18 44 tk_R_sum rfl (by decide) (fun hc21 => ?_) (fun hc21 => ?_)
          · refine Ev.blk (pc' := 45) (lv' := [some (vr 12 0 80), some (vi v1), none, none, none]) (st' := [vi (ii 0)]) (h' := q5.2) 21 1 (Nat.le_of_ble_eq_true rfl) tk_R_sum rfl rfl ⟨trivial, trivial⟩ ?_
            exact Ev.msk [true, true, false, false, false] (K15 _ (by first | rfl | simp only [if_neg hc21]))
          · refine Ev.blk (pc' := 45) (lv' := [some (vr 12 0 80), some (vi v1), none, none, none]) (st' := [vi (ii 1)]) (h' := q5.2) 19 2 (Nat.le_of_ble_eq_true rfl) tk_R_sum rfl rfl ⟨trivial, trivial, trivial⟩ ?_
            exact Ev.msk [true, true, false, false, false] (K15 _ (by first | rfl | simp only [if_pos hc21]))
set_option maxRecDepth 4000 in
theorem u_R_sum_ok (Γ : AG) (d : Nat) (rc : Nat → AH → Option (Int32 × AH)) (hrc0 : ∀ (h : AH) (x : Int32 × AH), rc 0  h = some x → MetA Γ (m_R_sum d) [vr 12 0 80] h (some (vi x.1)) x.2) (hrc1 : ∀ (h : AH) (x : Int32 × AH), rc 1  h = some x → MetA Γ (m_R_term d) [vr 12 0 80] h (some (vi x.1)) x.2) (hrc2 : ∀ (h : AH) (x : Int32 × AH), rc 2  h = some x → MetA Γ (m_R_atom d) [vr 12 0 80] h (some (vi x.1)) x.2) (h : AH) (x : Int32 × AH) (hx : u_R_sum rc  h = some x) : MetA Γ (m_R_sum (d + 1)) [vr 12 0 80] h (some (vi x.1)) x.2 := by
  refine Ev.met rfl rfl (Nat.le_of_ble_eq_true rfl) ?_
  show Ev Γ (m_R_sum (d + 1)) 0 [some (vr 12 0 80), none, none, none, none] [] h _ _
  obtain ⟨r, hr⟩ : ∃ r : Option AV, r = some (vi x.1) := ⟨_, rfl⟩
  obtain ⟨h', hh⟩ : ∃ h' : AH, h' = x.2 := ⟨_, rfl⟩
  have hP : r = some (vi x.1) ∧ h' = x.2 := ⟨hr, hh⟩
  suffices hS : Ev Γ (m_R_sum (d + 1)) 0 [some (vr 12 0 80), none, none, none, none] [] h r h' by rw [hr, hh] at hS; exact hS
  clear hr hh
  unfold u_R_sum at hx
  refine Ev.blk (pc' := 1) (lv' := [some (vr 12 0 80), none, none, none, none]) (st' := [vr 12 0 80]) (h' := h) 0 1 (Nat.le_of_ble_eq_true rfl) tk_R_sum rfl rfl ⟨trivial, trivial⟩ ?_
  obtain ⟨q1, hq1, hx⟩ := bd hx
  refine Ev.callV (ν := (m_R_term d)) (av := []) (rest := []) (r1 := some (vi q1.1)) (h1 := q1.2) (ci := 12) (nn := 0) (o := 80) 1 0 tk_R_sum rfl (bb_R_term _) (vv_R_term _) lk_12_184 (Nat.le_refl _) rfl rfl (Or.inl rfl) (Nat.le_of_ble_eq_true rfl) (hrc1 h _ hq1) ?_
  show Ev Γ (m_R_sum (d + 1)) 4 [some (vr 12 0 80), none, none, none, none] [vi q1.1] q1.2 r h'
  refine Ev.blk (pc' := 5) (lv' := [some (vr 12 0 80), some (vi q1.1), none, none, none]) (st' := []) (h' := q1.2) 2 1 (Nat.le_of_ble_eq_true rfl) tk_R_sum rfl rfl ⟨trivial, trivial⟩ ?_
  refine Ev.msk [true, true, false, false, false] ?_
  show Ev Γ (m_R_sum (d + 1)) 5 [some (vr 12 0 80), some (vi q1.1), none, none, none] [] q1.2 r h'
  exact l_R_sum_L5 Γ d rc hrc0 hrc1 hrc2 FU q1.1 q1.2 _ hx r h' hP
theorem gg2 (Γ : AG) : ∀ d : Nat, (∀ (h : AH) (x : Int32 × AH), g2 d 0  h = some x → MetA Γ (m_R_sum d) [vr 12 0 80] h (some (vi x.1)) x.2) ∧ (∀ (h : AH) (x : Int32 × AH), g2 d 1  h = some x → MetA Γ (m_R_term d) [vr 12 0 80] h (some (vi x.1)) x.2) ∧ (∀ (h : AH) (x : Int32 × AH), g2 d 2  h = some x → MetA Γ (m_R_atom d) [vr 12 0 80] h (some (vi x.1)) x.2) := by
  intro d
  induction d with
  | zero => exact ⟨fun  h x hx => (by cases hx), fun  h x hx => (by cases hx), fun  h x hx => (by cases hx)⟩
  | succ d ih =>
    obtain ⟨i0, i1, i2⟩ := ih
    exact ⟨fun  h x hx => u_R_sum_ok Γ d (g2 d) i0 i1 i2  h x hx, fun  h x hx => u_R_term_ok Γ d (g2 d) i0 i1 i2  h x hx, fun  h x hx => u_R_atom_ok Γ d (g2 d) i0 i1 i2  h x hx⟩
theorem t_R_sum (Γ : AG) (d : Nat) (h : AH) (x : Int32 × AH) (hx : g2 d 0  h = some x) : MetA Γ (m_R_sum d) [vr 12 0 80] h (some (vi x.1)) x.2 := (gg2 Γ d).1  h x hx
theorem t_R_term (Γ : AG) (d : Nat) (h : AH) (x : Int32 × AH) (hx : g2 d 1  h = some x) : MetA Γ (m_R_term d) [vr 12 0 80] h (some (vi x.1)) x.2 := (gg2 Γ d).2.1  h x hx
theorem t_R_atom (Γ : AG) (d : Nat) (h : AH) (x : Int32 × AH) (hx : g2 d 2  h = some x) : MetA Γ (m_R_atom d) [vr 12 0 80] h (some (vi x.1)) x.2 := (gg2 Γ d).2.2  h x hx
theorem s_R_isSign (Γ : AG) (a0 : Int32) (h : AH) : MetA Γ m_R_isSign [vi a0] h (some (vi (p_R_isSign a0))) h := by
  refine Ev.met rfl rfl (Nat.le_of_ble_eq_true rfl) ?_
  generalize hx : p_R_isSign a0 = x
  show Ev Γ m_R_isSign 0 [some (vi a0)] [] h _ _
  obtain ⟨r, hr⟩ : ∃ r : Option AV, r = some (vi x) := ⟨_, rfl⟩
  obtain ⟨h', hh⟩ : ∃ h' : AH, h' = h := ⟨_, rfl⟩
  have hP : r = some (vi x) ∧ h' = h := ⟨hr, hh⟩
  suffices hS : Ev Γ m_R_isSign 0 [some (vi a0)] [] h r h' by rw [hr, hh] at hS; exact hS
  clear hr hh
  unfold p_R_isSign at hx
  refine Ev.blk (pc' := 3) (lv' := [some (vi a0)]) (st' := [vi (ii 61), vi a0]) (h' := h) 0 2 (Nat.le_of_ble_eq_true rfl) tk_R_isSign rfl rfl ⟨trivial, trivial, trivial⟩ ?_
  refine Ev.icmp_eq 2 18 tk_R_isSign rfl (by decide) (fun hc1 => ?_) (fun hc1 => ?_)
  · replace hx := ip hc1 hx
    refine Ev.blk (pc' := 23) (lv' := [some (vi a0)]) (st' := [vi (ii 1)]) (h' := h) 9 2 (Nat.le_of_ble_eq_true rfl) tk_R_isSign rfl rfl ⟨trivial, trivial, trivial⟩ ?_
    subst hx
    obtain ⟨rfl, rfl⟩ := hP
    exact Ev.zret 12 tk_R_isSign rfl rfl rfl
  · replace hx := ia hc1 hx
    refine Ev.blk (pc' := 9) (lv' := [some (vi a0)]) (st' := [vi (ii 60), vi a0]) (h' := h) 3 2 (Nat.le_of_ble_eq_true rfl) tk_R_isSign rfl rfl ⟨trivial, trivial, trivial⟩ ?_
    refine Ev.icmp_eq 5 18 tk_R_isSign rfl (by decide) (fun hc2 => ?_) (fun hc2 => ?_)
    · replace hx := ip hc2 hx
      refine Ev.blk (pc' := 23) (lv' := [some (vi a0)]) (st' := [vi (ii 1)]) (h' := h) 9 2 (Nat.le_of_ble_eq_true rfl) tk_R_isSign rfl rfl ⟨trivial, trivial, trivial⟩ ?_
      subst hx
      obtain ⟨rfl, rfl⟩ := hP
      exact Ev.zret 12 tk_R_isSign rfl rfl rfl
    · replace hx := ia hc2 hx
      refine Ev.blk (pc' := 15) (lv' := [some (vi a0)]) (st' := [vi (ii 62), vi a0]) (h' := h) 6 2 (Nat.le_of_ble_eq_true rfl) tk_R_isSign rfl rfl ⟨trivial, trivial, trivial⟩ ?_
      refine Ev.icmp_ne 8 22 tk_R_isSign rfl (by decide) (fun hc3 => ?_) (fun hc3 => ?_)
      · replace hx := ia hc3 hx
        refine Ev.blk (pc' := 23) (lv' := [some (vi a0)]) (st' := [vi (ii 0)]) (h' := h) 11 1 (Nat.le_of_ble_eq_true rfl) tk_R_isSign rfl rfl ⟨trivial, trivial⟩ ?_
        subst hx
        obtain ⟨rfl, rfl⟩ := hP
        exact Ev.zret 12 tk_R_isSign rfl rfl rfl
      · replace hx := ip hc3 hx
        refine Ev.blk (pc' := 23) (lv' := [some (vi a0)]) (st' := [vi (ii 1)]) (h' := h) 9 2 (Nat.le_of_ble_eq_true rfl) tk_R_isSign rfl rfl ⟨trivial, trivial, trivial⟩ ?_
        subst hx
        obtain ⟨rfl, rfl⟩ := hP
        exact Ev.zret 12 tk_R_isSign rfl rfl rfl
set_option maxRecDepth 4000 in
theorem s_R_compares (Γ : AG) (a1 : Int32) (a2 : Int32) (h : AH) (x : Int32 × AH) (hx : f_R_compares a1 a2 h = some x) : MetA Γ m_R_compares [vr 12 0 80, vi a1, vi a2] h (some (vi x.1)) x.2 := by
  refine Ev.met rfl rfl (Nat.le_of_ble_eq_true rfl) ?_
  show Ev Γ m_R_compares 0 [some (vr 12 0 80), some (vi a1), some (vi a2), none, none, none] [] h _ _
  obtain ⟨r, hr⟩ : ∃ r : Option AV, r = some (vi x.1) := ⟨_, rfl⟩
  obtain ⟨h', hh⟩ : ∃ h' : AH, h' = x.2 := ⟨_, rfl⟩
  have hP : r = some (vi x.1) ∧ h' = x.2 := ⟨hr, hh⟩
  suffices hS : Ev Γ m_R_compares 0 [some (vr 12 0 80), some (vi a1), some (vi a2), none, none, none] [] h r h' by rw [hr, hh] at hS; exact hS
  clear hr hh
  unfold f_R_compares at hx
  refine Ev.blk (pc' := 1) (lv' := [some (vr 12 0 80), some (vi a1), some (vi a2), none, none, none]) (st' := [vi a1]) (h' := h) 0 1 (Nat.le_of_ble_eq_true rfl) tk_R_compares rfl rfl ⟨trivial, trivial⟩ ?_
  obtain ⟨q2, hq1, hx⟩ := bd hx
  have K2 : Ev Γ m_R_compares 12 [some (vr 12 0 80), none, none, none, none, none] [vi q2.1] q2.2 r h' := by
    refine Ev.blk (pc' := 18) (lv' := [some (vr 12 0 80), none, none, some (vi q2.1), none, none]) (st' := [vi (ii (-1)), vi (q2.2.1 80 11)]) (h' := q2.2) 6 4 (Nat.le_of_ble_eq_true rfl) tk_R_compares rfl rfl ⟨trivial, trivial, trivial, trivial, trivial⟩ ?_
    refine Ev.icmp_eq 10 23 tk_R_compares rfl (by decide) (fun hc3 => ?_) (fun hc3 => ?_)
    · replace hx := ip hc3 hx
      refine Ev.blk (pc' := 24) (lv' := [some (vr 12 0 80), none, none, some (vi q2.1), none, none]) (st' := [vr 12 0 80]) (h' := q2.2) 13 1 (Nat.le_of_ble_eq_true rfl) tk_R_compares rfl rfl ⟨trivial, trivial⟩ ?_
      obtain ⟨q3, hq4, hx⟩ := bd hx
      refine Ev.callV (ν := m_R_look) (av := []) (rest := []) (r1 := some (vi q3.1)) (h1 := q3.2) (ci := 12) (nn := 0) (o := 80) 14 0 tk_R_compares rfl bb_R_look vv_R_look lk_12_144 (by decide) rfl rfl (Or.inl rfl) (Nat.le_of_ble_eq_true rfl) (s_R_look Γ q2.2 _ hq4) ?_
      show Ev Γ m_R_compares 27 [some (vr 12 0 80), none, none, some (vi q2.1), none, none] [vi q3.1] q3.2 r h'
      refine Ev.blk (pc' := 31) (lv' := [some (vr 12 0 80), none, none, some (vi q2.1), some (vi q3.1), none]) (st' := [vi q3.1]) (h' := q3.2) 15 2 (Nat.le_of_ble_eq_true rfl) tk_R_compares rfl rfl ⟨trivial, trivial, trivial⟩ ?_
      refine Ev.callS (ν := m_R_isSign) (av := [vi q3.1]) (rest := []) (r1 := some (vi (p_R_isSign q3.1))) (h1 := q3.2) 17 1 tk_R_compares rfl bb_R_isSign vv_R_isSign lk_12_187 (by decide) rfl rfl (Nat.le_of_ble_eq_true rfl) (s_R_isSign Γ q3.1 q3.2) ?_
      show Ev Γ m_R_compares 34 [some (vr 12 0 80), none, none, some (vi q2.1), some (vi q3.1), none] [vi (p_R_isSign q3.1)] q3.2 r h'
      refine Ev.if_ne 18 42 tk_R_compares rfl (by decide) (fun hc5 => ?_) (fun hc5 => ?_)
      · replace hx := ia hc5 hx
        refine Ev.blk (pc' := 53) (lv' := [some (vr 12 0 80), none, none, some (vi q2.1), some (vi q3.1), none]) (st' := [vr 12 0 80]) (h' := (wI q3.2 80 10 ((q3.2.1 80 10) + (ii 1)))) 22 7 (Nat.le_of_ble_eq_true rfl) tk_R_compares rfl rfl ⟨trivial, trivial, trivial, trivial, trivial, trivial, trivial, trivial⟩ ?_
        obtain ⟨q4, hq6, hx⟩ := bd hx
        refine Ev.callV (ν := (m_R_sum 40)) (av := []) (rest := []) (r1 := some (vi q4.1)) (h1 := q4.2) (ci := 12) (nn := 0) (o := 80) 29 0 tk_R_compares rfl (bb_R_sum _) (vv_R_sum _) lk_12_167 (by decide) rfl rfl (Or.inl rfl) (Nat.le_of_ble_eq_true rfl) (t_R_sum Γ 40 (wI q3.2 80 10 ((q3.2.1 80 10) + (ii 1))) _ hq6) ?_
        show Ev Γ m_R_compares 56 [some (vr 12 0 80), none, none, some (vi q2.1), some (vi q3.1), none] [vi q4.1] q4.2 r h'
        refine Ev.blk (pc' := 62) (lv' := [some (vr 12 0 80), none, none, some (vi q2.1), some (vi q3.1), some (vi q4.1)]) (st' := [vi (ii 61), vi q3.1]) (h' := q4.2) 30 3 (Nat.le_of_ble_eq_true rfl) tk_R_compares rfl rfl ⟨trivial, trivial, trivial, trivial⟩ ?_
        refine Ev.icmp_ne 33 79 tk_R_compares rfl (by decide) (fun hc7 => ?_) (fun hc7 => ?_)
        · replace hx := ia hc7 hx
          refine Ev.blk (pc' := 83) (lv' := [some (vr 12 0 80), none, none, some (vi q2.1), some (vi q3.1), some (vi q4.1)]) (st' := [vi (ii 60), vi q3.1]) (h' := q4.2) 41 2 (Nat.le_of_ble_eq_true rfl) tk_R_compares rfl rfl ⟨trivial, trivial, trivial⟩ ?_
          refine Ev.icmp_ne 43 100 tk_R_compares rfl (by decide) (fun hc8 => ?_) (fun hc8 => ?_)
          · replace hx := ia hc8 hx
            refine Ev.blk (pc' := 103) (lv' := [some (vr 12 0 80), none, none, some (vi q2.1), some (vi q3.1), some (vi q4.1)]) (st' := [vi q4.1, vi q2.1]) (h' := q4.2) 51 2 (Nat.le_of_ble_eq_true rfl) tk_R_compares rfl rfl ⟨trivial, trivial, trivial⟩ ?_
            refine Ev.icmp_le 53 110 tk_R_compares rfl (by decide) (fun hc9 => ?_) (fun hc9 => ?_)
            · replace hx := ip hc9 hx
              refine Ev.blk (pc' := 111) (lv' := [some (vr 12 0 80), none, none, some (vi q2.1), some (vi q3.1), some (vi q4.1)]) (st' := [vi (ii 0)]) (h' := q4.2) 56 1 (Nat.le_of_ble_eq_true rfl) tk_R_compares rfl rfl ⟨trivial, trivial⟩ ?_
              obtain rfl := Option.some.inj hx
              obtain ⟨rfl, rfl⟩ := hP
              exact Ev.zret 57 tk_R_compares rfl rfl rfl
            · replace hx := ia hc9 hx
              refine Ev.blk (pc' := 111) (lv' := [some (vr 12 0 80), none, none, some (vi q2.1), some (vi q3.1), some (vi q4.1)]) (st' := [vi (ii 1)]) (h' := q4.2) 54 2 (Nat.le_of_ble_eq_true rfl) tk_R_compares rfl rfl ⟨trivial, trivial, trivial⟩ ?_
              obtain rfl := Option.some.inj hx
              obtain ⟨rfl, rfl⟩ := hP
              exact Ev.zret 57 tk_R_compares rfl rfl rfl
          · replace hx := ip hc8 hx
            refine Ev.blk (pc' := 89) (lv' := [some (vr 12 0 80), none, none, some (vi q2.1), some (vi q3.1), some (vi q4.1)]) (st' := [vi q4.1, vi q2.1]) (h' := q4.2) 44 2 (Nat.le_of_ble_eq_true rfl) tk_R_compares rfl rfl ⟨trivial, trivial, trivial⟩ ?_
            refine Ev.icmp_ge 46 96 tk_R_compares rfl (by decide) (fun hc10 => ?_) (fun hc10 => ?_)
            · replace hx := ip hc10 hx
              refine Ev.blk (pc' := 111) (lv' := [some (vr 12 0 80), none, none, some (vi q2.1), some (vi q3.1), some (vi q4.1)]) (st' := [vi (ii 0)]) (h' := q4.2) 49 2 (Nat.le_of_ble_eq_true rfl) tk_R_compares rfl rfl ⟨trivial, trivial, trivial⟩ ?_
              obtain rfl := Option.some.inj hx
              obtain ⟨rfl, rfl⟩ := hP
              exact Ev.zret 57 tk_R_compares rfl rfl rfl
            · replace hx := ia hc10 hx
              refine Ev.blk (pc' := 111) (lv' := [some (vr 12 0 80), none, none, some (vi q2.1), some (vi q3.1), some (vi q4.1)]) (st' := [vi (ii 1)]) (h' := q4.2) 47 2 (Nat.le_of_ble_eq_true rfl) tk_R_compares rfl rfl ⟨trivial, trivial, trivial⟩ ?_
              obtain rfl := Option.some.inj hx
              obtain ⟨rfl, rfl⟩ := hP
              exact Ev.zret 57 tk_R_compares rfl rfl rfl
        · replace hx := ip hc7 hx
          refine Ev.blk (pc' := 68) (lv' := [some (vr 12 0 80), none, none, some (vi q2.1), some (vi q3.1), some (vi q4.1)]) (st' := [vi q4.1, vi q2.1]) (h' := q4.2) 34 2 (Nat.le_of_ble_eq_true rfl) tk_R_compares rfl rfl ⟨trivial, trivial, trivial⟩ ?_
          refine Ev.icmp_ne 36 75 tk_R_compares rfl (by decide) (fun hc11 => ?_) (fun hc11 => ?_)
          · replace hx := ia hc11 hx
            refine Ev.blk (pc' := 111) (lv' := [some (vr 12 0 80), none, none, some (vi q2.1), some (vi q3.1), some (vi q4.1)]) (st' := [vi (ii 0)]) (h' := q4.2) 39 2 (Nat.le_of_ble_eq_true rfl) tk_R_compares rfl rfl ⟨trivial, trivial, trivial⟩ ?_
            obtain rfl := Option.some.inj hx
            obtain ⟨rfl, rfl⟩ := hP
            exact Ev.zret 57 tk_R_compares rfl rfl rfl
          · replace hx := ip hc11 hx
            refine Ev.blk (pc' := 111) (lv' := [some (vr 12 0 80), none, none, some (vi q2.1), some (vi q3.1), some (vi q4.1)]) (st' := [vi (ii 1)]) (h' := q4.2) 37 2 (Nat.le_of_ble_eq_true rfl) tk_R_compares rfl rfl ⟨trivial, trivial, trivial⟩ ?_
            obtain rfl := Option.some.inj hx
            obtain ⟨rfl, rfl⟩ := hP
            exact Ev.zret 57 tk_R_compares rfl rfl rfl
      · replace hx := ip hc5 hx
        refine Ev.blk (pc' := 38) (lv' := [some (vr 12 0 80), none, none, some (vi q2.1), some (vi q3.1), none]) (st' := [vr 12 0 80]) (h' := q3.2) 19 1 (Nat.le_of_ble_eq_true rfl) tk_R_compares rfl rfl ⟨trivial, trivial⟩ ?_
        obtain ⟨q5, hq12, hx⟩ := bd hx
        refine Ev.callV (ν := m_R_fails) (av := []) (rest := []) (r1 := some (vi q5.1)) (h1 := q5.2) (ci := 12) (nn := 0) (o := 80) 20 0 tk_R_compares rfl bb_R_fails vv_R_fails lk_12_140 (by decide) rfl rfl (Or.inl rfl) (Nat.le_of_ble_eq_true rfl) (s_R_fails Γ q3.2 _ hq12) ?_
        show Ev Γ m_R_compares 41 [some (vr 12 0 80), none, none, some (vi q2.1), some (vi q3.1), none] [vi q5.1] q5.2 r h'
        obtain ⟨hg13, hx⟩ := gd hx
        obtain rfl := Option.some.inj hx
        obtain ⟨rfl, rfl⟩ := hP
        exact Ev.zret 21 tk_R_compares rfl rfl (nbool hg13)
    · replace hx := ia hc3 hx
      refine Ev.blk (pc' := 22) (lv' := [some (vr 12 0 80), none, none, some (vi q2.1), none, none]) (st' := [vi (ii 0)]) (h' := q2.2) 11 1 (Nat.le_of_ble_eq_true rfl) tk_R_compares rfl rfl ⟨trivial, trivial⟩ ?_
      obtain rfl := Option.some.inj hx
      obtain ⟨rfl, rfl⟩ := hP
      exact Ev.zret 12 tk_R_compares rfl rfl rfl
  clear hx
  refine Ev.if_eq 1 8 tk_R_compares rfl (by decide) (fun hc14 => ?_) (fun hc14 => ?_)
  · replace hq1 := ip hc14 hq1
    refine Ev.blk (pc' := 9) (lv' := [some (vr 12 0 80), some (vi a1), some (vi a2), none, none, none]) (st' := [vr 12 0 80]) (h' := h) 4 1 (Nat.le_of_ble_eq_true rfl) tk_R_compares rfl rfl ⟨trivial, trivial⟩ ?_
    obtain ⟨q1, hq15, hq1⟩ := bd hq1
    refine Ev.callV (ν := (m_R_sum 40)) (av := []) (rest := []) (r1 := some (vi q1.1)) (h1 := q1.2) (ci := 12) (nn := 0) (o := 80) 5 0 tk_R_compares rfl (bb_R_sum _) (vv_R_sum _) lk_12_167 (by decide) rfl rfl (Or.inl rfl) (Nat.le_of_ble_eq_true rfl) (t_R_sum Γ 40 h _ hq15) ?_
    show Ev Γ m_R_compares 12 [some (vr 12 0 80), some (vi a1), some (vi a2), none, none, none] [vi q1.1] q1.2 r h'
    obtain rfl := Option.some.inj hq1
    exact Ev.msk [true, false, false, false, false, false] K2
  · replace hq1 := ia hc14 hq1
    refine Ev.blk (pc' := 12) (lv' := [some (vr 12 0 80), some (vi a1), some (vi a2), none, none, none]) (st' := [vi a2]) (h' := h) 2 2 (Nat.le_of_ble_eq_true rfl) tk_R_compares rfl rfl ⟨trivial, trivial, trivial⟩ ?_
    obtain rfl := Option.some.inj hq1
    exact Ev.msk [true, false, false, false, false, false] K2
set_option maxRecDepth 4000 in
theorem u_R_unit_ok (Γ : AG) (d : Nat) (rc : Nat → Int32 → Int32 → AH → Option (Int32 × AH)) (hrc0 : ∀ (b0 : Int32) (b1 : Int32) (h : AH) (x : Int32 × AH), rc 0 b0 b1 h = some x → MetA Γ (m_R_condition d) [vr 12 0 80, vi b0, vi b1] h (some (vi x.1)) x.2) (hrc1 : ∀ (b0 : Int32) (b1 : Int32) (h : AH) (x : Int32 × AH), rc 1 b0 b1 h = some x → MetA Γ (m_R_part d) [vr 12 0 80, vi b0, vi b1] h (some (vi x.1)) x.2) (hrc2 : ∀ (b0 : Int32) (b1 : Int32) (h : AH) (x : Int32 × AH), rc 2 b0 b1 h = some x → MetA Γ (m_R_unit d) [vr 12 0 80] h (some (vi x.1)) x.2) (a1 : Int32) (a2 : Int32) (h : AH) (x : Int32 × AH) (hx : u_R_unit rc a1 a2 h = some x) : MetA Γ (m_R_unit (d + 1)) [vr 12 0 80] h (some (vi x.1)) x.2 := by
  refine Ev.met rfl rfl (Nat.le_of_ble_eq_true rfl) ?_
  show Ev Γ (m_R_unit (d + 1)) 0 [some (vr 12 0 80), none, none] [] h _ _
  obtain ⟨r, hr⟩ : ∃ r : Option AV, r = some (vi x.1) := ⟨_, rfl⟩
  obtain ⟨h', hh⟩ : ∃ h' : AH, h' = x.2 := ⟨_, rfl⟩
  have hP : r = some (vi x.1) ∧ h' = x.2 := ⟨hr, hh⟩
  suffices hS : Ev Γ (m_R_unit (d + 1)) 0 [some (vr 12 0 80), none, none] [] h r h' by rw [hr, hh] at hS; exact hS
  clear hr hh
  unfold u_R_unit at hx
  refine Ev.blk (pc' := 1) (lv' := [some (vr 12 0 80), none, none]) (st' := [vr 12 0 80]) (h' := h) 0 1 (Nat.le_of_ble_eq_true rfl) tk_R_unit rfl rfl ⟨trivial, trivial⟩ ?_
  obtain ⟨q1, hq1, hx⟩ := bd hx
  refine Ev.callV (ν := m_R_look) (av := []) (rest := []) (r1 := some (vi q1.1)) (h1 := q1.2) (ci := 12) (nn := 0) (o := 80) 1 0 tk_R_unit rfl bb_R_look vv_R_look lk_12_144 (by show _ ≤ 48 + (d + 1); simp only [mv, m_R_look]; omega) rfl rfl (Or.inl rfl) (Nat.le_of_ble_eq_true rfl) (s_R_look Γ h _ hq1) ?_
  show Ev Γ (m_R_unit (d + 1)) 4 [some (vr 12 0 80), none, none] [vi q1.1] q1.2 r h'
  refine Ev.blk (pc' := 8) (lv' := [some (vr 12 0 80), some (vi q1.1), none]) (st' := [vi (ii 33), vi q1.1]) (h' := q1.2) 2 3 (Nat.le_of_ble_eq_true rfl) tk_R_unit rfl rfl ⟨trivial, trivial, trivial, trivial⟩ ?_
  refine Ev.icmp_ne 5 45 tk_R_unit rfl (by decide) (fun hc2 => ?_) (fun hc2 => ?_)
  · replace hx := ia hc2 hx
    refine Ev.blk (pc' := 48) (lv' := [some (vr 12 0 80), some (vi q1.1), none]) (st' := [vi (ii 40), vi q1.1]) (h' := q1.2) 26 2 (Nat.le_of_ble_eq_true rfl) tk_R_unit rfl rfl ⟨trivial, trivial, trivial⟩ ?_
    refine Ev.icmp_ne 28 90 tk_R_unit rfl (by decide) (fun hc3 => ?_) (fun hc3 => ?_)
    · replace hx := ia hc3 hx
      refine Ev.blk (pc' := 93) (lv' := [some (vr 12 0 80), some (vi q1.1), none]) (st' := [vi (ii 0), vi (ii 0), vr 12 0 80]) (h' := q1.2) 53 3 (Nat.le_of_ble_eq_true rfl) tk_R_unit rfl rfl ⟨trivial, trivial, trivial, trivial⟩ ?_
      obtain ⟨q2, hq4, hx⟩ := bd hx
      refine Ev.callV (ν := m_R_compares) (av := [vi (ii 0), vi (ii 0)]) (rest := []) (r1 := some (vi q2.1)) (h1 := q2.2) (ci := 12) (nn := 0) (o := 80) 56 2 tk_R_unit rfl bb_R_compares vv_R_compares lk_12_197 (by show _ ≤ 48 + (d + 1); simp only [mv, m_R_compares]; omega) rfl rfl (Or.inl rfl) (Nat.le_of_ble_eq_true rfl) (s_R_compares Γ (ii 0) (ii 0) q1.2 _ hq4) ?_
      show Ev Γ (m_R_unit (d + 1)) 96 [some (vr 12 0 80), some (vi q1.1), none] [vi q2.1] q2.2 r h'
      obtain ⟨hg5, hx⟩ := gd hx
      obtain rfl := Option.some.inj hx
      obtain ⟨rfl, rfl⟩ := hP
      exact Ev.zret 57 tk_R_unit rfl rfl (nbool hg5)
    · replace hx := ip hc3 hx
      refine Ev.blk (pc' := 52) (lv' := [some (vr 12 0 80), some (vi q1.1), none]) (st' := [vr 12 0 80]) (h' := q1.2) 29 1 (Nat.le_of_ble_eq_true rfl) tk_R_unit rfl rfl ⟨trivial, trivial⟩ ?_
      obtain ⟨q3, hq6, hx⟩ := bd hx
      refine Ev.callV (ν := m_R_goesIn) (av := []) (rest := []) (r1 := some (vi q3.1)) (h1 := q3.2) (ci := 12) (nn := 0) (o := 80) 30 0 tk_R_unit rfl bb_R_goesIn vv_R_goesIn lk_12_164 (by show _ ≤ 48 + (d + 1); simp only [mv, m_R_goesIn]; omega) rfl rfl (Or.inl rfl) (Nat.le_of_ble_eq_true rfl) (s_R_goesIn Γ q1.2 _ hq6) ?_
      show Ev Γ (m_R_unit (d + 1)) 55 [some (vr 12 0 80), some (vi q1.1), none] [vi q3.1] q3.2 r h'
      refine Ev.if_ne 31 60 tk_R_unit rfl (by decide) (fun hc7 => ?_) (fun hc7 => ?_)
      · replace hx := ia hc7 hx
        refine Ev.blk (pc' := 63) (lv' := [some (vr 12 0 80), some (vi q1.1), none]) (st' := [vi (ii 0), vi (ii 0), vr 12 0 80]) (h' := q3.2) 34 3 (Nat.le_of_ble_eq_true rfl) tk_R_unit rfl rfl ⟨trivial, trivial, trivial, trivial⟩ ?_
        obtain ⟨q4, hq8, hx⟩ := bd hx
        refine Ev.callV (ν := (m_R_condition d)) (av := [vi (ii 0), vi (ii 0)]) (rest := []) (r1 := some (vi q4.1)) (h1 := q4.2) (ci := 12) (nn := 0) (o := 80) 37 2 tk_R_unit rfl (bb_R_condition _) (vv_R_condition _) lk_12_193 (Nat.le_refl _) rfl rfl (Or.inl rfl) (Nat.le_of_ble_eq_true rfl) (hrc0 (ii 0) (ii 0) q3.2 _ hq8) ?_
        show Ev Γ (m_R_unit (d + 1)) 66 [some (vr 12 0 80), some (vi q1.1), none] [vi q4.1] q4.2 r h'
        refine Ev.blk (pc' := 70) (lv' := [some (vr 12 0 80), some (vi q1.1), some (vi q4.1)]) (st' := [vi (ii 41), vr 12 0 80]) (h' := q4.2) 38 3 (Nat.le_of_ble_eq_true rfl) tk_R_unit rfl rfl ⟨trivial, trivial, trivial, trivial⟩ ?_
        obtain ⟨q5, hq9, hx⟩ := bd hx
        refine Ev.callV (ν := m_R_takes) (av := [vi (ii 41)]) (rest := []) (r1 := some (vi q5.1)) (h1 := q5.2) (ci := 12) (nn := 0) (o := 80) 41 1 tk_R_unit rfl bb_R_takes vv_R_takes lk_12_170 (by show _ ≤ 48 + (d + 1); simp only [mv, m_R_takes]; omega) rfl rfl (Or.inl rfl) (Nat.le_of_ble_eq_true rfl) (s_R_takes Γ (ii 41) q4.2 _ hq9) ?_
        show Ev Γ (m_R_unit (d + 1)) 73 [some (vr 12 0 80), some (vi q1.1), some (vi q4.1)] [vi q5.1] q5.2 r h'
        refine Ev.if_ne 42 78 tk_R_unit rfl (by decide) (fun hc10 => ?_) (fun hc10 => ?_)
        · replace hx := ia hc10 hx
          refine Ev.blk (pc' := 89) (lv' := [some (vr 12 0 80), some (vi q1.1), some (vi q4.1)]) (st' := [vi q4.1]) (h' := (wI q5.2 80 12 ((q5.2.1 80 12) - (ii 1)))) 45 7 (Nat.le_of_ble_eq_true rfl) tk_R_unit rfl rfl ⟨trivial, trivial, trivial, trivial, trivial, trivial, trivial, trivial⟩ ?_
          obtain ⟨hg11, hx⟩ := gd hx
          obtain rfl := Option.some.inj hx
          obtain ⟨rfl, rfl⟩ := hP
          exact Ev.zret 52 tk_R_unit rfl rfl (nbool hg11)
        · replace hx := ip hc10 hx
          refine Ev.blk (pc' := 77) (lv' := [some (vr 12 0 80), some (vi q1.1), some (vi q4.1)]) (st' := [vi (ii 0)]) (h' := q5.2) 43 1 (Nat.le_of_ble_eq_true rfl) tk_R_unit rfl rfl ⟨trivial, trivial⟩ ?_
          obtain rfl := Option.some.inj hx
          obtain ⟨rfl, rfl⟩ := hP
          exact Ev.zret 44 tk_R_unit rfl rfl rfl
      · replace hx := ip hc7 hx
        refine Ev.blk (pc' := 59) (lv' := [some (vr 12 0 80), some (vi q1.1), none]) (st' := [vi (ii 0)]) (h' := q3.2) 32 1 (Nat.le_of_ble_eq_true rfl) tk_R_unit rfl rfl ⟨trivial, trivial⟩ ?_
        obtain rfl := Option.some.inj hx
        obtain ⟨rfl, rfl⟩ := hP
        exact Ev.zret 33 tk_R_unit rfl rfl rfl
  · replace hx := ip hc2 hx
    refine Ev.blk (pc' := 12) (lv' := [some (vr 12 0 80), some (vi q1.1), none]) (st' := [vr 12 0 80]) (h' := q1.2) 6 1 (Nat.le_of_ble_eq_true rfl) tk_R_unit rfl rfl ⟨trivial, trivial⟩ ?_
    obtain ⟨q6, hq12, hx⟩ := bd hx
    refine Ev.callV (ν := m_R_goesIn) (av := []) (rest := []) (r1 := some (vi q6.1)) (h1 := q6.2) (ci := 12) (nn := 0) (o := 80) 7 0 tk_R_unit rfl bb_R_goesIn vv_R_goesIn lk_12_164 (by show _ ≤ 48 + (d + 1); simp only [mv, m_R_goesIn]; omega) rfl rfl (Or.inl rfl) (Nat.le_of_ble_eq_true rfl) (s_R_goesIn Γ q1.2 _ hq12) ?_
    show Ev Γ (m_R_unit (d + 1)) 15 [some (vr 12 0 80), some (vi q1.1), none] [vi q6.1] q6.2 r h'
    refine Ev.if_ne 8 20 tk_R_unit rfl (by decide) (fun hc13 => ?_) (fun hc13 => ?_)
    · replace hx := ia hc13 hx
      refine Ev.blk (pc' := 21) (lv' := [some (vr 12 0 80), some (vi q1.1), none]) (st' := [vr 12 0 80]) (h' := q6.2) 11 1 (Nat.le_of_ble_eq_true rfl) tk_R_unit rfl rfl ⟨trivial, trivial⟩ ?_
      obtain ⟨q7, hq14, hx⟩ := bd hx
      refine Ev.callV (ν := (m_R_unit d)) (av := []) (rest := []) (r1 := some (vi q7.1)) (h1 := q7.2) (ci := 12) (nn := 0) (o := 80) 12 0 tk_R_unit rfl (bb_R_unit _) (vv_R_unit _) lk_12_190 (Nat.le_refl _) rfl rfl (Or.inl rfl) (Nat.le_of_ble_eq_true rfl) (hrc2 0 0 q6.2 _ hq14) ?_
      show Ev Γ (m_R_unit (d + 1)) 24 [some (vr 12 0 80), some (vi q1.1), none] [vi q7.1] q7.2 r h'
      refine Ev.blk (pc' := 36) (lv' := [some (vr 12 0 80), some (vi q1.1), some (vi q7.1)]) (st' := [vi q7.1]) (h' := (wI q7.2 80 12 ((q7.2.1 80 12) - (ii 1)))) 13 8 (Nat.le_of_ble_eq_true rfl) tk_R_unit rfl rfl ⟨trivial, trivial, trivial, trivial, trivial, trivial, trivial, trivial, trivial⟩ ?_
      refine Ev.if_ne 21 43 tk_R_unit rfl (by decide) (fun hc15 => ?_) (fun hc15 => ?_)
      · replace hx := ia hc15 hx
        refine Ev.blk (pc' := 44) (lv' := [some (vr 12 0 80), some (vi q1.1), some (vi q7.1)]) (st' := [vi (ii 0)]) (h' := (wI q7.2 80 12 ((q7.2.1 80 12) - (ii 1)))) 24 1 (Nat.le_of_ble_eq_true rfl) tk_R_unit rfl rfl ⟨trivial, trivial⟩ ?_
        obtain rfl := Option.some.inj hx
        obtain ⟨rfl, rfl⟩ := hP
        exact Ev.zret 25 tk_R_unit rfl rfl rfl
      · replace hx := ip hc15 hx
        refine Ev.blk (pc' := 44) (lv' := [some (vr 12 0 80), some (vi q1.1), some (vi q7.1)]) (st' := [vi (ii 1)]) (h' := (wI q7.2 80 12 ((q7.2.1 80 12) - (ii 1)))) 22 2 (Nat.le_of_ble_eq_true rfl) tk_R_unit rfl rfl ⟨trivial, trivial, trivial⟩ ?_
        obtain rfl := Option.some.inj hx
        obtain ⟨rfl, rfl⟩ := hP
        exact Ev.zret 25 tk_R_unit rfl rfl rfl
    · replace hx := ip hc13 hx
      refine Ev.blk (pc' := 19) (lv' := [some (vr 12 0 80), some (vi q1.1), none]) (st' := [vi (ii 0)]) (h' := q6.2) 9 1 (Nat.le_of_ble_eq_true rfl) tk_R_unit rfl rfl ⟨trivial, trivial⟩ ?_
      obtain rfl := Option.some.inj hx
      obtain ⟨rfl, rfl⟩ := hP
      exact Ev.zret 10 tk_R_unit rfl rfl rfl
