set_option maxRecDepth 4000 in
theorem s_LR_readClause (Γ : AG) (h : AH) (x : Int32 × AH) (hx : f_LR_readClause  h = some x) : MetA Γ m_LR_readClause [vr 4 0 8, vr 1 0 1] h (some (vi x.1)) x.2 := by
  refine Ev.met rfl rfl (Nat.le_of_ble_eq_true rfl) ?_
  show Ev Γ m_LR_readClause 0 [some (vr 4 0 8), some (vr 1 0 1), none, none] [] h _ _
  obtain ⟨r, hr⟩ : ∃ r : Option AV, r = some (vi x.1) := ⟨_, rfl⟩
  obtain ⟨h', hh⟩ : ∃ h' : AH, h' = x.2 := ⟨_, rfl⟩
  have hP : r = some (vi x.1) ∧ h' = x.2 := ⟨hr, hh⟩
  suffices hS : Ev Γ m_LR_readClause 0 [some (vr 4 0 8), some (vr 1 0 1), none, none] [] h r h' by rw [hr, hh] at hS; exact hS
  clear hr hh
  unfold f_LR_readClause at hx
  refine Ev.blk (pc' := 3) (lv' := [some (vr 4 0 8), some (vr 1 0 1), none, none]) (st' := [vi (ii 121), vr 1 0 1]) (h' := h) 0 2 (Nat.le_of_ble_eq_true rfl) tk_LR_readClause rfl rfl ⟨trivial, trivial, trivial⟩ ?_
  obtain ⟨q1, hq1, hx⟩ := bd hx
  refine Ev.callV (ν := m_Tape_take) (av := [vi (ii 121)]) (rest := []) (r1 := some (vi q1.1)) (h1 := q1.2) (ci := 1) (nn := 0) (o := 1) 2 1 tk_LR_readClause rfl bb_Tape_take vv_Tape_take lk_4_39 (by decide) rfl rfl (Or.inl rfl) (Nat.le_of_ble_eq_true rfl) (s_Tape_take Γ (ii 121) h _ hq1) ?_
  show Ev Γ m_LR_readClause 6 [some (vr 4 0 8), some (vr 1 0 1), none, none] [vi q1.1] q1.2 r h'
  refine Ev.if_eq 3 18 tk_LR_readClause rfl (by decide) (fun hc2 => ?_) (fun hc2 => ?_)
  · replace hx := ip hc2 hx
    refine Ev.blk (pc' := 19) (lv' := [some (vr 4 0 8), some (vr 1 0 1), none, none]) (st' := [vi (ii 0)]) (h' := q1.2) 8 1 (Nat.le_of_ble_eq_true rfl) tk_LR_readClause rfl rfl ⟨trivial, trivial⟩ ?_
    obtain rfl := Option.some.inj hx
    obtain ⟨rfl, rfl⟩ := hP
    exact Ev.zret 9 tk_LR_readClause rfl rfl rfl
  · replace hx := ia hc2 hx
    refine Ev.blk (pc' := 12) (lv' := [some (vr 4 0 8), some (vr 1 0 1), none, none]) (st' := [vi (ii 58), vr 1 0 1]) (h' := q1.2) 4 2 (Nat.le_of_ble_eq_true rfl) tk_LR_readClause rfl rfl ⟨trivial, trivial, trivial⟩ ?_
    obtain ⟨q2, hq3, hx⟩ := bd hx
    refine Ev.callV (ν := m_Tape_take) (av := [vi (ii 58)]) (rest := []) (r1 := some (vi q2.1)) (h1 := q2.2) (ci := 1) (nn := 0) (o := 1) 6 1 tk_LR_readClause rfl bb_Tape_take vv_Tape_take lk_4_39 (by decide) rfl rfl (Or.inl rfl) (Nat.le_of_ble_eq_true rfl) (s_Tape_take Γ (ii 58) q1.2 _ hq3) ?_
    show Ev Γ m_LR_readClause 15 [some (vr 4 0 8), some (vr 1 0 1), none, none] [vi q2.1] q2.2 r h'
    refine Ev.if_ne 7 20 tk_LR_readClause rfl (by decide) (fun hc4 => ?_) (fun hc4 => ?_)
    · replace hx := ia hc4 hx
      refine Ev.blk (pc' := 21) (lv' := [some (vr 4 0 8), some (vr 1 0 1), none, none]) (st' := [vr 1 0 1]) (h' := q2.2) 10 1 (Nat.le_of_ble_eq_true rfl) tk_LR_readClause rfl rfl ⟨trivial, trivial⟩ ?_
      obtain ⟨q3, hq5, hx⟩ := bd hx
      refine Ev.callV (ν := m_Tape_peek) (av := []) (rest := []) (r1 := some (vi q3.1)) (h1 := q3.2) (ci := 1) (nn := 0) (o := 1) 11 0 tk_LR_readClause rfl bb_Tape_peek vv_Tape_peek lk_4_35 (by decide) rfl rfl (Or.inl rfl) (Nat.le_of_ble_eq_true rfl) (s_Tape_peek Γ q2.2 _ hq5) ?_
      show Ev Γ m_LR_readClause 24 [some (vr 4 0 8), some (vr 1 0 1), none, none] [vi q3.1] q3.2 r h'
      refine Ev.blk (pc' := 28) (lv' := [some (vr 4 0 8), some (vr 1 0 1), some (vi q3.1), none]) (st' := [vi (ii 33), vi q3.1]) (h' := q3.2) 12 3 (Nat.le_of_ble_eq_true rfl) tk_LR_readClause rfl rfl ⟨trivial, trivial, trivial, trivial⟩ ?_
      have K6 : ∀ v6_0 : Int32, v6_0 = (if q3.1 = (ii 33) then (ii 0) else (if q3.1 = (ii 40) then (ii 0) else (ii 1))) → Ev Γ m_LR_readClause 42 [some (vr 4 0 8), some (vr 1 0 1), none, none] [vi v6_0] q3.2 r h' := by
        intro v6_0 e7
        subst e7
        refine Ev.blk (pc' := 44) (lv' := [some (vr 4 0 8), some (vr 1 0 1), none, some (vi (if q3.1 = (ii 33) then (ii 0) else (if q3.1 = (ii 40) then (ii 0) else (ii 1))))]) (st' := [vi (if q3.1 = (ii 33) then (ii 0) else (if q3.1 = (ii 40) then (ii 0) else (ii 1)))]) (h' := q3.2) 22 2 (Nat.le_of_ble_eq_true rfl) tk_LR_readClause rfl rfl ⟨trivial, trivial, trivial⟩ ?_
        refine Ev.if_eq 24 71 tk_LR_readClause rfl (by decide) (fun hc8 => ?_) (fun hc8 => ?_)
        · replace hx := ip hc8 hx
          refine Ev.blk (pc' := 75) (lv' := [some (vr 4 0 8), some (vr 1 0 1), none, some (vi (if q3.1 = (ii 33) then (ii 0) else (if q3.1 = (ii 40) then (ii 0) else (ii 1))))]) (st' := [vi (if q3.1 = (ii 33) then (ii 0) else (if q3.1 = (ii 40) then (ii 0) else (ii 1))), vi (ii 0), vr 1 0 1, vr 4 0 8]) (h' := q3.2) 39 4 (Nat.le_of_ble_eq_true rfl) tk_LR_readClause rfl rfl ⟨trivial, trivial, trivial, trivial, trivial⟩ ?_
          obtain ⟨q4, hq9, hx⟩ := bd hx
          refine Ev.callV (ν := (m_LR_readCondition 40)) (av := [vr 1 0 1, vi (ii 0), vi (if q3.1 = (ii 33) then (ii 0) else (if q3.1 = (ii 40) then (ii 0) else (ii 1)))]) (rest := []) (r1 := some (vi q4.1)) (h1 := q4.2) (ci := 4) (nn := 0) (o := 8) 43 3 tk_LR_readClause rfl (bb_LR_readCondition _) (vv_LR_readCondition _) lk_4_51 (by decide) rfl rfl (Or.inl rfl) (Nat.le_of_ble_eq_true rfl) (t_LR_readCondition Γ 40 (ii 0) (if q3.1 = (ii 33) then (ii 0) else (if q3.1 = (ii 40) then (ii 0) else (ii 1))) q3.2 _ hq9) ?_
          show Ev Γ m_LR_readClause 78 [some (vr 4 0 8), some (vr 1 0 1), none, some (vi (if q3.1 = (ii 33) then (ii 0) else (if q3.1 = (ii 40) then (ii 0) else (ii 1))))] [vi q4.1] q4.2 r h'
          refine Ev.if_eq 44 90 tk_LR_readClause rfl (by decide) (fun hc10 => ?_) (fun hc10 => ?_)
          · replace hx := ip hc10 hx
            refine Ev.blk (pc' := 91) (lv' := [some (vr 4 0 8), some (vr 1 0 1), none, some (vi (if q3.1 = (ii 33) then (ii 0) else (if q3.1 = (ii 40) then (ii 0) else (ii 1))))]) (st' := [vi (ii 0)]) (h' := q4.2) 49 1 (Nat.le_of_ble_eq_true rfl) tk_LR_readClause rfl rfl ⟨trivial, trivial⟩ ?_
            obtain rfl := Option.some.inj hx
            obtain ⟨rfl, rfl⟩ := hP
            exact Ev.zret 50 tk_LR_readClause rfl rfl rfl
          · replace hx := ia hc10 hx
            refine Ev.blk (pc' := 84) (lv' := [some (vr 4 0 8), some (vr 1 0 1), none, some (vi (if q3.1 = (ii 33) then (ii 0) else (if q3.1 = (ii 40) then (ii 0) else (ii 1))))]) (st' := [vi (ii 63), vr 1 0 1]) (h' := q4.2) 45 2 (Nat.le_of_ble_eq_true rfl) tk_LR_readClause rfl rfl ⟨trivial, trivial, trivial⟩ ?_
            obtain ⟨q5, hq11, hx⟩ := bd hx
            refine Ev.callV (ν := m_Tape_take) (av := [vi (ii 63)]) (rest := []) (r1 := some (vi q5.1)) (h1 := q5.2) (ci := 1) (nn := 0) (o := 1) 47 1 tk_LR_readClause rfl bb_Tape_take vv_Tape_take lk_4_39 (by decide) rfl rfl (Or.inl rfl) (Nat.le_of_ble_eq_true rfl) (s_Tape_take Γ (ii 63) q4.2 _ hq11) ?_
            show Ev Γ m_LR_readClause 87 [some (vr 4 0 8), some (vr 1 0 1), none, some (vi (if q3.1 = (ii 33) then (ii 0) else (if q3.1 = (ii 40) then (ii 0) else (ii 1))))] [vi q5.1] q5.2 r h'
            refine Ev.if_ne 48 92 tk_LR_readClause rfl (by decide) (fun hc12 => ?_) (fun hc12 => ?_)
            · replace hx := ia hc12 hx
              refine Ev.blk (pc' := 98) (lv' := [some (vr 4 0 8), some (vr 1 0 1), none, some (vi (if q3.1 = (ii 33) then (ii 0) else (if q3.1 = (ii 40) then (ii 0) else (ii 1))))]) (st' := [vi (ii (-17)), vr 5 0 (q5.2.2.2 8 0)]) (h' := q5.2) 51 3 (Nat.le_of_ble_eq_true rfl) tk_LR_readClause rfl rfl ⟨trivial, trivial, trivial, trivial⟩ ?_
              obtain ⟨q6, hq13, hx⟩ := bd hx
              refine Ev.callV (ν := m_Law_emit) (av := [vi (ii (-17))]) (rest := []) (r1 := none) (h1 := q6) (ci := 5) (nn := 0) (o := (q5.2.2.2 8 0)) 54 1 tk_LR_readClause rfl bb_Law_emit vv_Law_emit lk_4_31 (by decide) rfl rfl (Or.inl rfl) (Nat.le_of_ble_eq_true rfl) (s_Law_emit Γ (q5.2.2.2 8 0) (ii (-17)) q5.2 _ hq13) ?_
              show Ev Γ m_LR_readClause 101 [some (vr 4 0 8), some (vr 1 0 1), none, some (vi (if q3.1 = (ii 33) then (ii 0) else (if q3.1 = (ii 40) then (ii 0) else (ii 1))))] [] q6 r h'
              refine Ev.blk (pc' := 104) (lv' := [some (vr 4 0 8), some (vr 1 0 1), none, some (vi (if q3.1 = (ii 33) then (ii 0) else (if q3.1 = (ii 40) then (ii 0) else (ii 1))))]) (st' := [vi (ii 0), vr 1 0 1, vr 4 0 8]) (h' := q6) 55 3 (Nat.le_of_ble_eq_true rfl) tk_LR_readClause rfl rfl ⟨trivial, trivial, trivial, trivial⟩ ?_
              obtain ⟨q7, hq14, hx⟩ := bd hx
              refine Ev.callV (ν := (m_LR_readSum 40)) (av := [vr 1 0 1, vi (ii 0)]) (rest := []) (r1 := some (vi q7.1)) (h1 := q7.2) (ci := 4) (nn := 0) (o := 8) 58 2 tk_LR_readClause rfl (bb_LR_readSum _) (vv_LR_readSum _) lk_4_43 (by decide) rfl rfl (Or.inl rfl) (Nat.le_of_ble_eq_true rfl) (t_LR_readSum Γ 40 (ii 0) q6 _ hq14) ?_
              show Ev Γ m_LR_readClause 107 [some (vr 4 0 8), some (vr 1 0 1), none, some (vi (if q3.1 = (ii 33) then (ii 0) else (if q3.1 = (ii 40) then (ii 0) else (ii 1))))] [vi q7.1] q7.2 r h'
              obtain ⟨hg15, hx⟩ := gd hx
              obtain rfl := Option.some.inj hx
              obtain ⟨rfl, rfl⟩ := hP
              exact Ev.zret 59 tk_LR_readClause rfl rfl (nbool hg15)
            · replace hx := ip hc12 hx
              refine Ev.blk (pc' := 91) (lv' := [some (vr 4 0 8), some (vr 1 0 1), none, some (vi (if q3.1 = (ii 33) then (ii 0) else (if q3.1 = (ii 40) then (ii 0) else (ii 1))))]) (st' := [vi (ii 0)]) (h' := q5.2) 49 1 (Nat.le_of_ble_eq_true rfl) tk_LR_readClause rfl rfl ⟨trivial, trivial⟩ ?_
              obtain rfl := Option.some.inj hx
              obtain ⟨rfl, rfl⟩ := hP
              exact Ev.zret 50 tk_LR_readClause rfl rfl rfl
        · replace hx := ia hc8 hx
          refine Ev.blk (pc' := 50) (lv' := [some (vr 4 0 8), some (vr 1 0 1), none, some (vi (if q3.1 = (ii 33) then (ii 0) else (if q3.1 = (ii 40) then (ii 0) else (ii 1))))]) (st' := [vi (ii 0), vr 1 0 1, vr 4 0 8]) (h' := q3.2) 25 3 (Nat.le_of_ble_eq_true rfl) tk_LR_readClause rfl rfl ⟨trivial, trivial, trivial, trivial⟩ ?_
          obtain ⟨q8, hq16, hx⟩ := bd hx
          refine Ev.callV (ν := (m_LR_readSum 40)) (av := [vr 1 0 1, vi (ii 0)]) (rest := []) (r1 := some (vi q8.1)) (h1 := q8.2) (ci := 4) (nn := 0) (o := 8) 28 2 tk_LR_readClause rfl (bb_LR_readSum _) (vv_LR_readSum _) lk_4_43 (by decide) rfl rfl (Or.inl rfl) (Nat.le_of_ble_eq_true rfl) (t_LR_readSum Γ 40 (ii 0) q3.2 _ hq16) ?_
          show Ev Γ m_LR_readClause 53 [some (vr 4 0 8), some (vr 1 0 1), none, some (vi (if q3.1 = (ii 33) then (ii 0) else (if q3.1 = (ii 40) then (ii 0) else (ii 1))))] [vi q8.1] q8.2 r h'
          refine Ev.if_ne 29 58 tk_LR_readClause rfl (by decide) (fun hc17 => ?_) (fun hc17 => ?_)
          · replace hx := ia hc17 hx
            refine Ev.blk (pc' := 59) (lv' := [some (vr 4 0 8), some (vr 1 0 1), none, some (vi (if q3.1 = (ii 33) then (ii 0) else (if q3.1 = (ii 40) then (ii 0) else (ii 1))))]) (st' := [vr 1 0 1]) (h' := q8.2) 32 1 (Nat.le_of_ble_eq_true rfl) tk_LR_readClause rfl rfl ⟨trivial, trivial⟩ ?_
            obtain ⟨q9, hq18, hx⟩ := bd hx
            refine Ev.callV (ν := m_Tape_peek) (av := []) (rest := []) (r1 := some (vi q9.1)) (h1 := q9.2) (ci := 1) (nn := 0) (o := 1) 33 0 tk_LR_readClause rfl bb_Tape_peek vv_Tape_peek lk_4_35 (by decide) rfl rfl (Or.inl rfl) (Nat.le_of_ble_eq_true rfl) (s_Tape_peek Γ q8.2 _ hq18) ?_
            show Ev Γ m_LR_readClause 62 [some (vr 4 0 8), some (vr 1 0 1), none, some (vi (if q3.1 = (ii 33) then (ii 0) else (if q3.1 = (ii 40) then (ii 0) else (ii 1))))] [vi q9.1] q9.2 r h'
            refine Ev.callS (ν := m_LR_comparing) (av := [vi q9.1]) (rest := []) (r1 := some (vi (p_LR_comparing q9.1))) (h1 := q9.2) 34 1 tk_LR_readClause rfl bb_LR_comparing vv_LR_comparing lk_4_47 (by decide) rfl rfl (Nat.le_of_ble_eq_true rfl) (s_LR_comparing Γ q9.1 q9.2) ?_
            show Ev Γ m_LR_readClause 65 [some (vr 4 0 8), some (vr 1 0 1), none, some (vi (if q3.1 = (ii 33) then (ii 0) else (if q3.1 = (ii 40) then (ii 0) else (ii 1))))] [vi (p_LR_comparing q9.1)] q9.2 r h'
            refine Ev.blk (pc' := 66) (lv' := [some (vr 4 0 8), some (vr 1 0 1), none, some (vi (if q3.1 = (ii 33) then (ii 0) else (if q3.1 = (ii 40) then (ii 0) else (ii 1))))]) (st' := [vi (ii (-1)), vi (p_LR_comparing q9.1)]) (h' := q9.2) 35 1 (Nat.le_of_ble_eq_true rfl) tk_LR_readClause rfl rfl ⟨trivial, trivial⟩ ?_
            refine Ev.icmp_ne 36 71 tk_LR_readClause rfl (by decide) (fun hc19 => ?_) (fun hc19 => ?_)
            · replace hx := ia hc19 hx
              refine Ev.blk (pc' := 75) (lv' := [some (vr 4 0 8), some (vr 1 0 1), none, some (vi (if q3.1 = (ii 33) then (ii 0) else (if q3.1 = (ii 40) then (ii 0) else (ii 1))))]) (st' := [vi (if q3.1 = (ii 33) then (ii 0) else (if q3.1 = (ii 40) then (ii 0) else (ii 1))), vi (ii 0), vr 1 0 1, vr 4 0 8]) (h' := q9.2) 39 4 (Nat.le_of_ble_eq_true rfl) tk_LR_readClause rfl rfl ⟨trivial, trivial, trivial, trivial, trivial⟩ ?_
              obtain ⟨q10, hq20, hx⟩ := bd hx
              refine Ev.callV (ν := (m_LR_readCondition 40)) (av := [vr 1 0 1, vi (ii 0), vi (if q3.1 = (ii 33) then (ii 0) else (if q3.1 = (ii 40) then (ii 0) else (ii 1)))]) (rest := []) (r1 := some (vi q10.1)) (h1 := q10.2) (ci := 4) (nn := 0) (o := 8) 43 3 tk_LR_readClause rfl (bb_LR_readCondition _) (vv_LR_readCondition _) lk_4_51 (by decide) rfl rfl (Or.inl rfl) (Nat.le_of_ble_eq_true rfl) (t_LR_readCondition Γ 40 (ii 0) (if q3.1 = (ii 33) then (ii 0) else (if q3.1 = (ii 40) then (ii 0) else (ii 1))) q9.2 _ hq20) ?_
              show Ev Γ m_LR_readClause 78 [some (vr 4 0 8), some (vr 1 0 1), none, some (vi (if q3.1 = (ii 33) then (ii 0) else (if q3.1 = (ii 40) then (ii 0) else (ii 1))))] [vi q10.1] q10.2 r h'
              refine Ev.if_eq 44 90 tk_LR_readClause rfl (by decide) (fun hc21 => ?_) (fun hc21 => ?_)
              · replace hx := ip hc21 hx
                refine Ev.blk (pc' := 91) (lv' := [some (vr 4 0 8), some (vr 1 0 1), none, some (vi (if q3.1 = (ii 33) then (ii 0) else (if q3.1 = (ii 40) then (ii 0) else (ii 1))))]) (st' := [vi (ii 0)]) (h' := q10.2) 49 1 (Nat.le_of_ble_eq_true rfl) tk_LR_readClause rfl rfl ⟨trivial, trivial⟩ ?_
                obtain rfl := Option.some.inj hx
                obtain ⟨rfl, rfl⟩ := hP
                exact Ev.zret 50 tk_LR_readClause rfl rfl rfl
              · replace hx := ia hc21 hx
                refine Ev.blk (pc' := 84) (lv' := [some (vr 4 0 8), some (vr 1 0 1), none, some (vi (if q3.1 = (ii 33) then (ii 0) else (if q3.1 = (ii 40) then (ii 0) else (ii 1))))]) (st' := [vi (ii 63), vr 1 0 1]) (h' := q10.2) 45 2 (Nat.le_of_ble_eq_true rfl) tk_LR_readClause rfl rfl ⟨trivial, trivial, trivial⟩ ?_
                obtain ⟨q11, hq22, hx⟩ := bd hx
                refine Ev.callV (ν := m_Tape_take) (av := [vi (ii 63)]) (rest := []) (r1 := some (vi q11.1)) (h1 := q11.2) (ci := 1) (nn := 0) (o := 1) 47 1 tk_LR_readClause rfl bb_Tape_take vv_Tape_take lk_4_39 (by decide) rfl rfl (Or.inl rfl) (Nat.le_of_ble_eq_true rfl) (s_Tape_take Γ (ii 63) q10.2 _ hq22) ?_
                show Ev Γ m_LR_readClause 87 [some (vr 4 0 8), some (vr 1 0 1), none, some (vi (if q3.1 = (ii 33) then (ii 0) else (if q3.1 = (ii 40) then (ii 0) else (ii 1))))] [vi q11.1] q11.2 r h'
                refine Ev.if_ne 48 92 tk_LR_readClause rfl (by decide) (fun hc23 => ?_) (fun hc23 => ?_)
                · replace hx := ia hc23 hx
                  refine Ev.blk (pc' := 98) (lv' := [some (vr 4 0 8), some (vr 1 0 1), none, some (vi (if q3.1 = (ii 33) then (ii 0) else (if q3.1 = (ii 40) then (ii 0) else (ii 1))))]) (st' := [vi (ii (-17)), vr 5 0 (q11.2.2.2 8 0)]) (h' := q11.2) 51 3 (Nat.le_of_ble_eq_true rfl) tk_LR_readClause rfl rfl ⟨trivial, trivial, trivial, trivial⟩ ?_
                  obtain ⟨q12, hq24, hx⟩ := bd hx
                  refine Ev.callV (ν := m_Law_emit) (av := [vi (ii (-17))]) (rest := []) (r1 := none) (h1 := q12) (ci := 5) (nn := 0) (o := (q11.2.2.2 8 0)) 54 1 tk_LR_readClause rfl bb_Law_emit vv_Law_emit lk_4_31 (by decide) rfl rfl (Or.inl rfl) (Nat.le_of_ble_eq_true rfl) (s_Law_emit Γ (q11.2.2.2 8 0) (ii (-17)) q11.2 _ hq24) ?_
                  show Ev Γ m_LR_readClause 101 [some (vr 4 0 8), some (vr 1 0 1), none, some (vi (if q3.1 = (ii 33) then (ii 0) else (if q3.1 = (ii 40) then (ii 0) else (ii 1))))] [] q12 r h'
                  refine Ev.blk (pc' := 104) (lv' := [some (vr 4 0 8), some (vr 1 0 1), none, some (vi (if q3.1 = (ii 33) then (ii 0) else (if q3.1 = (ii 40) then (ii 0) else (ii 1))))]) (st' := [vi (ii 0), vr 1 0 1, vr 4 0 8]) (h' := q12) 55 3 (Nat.le_of_ble_eq_true rfl) tk_LR_readClause rfl rfl ⟨trivial, trivial, trivial, trivial⟩ ?_
                  obtain ⟨q13, hq25, hx⟩ := bd hx
                  refine Ev.callV (ν := (m_LR_readSum 40)) (av := [vr 1 0 1, vi (ii 0)]) (rest := []) (r1 := some (vi q13.1)) (h1 := q13.2) (ci := 4) (nn := 0) (o := 8) 58 2 tk_LR_readClause rfl (bb_LR_readSum _) (vv_LR_readSum _) lk_4_43 (by decide) rfl rfl (Or.inl rfl) (Nat.le_of_ble_eq_true rfl) (t_LR_readSum Γ 40 (ii 0) q12 _ hq25) ?_
                  show Ev Γ m_LR_readClause 107 [some (vr 4 0 8), some (vr 1 0 1), none, some (vi (if q3.1 = (ii 33) then (ii 0) else (if q3.1 = (ii 40) then (ii 0) else (ii 1))))] [vi q13.1] q13.2 r h'
                  obtain ⟨hg26, hx⟩ := gd hx
                  obtain rfl := Option.some.inj hx
                  obtain ⟨rfl, rfl⟩ := hP
                  exact Ev.zret 59 tk_LR_readClause rfl rfl (nbool hg26)
                · replace hx := ip hc23 hx
                  refine Ev.blk (pc' := 91) (lv' := [some (vr 4 0 8), some (vr 1 0 1), none, some (vi (if q3.1 = (ii 33) then (ii 0) else (if q3.1 = (ii 40) then (ii 0) else (ii 1))))]) (st' := [vi (ii 0)]) (h' := q11.2) 49 1 (Nat.le_of_ble_eq_true rfl) tk_LR_readClause rfl rfl ⟨trivial, trivial⟩ ?_
                  obtain rfl := Option.some.inj hx
                  obtain ⟨rfl, rfl⟩ := hP
                  exact Ev.zret 50 tk_LR_readClause rfl rfl rfl
            · replace hx := ip hc19 hx
              refine Ev.blk (pc' := 70) (lv' := [some (vr 4 0 8), some (vr 1 0 1), none, some (vi (if q3.1 = (ii 33) then (ii 0) else (if q3.1 = (ii 40) then (ii 0) else (ii 1))))]) (st' := [vi (ii 1)]) (h' := q9.2) 37 1 (Nat.le_of_ble_eq_true rfl) tk_LR_readClause rfl rfl ⟨trivial, trivial⟩ ?_
              obtain rfl := Option.some.inj hx
              obtain ⟨rfl, rfl⟩ := hP
              exact Ev.zret 38 tk_LR_readClause rfl rfl rfl
          · replace hx := ip hc17 hx
            refine Ev.blk (pc' := 57) (lv' := [some (vr 4 0 8), some (vr 1 0 1), none, some (vi (if q3.1 = (ii 33) then (ii 0) else (if q3.1 = (ii 40) then (ii 0) else (ii 1))))]) (st' := [vi (ii 0)]) (h' := q8.2) 30 1 (Nat.le_of_ble_eq_true rfl) tk_LR_readClause rfl rfl ⟨trivial, trivial⟩ ?_
            obtain rfl := Option.some.inj hx
            obtain ⟨rfl, rfl⟩ := hP
            exact Ev.zret 31 tk_LR_readClause rfl rfl rfl
      refine Ev.icmp_eq 15 41 tk_LR_readClause rfl (by decide) (fun hc27 => ?_) (fun hc27 => ?_)
      · refine Ev.blk (pc' := 42) (lv' := [some (vr 4 0 8), some (vr 1 0 1), some (vi q3.1), none]) (st' := [vi (ii 0)]) (h' := q3.2) 21 1 (Nat.le_of_ble_eq_true rfl) tk_LR_readClause rfl rfl ⟨trivial, trivial⟩ ?_
        exact Ev.msk [true, true, false, false] (K6 _ (by first | rfl | simp only [if_pos hc27]))
      · refine Ev.blk (pc' := 34) (lv' := [some (vr 4 0 8), some (vr 1 0 1), some (vi q3.1), none]) (st' := [vi (ii 40), vi q3.1]) (h' := q3.2) 16 2 (Nat.le_of_ble_eq_true rfl) tk_LR_readClause rfl rfl ⟨trivial, trivial, trivial⟩ ?_
        refine Ev.icmp_eq 18 41 tk_LR_readClause rfl (by decide) (fun hc28 => ?_) (fun hc28 => ?_)
        · refine Ev.blk (pc' := 42) (lv' := [some (vr 4 0 8), some (vr 1 0 1), some (vi q3.1), none]) (st' := [vi (ii 0)]) (h' := q3.2) 21 1 (Nat.le_of_ble_eq_true rfl) tk_LR_readClause rfl rfl ⟨trivial, trivial⟩ ?_
          exact Ev.msk [true, true, false, false] (K6 _ (by first | rfl | simp only [if_neg hc27, if_pos hc28]))
        · refine Ev.blk (pc' := 42) (lv' := [some (vr 4 0 8), some (vr 1 0 1), some (vi q3.1), none]) (st' := [vi (ii 1)]) (h' := q3.2) 19 2 (Nat.le_of_ble_eq_true rfl) tk_LR_readClause rfl rfl ⟨trivial, trivial, trivial⟩ ?_
          exact Ev.msk [true, true, false, false] (K6 _ (by first | rfl | simp only [if_neg hc27, if_neg hc28]))
    · replace hx := ip hc4 hx
      refine Ev.blk (pc' := 19) (lv' := [some (vr 4 0 8), some (vr 1 0 1), none, none]) (st' := [vi (ii 0)]) (h' := q2.2) 8 1 (Nat.le_of_ble_eq_true rfl) tk_LR_readClause rfl rfl ⟨trivial, trivial⟩ ?_
      obtain rfl := Option.some.inj hx
      obtain ⟨rfl, rfl⟩ := hP
      exact Ev.zret 9 tk_LR_readClause rfl rfl rfl
set_option maxRecDepth 4000 in
theorem l_LR_faultOf_L15 (Γ : AG) : ∀ (n : Nat) (v2 : Int32) (h : AH) (x : Int32 × AH), LR_faultOf_L15 n v2 h = some x → ∀ (r : Option AV) (h' : AH), r = some (vi x.1) ∧ h' = x.2 → Ev Γ m_LR_faultOf 15 [some (vr 4 0 8), some (vr 1 0 1), some (vi v2)] [] h r h' := by
  intro n
  induction n with
  | zero => intro v2 h x hx; cases hx
  | succ n ih =>
    intro v2 h x hx r h' hP
    replace hx : LR_faultOf_L15_b (LR_faultOf_L15 n) v2 h = some x := hx
    unfold LR_faultOf_L15_b at hx
    refine Ev.blk (pc' := 19) (lv' := [some (vr 4 0 8), some (vr 1 0 1), some (vi v2)]) (st' := [vi (ii 240), vi v2]) (h' := h) 9 2 (Nat.le_of_ble_eq_true rfl) tk_LR_faultOf rfl rfl ⟨trivial, trivial, trivial⟩ ?_
    refine Ev.icmp_gt 11 74 tk_LR_faultOf rfl (by decide) (fun hc1 => ?_) (fun hc1 => ?_)
    · replace hx := ip hc1 hx
      refine Ev.blk (pc' := 78) (lv' := [some (vr 4 0 8), some (vr 1 0 1), some (vi v2)]) (st' := [vi (h.1 1 2)]) (h' := h) 38 2 (Nat.le_of_ble_eq_true rfl) tk_LR_faultOf rfl rfl ⟨trivial, trivial, trivial⟩ ?_
      obtain rfl := Option.some.inj hx
      obtain ⟨rfl, rfl⟩ := hP
      exact Ev.iret 40 tk_LR_faultOf rfl rfl
    · replace hx := ia hc1 hx
      refine Ev.blk (pc' := 24) (lv' := [some (vr 4 0 8), some (vr 1 0 1), some (vi v2)]) (st' := [vr 1 0 1, vr 4 0 8]) (h' := h) 12 2 (Nat.le_of_ble_eq_true rfl) tk_LR_faultOf rfl rfl ⟨trivial, trivial, trivial⟩ ?_
      obtain ⟨q1, hq2, hx⟩ := bd hx
      refine Ev.callV (ν := m_LR_readClause) (av := [vr 1 0 1]) (rest := []) (r1 := some (vi q1.1)) (h1 := q1.2) (ci := 4) (nn := 0) (o := 8) 14 1 tk_LR_faultOf rfl bb_LR_readClause vv_LR_readClause lk_4_27 (by decide) rfl rfl (Or.inl rfl) (Nat.le_of_ble_eq_true rfl) (s_LR_readClause Γ h _ hq2) ?_
      show Ev Γ m_LR_faultOf 27 [some (vr 4 0 8), some (vr 1 0 1), some (vi v2)] [vi q1.1] q1.2 r h'
      refine Ev.if_ne 15 35 tk_LR_faultOf rfl (by decide) (fun hc3 => ?_) (fun hc3 => ?_)
      · replace hx := ia hc3 hx
        refine Ev.blk (pc' := 41) (lv' := [some (vr 4 0 8), some (vr 1 0 1), some (vi v2)]) (st' := [vi (ii (-18)), vr 5 0 (q1.2.2.2 8 0)]) (h' := q1.2) 19 3 (Nat.le_of_ble_eq_true rfl) tk_LR_faultOf rfl rfl ⟨trivial, trivial, trivial, trivial⟩ ?_
        obtain ⟨q2, hq4, hx⟩ := bd hx
        refine Ev.callV (ν := m_Law_emit) (av := [vi (ii (-18))]) (rest := []) (r1 := none) (h1 := q2) (ci := 5) (nn := 0) (o := (q1.2.2.2 8 0)) 22 1 tk_LR_faultOf rfl bb_Law_emit vv_Law_emit lk_4_31 (by decide) rfl rfl (Or.inl rfl) (Nat.le_of_ble_eq_true rfl) (s_Law_emit Γ (q1.2.2.2 8 0) (ii (-18)) q1.2 _ hq4) ?_
        show Ev Γ m_LR_faultOf 44 [some (vr 4 0 8), some (vr 1 0 1), some (vi v2)] [] q2 r h'
        refine Ev.blk (pc' := 45) (lv' := [some (vr 4 0 8), some (vr 1 0 1), some (vi v2)]) (st' := [vr 1 0 1]) (h' := q2) 23 1 (Nat.le_of_ble_eq_true rfl) tk_LR_faultOf rfl rfl ⟨trivial, trivial⟩ ?_
        obtain ⟨q3, hq5, hx⟩ := bd hx
        refine Ev.callV (ν := m_Tape_peek) (av := []) (rest := []) (r1 := some (vi q3.1)) (h1 := q3.2) (ci := 1) (nn := 0) (o := 1) 24 0 tk_LR_faultOf rfl bb_Tape_peek vv_Tape_peek lk_4_35 (by decide) rfl rfl (Or.inl rfl) (Nat.le_of_ble_eq_true rfl) (s_Tape_peek Γ q2 _ hq5) ?_
        show Ev Γ m_LR_faultOf 48 [some (vr 4 0 8), some (vr 1 0 1), some (vi v2)] [vi q3.1] q3.2 r h'
        refine Ev.blk (pc' := 49) (lv' := [some (vr 4 0 8), some (vr 1 0 1), some (vi v2)]) (st' := [vi (ii (-1)), vi q3.1]) (h' := q3.2) 25 1 (Nat.le_of_ble_eq_true rfl) tk_LR_faultOf rfl rfl ⟨trivial, trivial⟩ ?_
        refine Ev.icmp_ne 26 54 tk_LR_faultOf rfl (by decide) (fun hc6 => ?_) (fun hc6 => ?_)
        · replace hx := ia hc6 hx
          refine Ev.blk (pc' := 57) (lv' := [some (vr 4 0 8), some (vr 1 0 1), some (vi v2)]) (st' := [vi (ii 59), vr 1 0 1]) (h' := q3.2) 29 2 (Nat.le_of_ble_eq_true rfl) tk_LR_faultOf rfl rfl ⟨trivial, trivial, trivial⟩ ?_
          obtain ⟨q4, hq7, hx⟩ := bd hx
          refine Ev.callV (ν := m_Tape_take) (av := [vi (ii 59)]) (rest := []) (r1 := some (vi q4.1)) (h1 := q4.2) (ci := 1) (nn := 0) (o := 1) 31 1 tk_LR_faultOf rfl bb_Tape_take vv_Tape_take lk_4_39 (by decide) rfl rfl (Or.inl rfl) (Nat.le_of_ble_eq_true rfl) (s_Tape_take Γ (ii 59) q3.2 _ hq7) ?_
          show Ev Γ m_LR_faultOf 60 [some (vr 4 0 8), some (vr 1 0 1), some (vi v2)] [vi q4.1] q4.2 r h'
          refine Ev.if_ne 32 68 tk_LR_faultOf rfl (by decide) (fun hc8 => ?_) (fun hc8 => ?_)
          · replace hx := ia hc8 hx
            refine Ev.blk (pc' := 15) (lv' := [some (vr 4 0 8), some (vr 1 0 1), some (vi (v2 + ii 1))]) (st' := []) (h' := q4.2) 36 2 (Nat.le_of_ble_eq_true rfl) tk_LR_faultOf rfl rfl ⟨trivial, trivial, trivial⟩ ?_
            exact Ev.msk [true, true, true] (ih (v2 + ii 1) q4.2 _ hx r h' hP)
          · replace hx := ip hc8 hx
            refine Ev.blk (pc' := 67) (lv' := [some (vr 4 0 8), some (vr 1 0 1), some (vi v2)]) (st' := [vi (q4.2.1 1 2)]) (h' := q4.2) 33 2 (Nat.le_of_ble_eq_true rfl) tk_LR_faultOf rfl rfl ⟨trivial, trivial, trivial⟩ ?_
            obtain rfl := Option.some.inj hx
            obtain ⟨rfl, rfl⟩ := hP
            exact Ev.iret 35 tk_LR_faultOf rfl rfl
        · replace hx := ip hc6 hx
          refine Ev.blk (pc' := 53) (lv' := [some (vr 4 0 8), some (vr 1 0 1), some (vi v2)]) (st' := [vi (ii (-1))]) (h' := q3.2) 27 1 (Nat.le_of_ble_eq_true rfl) tk_LR_faultOf rfl rfl ⟨trivial, trivial⟩ ?_
          obtain rfl := Option.some.inj hx
          obtain ⟨rfl, rfl⟩ := hP
          exact Ev.iret 28 tk_LR_faultOf rfl rfl
      · replace hx := ip hc3 hx
        refine Ev.blk (pc' := 34) (lv' := [some (vr 4 0 8), some (vr 1 0 1), some (vi v2)]) (st' := [vi (q1.2.1 1 2)]) (h' := q1.2) 16 2 (Nat.le_of_ble_eq_true rfl) tk_LR_faultOf rfl rfl ⟨trivial, trivial, trivial⟩ ?_
        obtain rfl := Option.some.inj hx
        obtain ⟨rfl, rfl⟩ := hP
        exact Ev.iret 18 tk_LR_faultOf rfl rfl
set_option maxRecDepth 4000 in
theorem s_LR_faultOf (Γ : AG) (h : AH) (x : Int32 × AH) (hx : f_LR_faultOf  h = some x) : MetA Γ m_LR_faultOf [vr 4 0 8, vr 1 0 1] h (some (vi x.1)) x.2 := by
  refine Ev.met rfl rfl (Nat.le_of_ble_eq_true rfl) ?_
  show Ev Γ m_LR_faultOf 0 [some (vr 4 0 8), some (vr 1 0 1), none] [] h _ _
  obtain ⟨r, hr⟩ : ∃ r : Option AV, r = some (vi x.1) := ⟨_, rfl⟩
  obtain ⟨h', hh⟩ : ∃ h' : AH, h' = x.2 := ⟨_, rfl⟩
  have hP : r = some (vi x.1) ∧ h' = x.2 := ⟨hr, hh⟩
  suffices hS : Ev Γ m_LR_faultOf 0 [some (vr 4 0 8), some (vr 1 0 1), none] [] h r h' by rw [hr, hh] at hS; exact hS
  clear hr hh
  unfold f_LR_faultOf at hx
  refine Ev.blk (pc' := 15) (lv' := [some (vr 4 0 8), some (vr 1 0 1), some (vi (ii 0))]) (st' := []) (h' := (wI (wI h 1 2 (ii 0)) ((wI h 1 2 (ii 0)).2.2 8 0) 2 (ii 0))) 0 9 (Nat.le_of_ble_eq_true rfl) tk_LR_faultOf rfl rfl ⟨trivial, trivial, trivial, trivial, trivial, trivial, trivial, trivial, trivial, trivial⟩ ?_
  refine Ev.msk [true, true, true] ?_
  show Ev Γ m_LR_faultOf 15 [some (vr 4 0 8), some (vr 1 0 1), some (vi (ii 0))] [] (wI (wI h 1 2 (ii 0)) ((wI h 1 2 (ii 0)).2.2 8 0) 2 (ii 0)) r h'
  exact l_LR_faultOf_L15 Γ FU (ii 0) (wI (wI h 1 2 (ii 0)) ((wI h 1 2 (ii 0)).2.2 8 0) 2 (ii 0)) _ hx r h' hP
set_option maxRecDepth 4000 in
theorem s_Walks_add (Γ : AG) (o0 : Nat) (a1 : Int32) (a2 : Int32) (h : AH) (x : AH) (hx : f_Walks_add o0 a1 a2 h = some x) : MetA Γ m_Walks_add [vr 7 0 o0, vi a1, vi a2] h (none) x := by
  refine Ev.met rfl rfl (Nat.le_of_ble_eq_true rfl) ?_
  show Ev Γ m_Walks_add 0 [some (vr 7 0 o0), some (vi a1), some (vi a2)] [] h _ _
  obtain ⟨r, hr⟩ : ∃ r : Option AV, r = none := ⟨_, rfl⟩
  obtain ⟨h', hh⟩ : ∃ h' : AH, h' = x := ⟨_, rfl⟩
  have hP : r = none ∧ h' = x := ⟨hr, hh⟩
  suffices hS : Ev Γ m_Walks_add 0 [some (vr 7 0 o0), some (vi a1), some (vi a2)] [] h r h' by rw [hr, hh] at hS; exact hS
  clear hr hh
  unfold f_Walks_add at hx
  refine Ev.blk (pc' := 4) (lv' := [some (vr 7 0 o0), some (vi a1), some (vi a2)]) (st' := [vi (h.1 o0 1)]) (h' := h) 0 2 (Nat.le_of_ble_eq_true rfl) tk_Walks_add rfl rfl ⟨trivial, trivial, trivial⟩ ?_
  refine Ev.if_lt 2 43 tk_Walks_add rfl (by decide) (fun hc1 => ?_) (fun hc1 => ?_)
  · replace hx := ip hc1 hx
    obtain rfl := Option.some.inj hx
    obtain ⟨rfl, rfl⟩ := hP
    exact Ev.vret 25 tk_Walks_add rfl rfl
  · replace hx := ia hc1 hx
    refine Ev.blk (pc' := 16) (lv' := [some (vr 7 0 o0), some (vi a1), some (vi a2)]) (st' := [vi (ii (64 : Int)), vi (h.1 o0 1)]) (h' := h) 3 5 (Nat.le_of_ble_eq_true rfl) tk_Walks_add rfl rfl ⟨trivial, trivial, trivial, trivial, trivial, trivial⟩ ?_
    refine Ev.icmp_ge 8 43 tk_Walks_add rfl (by decide) (fun hc2 => ?_) (fun hc2 => ?_)
    · replace hx := ip hc2 hx
      obtain rfl := Option.some.inj hx
      obtain ⟨rfl, rfl⟩ := hP
      exact Ev.vret 25 tk_Walks_add rfl rfl
    · replace hx := ia hc2 hx
      obtain ⟨hg3, hx⟩ := gd hx
      refine Ev.blk (pc' := 43) (lv' := [some (vr 7 0 o0), some (vi a1), some (vi a2)]) (st' := []) (h' := (wI (wI h (o0 + 1) (h.1 o0 1).toNatClampNeg ((a1 * (ii 4)) + a2)) o0 1 (((wI h (o0 + 1) (h.1 o0 1).toNatClampNeg ((a1 * (ii 4)) + a2)).1 o0 1) + (ii 1)))) 9 16 (Nat.le_of_ble_eq_true rfl) tk_Walks_add rfl rfl ⟨trivial, trivial, trivial, trivial, trivial, trivial, trivial, trivial, trivial, hg3, trivial, trivial, trivial, trivial, trivial, trivial, trivial⟩ ?_
      obtain rfl := Option.some.inj hx
      obtain ⟨rfl, rfl⟩ := hP
      exact Ev.vret 25 tk_Walks_add rfl rfl
set_option maxRecDepth 4000 in
theorem l_WR_readStretch_L31 (Γ : AG) : ∀ (n : Nat) (v2 : Int32) (v3 : Int32) (h : AH) (x : Int32 × AH), WR_readStretch_L31 n v2 v3 h = some x → ∀ (r : Option AV) (h' : AH), r = some (vi x.1) ∧ h' = x.2 → Ev Γ m_WR_readStretch 31 [some (vr 6 0 9), some (vr 1 0 1), some (vi v2), some (vi v3), none] [] h r h' := by
  intro n
  induction n with
  | zero => intro v2 v3 h x hx; cases hx
  | succ n ih =>
    intro v2 v3 h x hx r h' hP
    replace hx : WR_readStretch_L31_b (WR_readStretch_L31 n) v2 v3 h = some x := hx
    unfold WR_readStretch_L31_b at hx
    refine Ev.blk (pc' := 34) (lv' := [some (vr 6 0 9), some (vr 1 0 1), some (vi v2), some (vi v3), none]) (st' := [vi (ii 8), vi v3]) (h' := h) 19 2 (Nat.le_of_ble_eq_true rfl) tk_WR_readStretch rfl rfl ⟨trivial, trivial, trivial⟩ ?_
    refine Ev.icmp_ge 21 92 tk_WR_readStretch rfl (by decide) (fun hc1 => ?_) (fun hc1 => ?_)
    · replace hx := ip hc1 hx
      refine Ev.blk (pc' := 93) (lv' := [some (vr 6 0 9), some (vr 1 0 1), some (vi v2), some (vi v3), none]) (st' := [vi (ii 1)]) (h' := h) 50 1 (Nat.le_of_ble_eq_true rfl) tk_WR_readStretch rfl rfl ⟨trivial, trivial⟩ ?_
      obtain rfl := Option.some.inj hx
      obtain ⟨rfl, rfl⟩ := hP
      exact Ev.zret 51 tk_WR_readStretch rfl rfl rfl
    · replace hx := ia hc1 hx
      refine Ev.blk (pc' := 40) (lv' := [some (vr 6 0 9), some (vr 1 0 1), some (vi v2), some (vi v3), none]) (st' := [vr 1 0 1, vr 31 0 6]) (h' := h) 22 2 (Nat.le_of_ble_eq_true rfl) tk_WR_readStretch rfl rfl ⟨trivial, trivial, trivial⟩ ?_
      obtain ⟨q1, hq2, hx⟩ := bd hx
      refine Ev.callV (ν := m_Tape_peek) (av := []) (rest := [vr 31 0 6]) (r1 := some (vi q1.1)) (h1 := q1.2) (ci := 1) (nn := 0) (o := 1) 24 0 tk_WR_readStretch rfl bb_Tape_peek vv_Tape_peek lk_6_38 (by decide) rfl rfl (Or.inl rfl) (Nat.le_of_ble_eq_true rfl) (s_Tape_peek Γ h _ hq2) ?_
      show Ev Γ m_WR_readStretch 43 [some (vr 6 0 9), some (vr 1 0 1), some (vi v2), some (vi v3), none] [vi q1.1, vr 31 0 6] q1.2 r h'
      obtain ⟨q2, hq3, hx⟩ := bd hx
      refine Ev.callSN (ν := m_HF_placeIn) (av := [vr 31 0 6, vi q1.1]) (rest := []) (r1 := some (vi q2)) (h1 := q1.2) 25 2 tk_WR_readStretch rfl bb_HF_placeIn vv_HF_placeIn lk_6_44 (by decide) rfl rfl (Nat.le_of_ble_eq_true rfl) (s_HF_placeIn Γ 6 q1.1 q1.2 _ hq3) ?_
      show Ev Γ m_WR_readStretch 46 [some (vr 6 0 9), some (vr 1 0 1), some (vi v2), some (vi v3), none] [vi q2] q1.2 r h'
      refine Ev.blk (pc' := 50) (lv' := [some (vr 6 0 9), some (vr 1 0 1), some (vi v2), some (vi v3), some (vi q2)]) (st' := [vi q2]) (h' := q1.2) 26 2 (Nat.le_of_ble_eq_true rfl) tk_WR_readStretch rfl rfl ⟨trivial, trivial, trivial⟩ ?_
      refine Ev.if_ge 28 63 tk_WR_readStretch rfl (by decide) (fun hc4 => ?_) (fun hc4 => ?_)
      · replace hx := ip hc4 hx
        refine Ev.blk (pc' := 73) (lv' := [some (vr 6 0 9), some (vr 1 0 1), some (vi v2), some (vi v3), some (vi q2)]) (st' := [vi q2, vi (v2 - (ii 48)), vr 7 0 (q1.2.2.2 9 0)]) (h' := q1.2) 35 6 (Nat.le_of_ble_eq_true rfl) tk_WR_readStretch rfl rfl ⟨trivial, trivial, trivial, trivial, trivial, trivial, trivial⟩ ?_
        obtain ⟨q3, hq5, hx⟩ := bd hx
        refine Ev.callV (ν := m_Walks_add) (av := [vi (v2 - (ii 48)), vi q2]) (rest := []) (r1 := none) (h1 := q3) (ci := 7) (nn := 0) (o := (q1.2.2.2 9 0)) 41 2 tk_WR_readStretch rfl bb_Walks_add vv_Walks_add lk_6_48 (by decide) rfl rfl (Or.inl rfl) (Nat.le_of_ble_eq_true rfl) (s_Walks_add Γ (q1.2.2.2 9 0) (v2 - (ii 48)) q2 q1.2 _ hq5) ?_
        show Ev Γ m_WR_readStretch 76 [some (vr 6 0 9), some (vr 1 0 1), some (vi v2), some (vi v3), some (vi q2)] [] q3 r h'
        refine Ev.blk (pc' := 31) (lv' := [some (vr 6 0 9), some (vr 1 0 1), some (vi v2), some (vi (v3 + ii 1)), some (vi q2)]) (st' := []) (h' := (wI q3 1 2 ((q3.1 1 2) + (ii 1)))) 42 8 (Nat.le_of_ble_eq_true rfl) tk_WR_readStretch rfl rfl ⟨trivial, trivial, trivial, trivial, trivial, trivial, trivial, trivial, trivial⟩ ?_
        exact Ev.msk [true, true, true, true, false] (ih v2 (v3 + ii 1) (wI q3 1 2 ((q3.1 1 2) + (ii 1))) _ hx r h' hP)
      · replace hx := ia hc4 hx
        refine Ev.blk (pc' := 54) (lv' := [some (vr 6 0 9), some (vr 1 0 1), some (vi v2), some (vi v3), some (vi q2)]) (st' := [vi v3]) (h' := q1.2) 29 1 (Nat.le_of_ble_eq_true rfl) tk_WR_readStretch rfl rfl ⟨trivial, trivial⟩ ?_
        refine Ev.if_le 30 61 tk_WR_readStretch rfl (by decide) (fun hc6 => ?_) (fun hc6 => ?_)
        · replace hx := ip hc6 hx
          refine Ev.blk (pc' := 62) (lv' := [some (vr 6 0 9), some (vr 1 0 1), some (vi v2), some (vi v3), some (vi q2)]) (st' := [vi (ii 0)]) (h' := q1.2) 33 1 (Nat.le_of_ble_eq_true rfl) tk_WR_readStretch rfl rfl ⟨trivial, trivial⟩ ?_
          obtain rfl := Option.some.inj hx
          obtain ⟨rfl, rfl⟩ := hP
          exact Ev.zret 34 tk_WR_readStretch rfl rfl rfl
        · replace hx := ia hc6 hx
          refine Ev.blk (pc' := 62) (lv' := [some (vr 6 0 9), some (vr 1 0 1), some (vi v2), some (vi v3), some (vi q2)]) (st' := [vi (ii 1)]) (h' := q1.2) 31 2 (Nat.le_of_ble_eq_true rfl) tk_WR_readStretch rfl rfl ⟨trivial, trivial, trivial⟩ ?_
          obtain rfl := Option.some.inj hx
          obtain ⟨rfl, rfl⟩ := hP
          exact Ev.zret 34 tk_WR_readStretch rfl rfl rfl
set_option maxRecDepth 4000 in
theorem s_WR_readStretch (Γ : AG) (h : AH) (x : Int32 × AH) (hx : f_WR_readStretch  h = some x) : MetA Γ m_WR_readStretch [vr 6 0 9, vr 1 0 1] h (some (vi x.1)) x.2 := by
  refine Ev.met rfl rfl (Nat.le_of_ble_eq_true rfl) ?_
  show Ev Γ m_WR_readStretch 0 [some (vr 6 0 9), some (vr 1 0 1), none, none, none] [] h _ _
  obtain ⟨r, hr⟩ : ∃ r : Option AV, r = some (vi x.1) := ⟨_, rfl⟩
  obtain ⟨h', hh⟩ : ∃ h' : AH, h' = x.2 := ⟨_, rfl⟩
  have hP : r = some (vi x.1) ∧ h' = x.2 := ⟨hr, hh⟩
  suffices hS : Ev Γ m_WR_readStretch 0 [some (vr 6 0 9), some (vr 1 0 1), none, none, none] [] h r h' by rw [hr, hh] at hS; exact hS
  clear hr hh
  unfold f_WR_readStretch at hx
  refine Ev.blk (pc' := 1) (lv' := [some (vr 6 0 9), some (vr 1 0 1), none, none, none]) (st' := [vr 1 0 1]) (h' := h) 0 1 (Nat.le_of_ble_eq_true rfl) tk_WR_readStretch rfl rfl ⟨trivial, trivial⟩ ?_
  obtain ⟨q1, hq1, hx⟩ := bd hx
  refine Ev.callV (ν := m_Tape_peek) (av := []) (rest := []) (r1 := some (vi q1.1)) (h1 := q1.2) (ci := 1) (nn := 0) (o := 1) 1 0 tk_WR_readStretch rfl bb_Tape_peek vv_Tape_peek lk_6_38 (by decide) rfl rfl (Or.inl rfl) (Nat.le_of_ble_eq_true rfl) (s_Tape_peek Γ h _ hq1) ?_
  show Ev Γ m_WR_readStretch 4 [some (vr 6 0 9), some (vr 1 0 1), none, none, none] [vi q1.1] q1.2 r h'
  refine Ev.blk (pc' := 8) (lv' := [some (vr 6 0 9), some (vr 1 0 1), some (vi q1.1), none, none]) (st' := [vi (ii 48), vi q1.1]) (h' := q1.2) 2 3 (Nat.le_of_ble_eq_true rfl) tk_WR_readStretch rfl rfl ⟨trivial, trivial, trivial, trivial⟩ ?_
  refine Ev.icmp_lt 5 17 tk_WR_readStretch rfl (by decide) (fun hc2 => ?_) (fun hc2 => ?_)
  · replace hx := ip hc2 hx
    refine Ev.blk (pc' := 18) (lv' := [some (vr 6 0 9), some (vr 1 0 1), some (vi q1.1), none, none]) (st' := [vi (ii 0)]) (h' := q1.2) 9 1 (Nat.le_of_ble_eq_true rfl) tk_WR_readStretch rfl rfl ⟨trivial, trivial⟩ ?_
    obtain rfl := Option.some.inj hx
    obtain ⟨rfl, rfl⟩ := hP
    exact Ev.zret 10 tk_WR_readStretch rfl rfl rfl
  · replace hx := ia hc2 hx
    refine Ev.blk (pc' := 14) (lv' := [some (vr 6 0 9), some (vr 1 0 1), some (vi q1.1), none, none]) (st' := [vi (ii 57), vi q1.1]) (h' := q1.2) 6 2 (Nat.le_of_ble_eq_true rfl) tk_WR_readStretch rfl rfl ⟨trivial, trivial, trivial⟩ ?_
    refine Ev.icmp_le 8 19 tk_WR_readStretch rfl (by decide) (fun hc3 => ?_) (fun hc3 => ?_)
    · replace hx := ip hc3 hx
      refine Ev.blk (pc' := 31) (lv' := [some (vr 6 0 9), some (vr 1 0 1), some (vi q1.1), some (vi (ii 0)), none]) (st' := []) (h' := (wI q1.2 1 2 ((q1.2.1 1 2) + (ii 1)))) 11 8 (Nat.le_of_ble_eq_true rfl) tk_WR_readStretch rfl rfl ⟨trivial, trivial, trivial, trivial, trivial, trivial, trivial, trivial, trivial⟩ ?_
      refine Ev.msk [true, true, true, true, false] ?_
      show Ev Γ m_WR_readStretch 31 [some (vr 6 0 9), some (vr 1 0 1), some (vi q1.1), some (vi (ii 0)), none] [] (wI q1.2 1 2 ((q1.2.1 1 2) + (ii 1))) r h'
      exact l_WR_readStretch_L31 Γ FU q1.1 (ii 0) (wI q1.2 1 2 ((q1.2.1 1 2) + (ii 1))) _ hx r h' hP
    · replace hx := ia hc3 hx
      refine Ev.blk (pc' := 18) (lv' := [some (vr 6 0 9), some (vr 1 0 1), some (vi q1.1), none, none]) (st' := [vi (ii 0)]) (h' := q1.2) 9 1 (Nat.le_of_ble_eq_true rfl) tk_WR_readStretch rfl rfl ⟨trivial, trivial⟩ ?_
      obtain rfl := Option.some.inj hx
      obtain ⟨rfl, rfl⟩ := hP
      exact Ev.zret 10 tk_WR_readStretch rfl rfl rfl
set_option maxRecDepth 4000 in
theorem l_WR_readStretches_L2 (Γ : AG) : ∀ (n : Nat) (v2 : Int32) (h : AH) (x : Int32 × AH), WR_readStretches_L2 n v2 h = some x → ∀ (r : Option AV) (h' : AH), r = some (vi x.1) ∧ h' = x.2 → Ev Γ m_WR_readStretches 2 [some (vr 6 0 9), some (vr 1 0 1), some (vi v2)] [] h r h' := by
  intro n
  induction n with
  | zero => intro v2 h x hx; cases hx
  | succ n ih =>
    intro v2 h x hx r h' hP
    replace hx : WR_readStretches_L2_b (WR_readStretches_L2 n) v2 h = some x := hx
    unfold WR_readStretches_L2_b at hx
    refine Ev.blk (pc' := 5) (lv' := [some (vr 6 0 9), some (vr 1 0 1), some (vi v2)]) (st' := [vi (ii 8), vi v2]) (h' := h) 2 2 (Nat.le_of_ble_eq_true rfl) tk_WR_readStretches rfl rfl ⟨trivial, trivial, trivial⟩ ?_
    refine Ev.icmp_ge 4 49 tk_WR_readStretches rfl (by decide) (fun hc1 => ?_) (fun hc1 => ?_)
    · replace hx := ip hc1 hx
      refine Ev.blk (pc' := 50) (lv' := [some (vr 6 0 9), some (vr 1 0 1), some (vi v2)]) (st' := [vi (ii 0)]) (h' := h) 27 1 (Nat.le_of_ble_eq_true rfl) tk_WR_readStretches rfl rfl ⟨trivial, trivial⟩ ?_
      obtain rfl := Option.some.inj hx
      obtain ⟨rfl, rfl⟩ := hP
      exact Ev.zret 28 tk_WR_readStretches rfl rfl rfl
    · replace hx := ia hc1 hx
      refine Ev.blk (pc' := 9) (lv' := [some (vr 6 0 9), some (vr 1 0 1), some (vi v2)]) (st' := [vi v2]) (h' := h) 5 1 (Nat.le_of_ble_eq_true rfl) tk_WR_readStretches rfl rfl ⟨trivial, trivial⟩ ?_
      refine Ev.if_le 6 23 tk_WR_readStretches rfl (by decide) (fun hc2 => ?_) (fun hc2 => ?_)
      · replace hx := ip hc2 hx
        refine Ev.blk (pc' := 25) (lv' := [some (vr 6 0 9), some (vr 1 0 1), some (vi v2)]) (st' := [vr 1 0 1, vr 6 0 9]) (h' := h) 13 2 (Nat.le_of_ble_eq_true rfl) tk_WR_readStretches rfl rfl ⟨trivial, trivial, trivial⟩ ?_
        obtain ⟨q1, hq3, hx⟩ := bd hx
        refine Ev.callV (ν := m_WR_readStretch) (av := [vr 1 0 1]) (rest := []) (r1 := some (vi q1.1)) (h1 := q1.2) (ci := 6) (nn := 0) (o := 9) 15 1 tk_WR_readStretches rfl bb_WR_readStretch vv_WR_readStretch lk_6_35 (by decide) rfl rfl (Or.inl rfl) (Nat.le_of_ble_eq_true rfl) (s_WR_readStretch Γ h _ hq3) ?_
        show Ev Γ m_WR_readStretches 28 [some (vr 6 0 9), some (vr 1 0 1), some (vi v2)] [vi q1.1] q1.2 r h'
        refine Ev.if_ne 16 33 tk_WR_readStretches rfl (by decide) (fun hc4 => ?_) (fun hc4 => ?_)
        · replace hx := ia hc4 hx
          refine Ev.blk (pc' := 34) (lv' := [some (vr 6 0 9), some (vr 1 0 1), some (vi v2)]) (st' := [vr 1 0 1]) (h' := q1.2) 19 1 (Nat.le_of_ble_eq_true rfl) tk_WR_readStretches rfl rfl ⟨trivial, trivial⟩ ?_
          obtain ⟨q2, hq5, hx⟩ := bd hx
          refine Ev.callV (ν := m_Tape_peek) (av := []) (rest := []) (r1 := some (vi q2.1)) (h1 := q2.2) (ci := 1) (nn := 0) (o := 1) 20 0 tk_WR_readStretches rfl bb_Tape_peek vv_Tape_peek lk_6_38 (by decide) rfl rfl (Or.inl rfl) (Nat.le_of_ble_eq_true rfl) (s_Tape_peek Γ q1.2 _ hq5) ?_
          show Ev Γ m_WR_readStretches 37 [some (vr 6 0 9), some (vr 1 0 1), some (vi v2)] [vi q2.1] q2.2 r h'
          refine Ev.blk (pc' := 38) (lv' := [some (vr 6 0 9), some (vr 1 0 1), some (vi v2)]) (st' := [vi (ii (-1)), vi q2.1]) (h' := q2.2) 21 1 (Nat.le_of_ble_eq_true rfl) tk_WR_readStretches rfl rfl ⟨trivial, trivial⟩ ?_
          refine Ev.icmp_ne 22 43 tk_WR_readStretches rfl (by decide) (fun hc6 => ?_) (fun hc6 => ?_)
          · replace hx := ia hc6 hx
            refine Ev.blk (pc' := 2) (lv' := [some (vr 6 0 9), some (vr 1 0 1), some (vi (v2 + ii 1))]) (st' := []) (h' := q2.2) 25 2 (Nat.le_of_ble_eq_true rfl) tk_WR_readStretches rfl rfl ⟨trivial, trivial, trivial⟩ ?_
            exact Ev.msk [true, true, true] (ih (v2 + ii 1) q2.2 _ hx r h' hP)
          · replace hx := ip hc6 hx
            refine Ev.blk (pc' := 42) (lv' := [some (vr 6 0 9), some (vr 1 0 1), some (vi v2)]) (st' := [vi (ii 1)]) (h' := q2.2) 23 1 (Nat.le_of_ble_eq_true rfl) tk_WR_readStretches rfl rfl ⟨trivial, trivial⟩ ?_
            obtain rfl := Option.some.inj hx
            obtain ⟨rfl, rfl⟩ := hP
            exact Ev.zret 24 tk_WR_readStretches rfl rfl rfl
        · replace hx := ip hc4 hx
          refine Ev.blk (pc' := 32) (lv' := [some (vr 6 0 9), some (vr 1 0 1), some (vi v2)]) (st' := [vi (ii 0)]) (h' := q1.2) 17 1 (Nat.le_of_ble_eq_true rfl) tk_WR_readStretches rfl rfl ⟨trivial, trivial⟩ ?_
          obtain rfl := Option.some.inj hx
          obtain ⟨rfl, rfl⟩ := hP
          exact Ev.zret 18 tk_WR_readStretches rfl rfl rfl
      · replace hx := ia hc2 hx
        refine Ev.blk (pc' := 15) (lv' := [some (vr 6 0 9), some (vr 1 0 1), some (vi v2)]) (st' := [vi (ii 59), vr 1 0 1]) (h' := h) 7 2 (Nat.le_of_ble_eq_true rfl) tk_WR_readStretches rfl rfl ⟨trivial, trivial, trivial⟩ ?_
        obtain ⟨q3, hq7, hx⟩ := bd hx
        refine Ev.callV (ν := m_Tape_take) (av := [vi (ii 59)]) (rest := []) (r1 := some (vi q3.1)) (h1 := q3.2) (ci := 1) (nn := 0) (o := 1) 9 1 tk_WR_readStretches rfl bb_Tape_take vv_Tape_take lk_6_31 (by decide) rfl rfl (Or.inl rfl) (Nat.le_of_ble_eq_true rfl) (s_Tape_take Γ (ii 59) h _ hq7) ?_
        show Ev Γ m_WR_readStretches 18 [some (vr 6 0 9), some (vr 1 0 1), some (vi v2)] [vi q3.1] q3.2 r h'
        refine Ev.if_ne 10 23 tk_WR_readStretches rfl (by decide) (fun hc8 => ?_) (fun hc8 => ?_)
        · replace hx := ia hc8 hx
          refine Ev.blk (pc' := 25) (lv' := [some (vr 6 0 9), some (vr 1 0 1), some (vi v2)]) (st' := [vr 1 0 1, vr 6 0 9]) (h' := q3.2) 13 2 (Nat.le_of_ble_eq_true rfl) tk_WR_readStretches rfl rfl ⟨trivial, trivial, trivial⟩ ?_
          obtain ⟨q4, hq9, hx⟩ := bd hx
          refine Ev.callV (ν := m_WR_readStretch) (av := [vr 1 0 1]) (rest := []) (r1 := some (vi q4.1)) (h1 := q4.2) (ci := 6) (nn := 0) (o := 9) 15 1 tk_WR_readStretches rfl bb_WR_readStretch vv_WR_readStretch lk_6_35 (by decide) rfl rfl (Or.inl rfl) (Nat.le_of_ble_eq_true rfl) (s_WR_readStretch Γ q3.2 _ hq9) ?_
          show Ev Γ m_WR_readStretches 28 [some (vr 6 0 9), some (vr 1 0 1), some (vi v2)] [vi q4.1] q4.2 r h'
          refine Ev.if_ne 16 33 tk_WR_readStretches rfl (by decide) (fun hc10 => ?_) (fun hc10 => ?_)
          · replace hx := ia hc10 hx
            refine Ev.blk (pc' := 34) (lv' := [some (vr 6 0 9), some (vr 1 0 1), some (vi v2)]) (st' := [vr 1 0 1]) (h' := q4.2) 19 1 (Nat.le_of_ble_eq_true rfl) tk_WR_readStretches rfl rfl ⟨trivial, trivial⟩ ?_
            obtain ⟨q5, hq11, hx⟩ := bd hx
            refine Ev.callV (ν := m_Tape_peek) (av := []) (rest := []) (r1 := some (vi q5.1)) (h1 := q5.2) (ci := 1) (nn := 0) (o := 1) 20 0 tk_WR_readStretches rfl bb_Tape_peek vv_Tape_peek lk_6_38 (by decide) rfl rfl (Or.inl rfl) (Nat.le_of_ble_eq_true rfl) (s_Tape_peek Γ q4.2 _ hq11) ?_
            show Ev Γ m_WR_readStretches 37 [some (vr 6 0 9), some (vr 1 0 1), some (vi v2)] [vi q5.1] q5.2 r h'
            refine Ev.blk (pc' := 38) (lv' := [some (vr 6 0 9), some (vr 1 0 1), some (vi v2)]) (st' := [vi (ii (-1)), vi q5.1]) (h' := q5.2) 21 1 (Nat.le_of_ble_eq_true rfl) tk_WR_readStretches rfl rfl ⟨trivial, trivial⟩ ?_
            refine Ev.icmp_ne 22 43 tk_WR_readStretches rfl (by decide) (fun hc12 => ?_) (fun hc12 => ?_)
            · replace hx := ia hc12 hx
              refine Ev.blk (pc' := 2) (lv' := [some (vr 6 0 9), some (vr 1 0 1), some (vi (v2 + ii 1))]) (st' := []) (h' := q5.2) 25 2 (Nat.le_of_ble_eq_true rfl) tk_WR_readStretches rfl rfl ⟨trivial, trivial, trivial⟩ ?_
              exact Ev.msk [true, true, true] (ih (v2 + ii 1) q5.2 _ hx r h' hP)
            · replace hx := ip hc12 hx
              refine Ev.blk (pc' := 42) (lv' := [some (vr 6 0 9), some (vr 1 0 1), some (vi v2)]) (st' := [vi (ii 1)]) (h' := q5.2) 23 1 (Nat.le_of_ble_eq_true rfl) tk_WR_readStretches rfl rfl ⟨trivial, trivial⟩ ?_
              obtain rfl := Option.some.inj hx
              obtain ⟨rfl, rfl⟩ := hP
              exact Ev.zret 24 tk_WR_readStretches rfl rfl rfl
          · replace hx := ip hc10 hx
            refine Ev.blk (pc' := 32) (lv' := [some (vr 6 0 9), some (vr 1 0 1), some (vi v2)]) (st' := [vi (ii 0)]) (h' := q4.2) 17 1 (Nat.le_of_ble_eq_true rfl) tk_WR_readStretches rfl rfl ⟨trivial, trivial⟩ ?_
            obtain rfl := Option.some.inj hx
            obtain ⟨rfl, rfl⟩ := hP
            exact Ev.zret 18 tk_WR_readStretches rfl rfl rfl
        · replace hx := ip hc8 hx
          refine Ev.blk (pc' := 22) (lv' := [some (vr 6 0 9), some (vr 1 0 1), some (vi v2)]) (st' := [vi (ii 0)]) (h' := q3.2) 11 1 (Nat.le_of_ble_eq_true rfl) tk_WR_readStretches rfl rfl ⟨trivial, trivial⟩ ?_
          obtain rfl := Option.some.inj hx
          obtain ⟨rfl, rfl⟩ := hP
          exact Ev.zret 12 tk_WR_readStretches rfl rfl rfl
set_option maxRecDepth 4000 in
theorem s_WR_readStretches (Γ : AG) (h : AH) (x : Int32 × AH) (hx : f_WR_readStretches  h = some x) : MetA Γ m_WR_readStretches [vr 6 0 9, vr 1 0 1] h (some (vi x.1)) x.2 := by
  refine Ev.met rfl rfl (Nat.le_of_ble_eq_true rfl) ?_
  show Ev Γ m_WR_readStretches 0 [some (vr 6 0 9), some (vr 1 0 1), none] [] h _ _
  obtain ⟨r, hr⟩ : ∃ r : Option AV, r = some (vi x.1) := ⟨_, rfl⟩
  obtain ⟨h', hh⟩ : ∃ h' : AH, h' = x.2 := ⟨_, rfl⟩
  have hP : r = some (vi x.1) ∧ h' = x.2 := ⟨hr, hh⟩
  suffices hS : Ev Γ m_WR_readStretches 0 [some (vr 6 0 9), some (vr 1 0 1), none] [] h r h' by rw [hr, hh] at hS; exact hS
  clear hr hh
  unfold f_WR_readStretches at hx
  refine Ev.blk (pc' := 2) (lv' := [some (vr 6 0 9), some (vr 1 0 1), some (vi (ii 0))]) (st' := []) (h' := h) 0 2 (Nat.le_of_ble_eq_true rfl) tk_WR_readStretches rfl rfl ⟨trivial, trivial, trivial⟩ ?_
  refine Ev.msk [true, true, true] ?_
  show Ev Γ m_WR_readStretches 2 [some (vr 6 0 9), some (vr 1 0 1), some (vi (ii 0))] [] h r h'
  exact l_WR_readStretches_L2 Γ FU (ii 0) h _ hx r h' hP
set_option maxRecDepth 4000 in
theorem s_WR_faultOf (Γ : AG) (h : AH) (x : Int32 × AH) (hx : f_WR_faultOf  h = some x) : MetA Γ m_WR_faultOf [vr 6 0 9, vr 1 0 1] h (some (vi x.1)) x.2 := by
  refine Ev.met rfl rfl (Nat.le_of_ble_eq_true rfl) ?_
  show Ev Γ m_WR_faultOf 0 [some (vr 6 0 9), some (vr 1 0 1)] [] h _ _
  obtain ⟨r, hr⟩ : ∃ r : Option AV, r = some (vi x.1) := ⟨_, rfl⟩
  obtain ⟨h', hh⟩ : ∃ h' : AH, h' = x.2 := ⟨_, rfl⟩
  have hP : r = some (vi x.1) ∧ h' = x.2 := ⟨hr, hh⟩
  suffices hS : Ev Γ m_WR_faultOf 0 [some (vr 6 0 9), some (vr 1 0 1)] [] h r h' by rw [hr, hh] at hS; exact hS
  clear hr hh
  unfold f_WR_faultOf at hx
  refine Ev.blk (pc' := 15) (lv' := [some (vr 6 0 9), some (vr 1 0 1)]) (st' := [vr 1 0 1, vr 6 0 9]) (h' := (wI (wI h 1 2 (ii 0)) ((wI h 1 2 (ii 0)).2.2 9 0) 1 (ii 0))) 0 9 (Nat.le_of_ble_eq_true rfl) tk_WR_faultOf rfl rfl ⟨trivial, trivial, trivial, trivial, trivial, trivial, trivial, trivial, trivial, trivial⟩ ?_
  obtain ⟨q1, hq1, hx⟩ := bd hx
  refine Ev.callV (ν := m_WR_readStretches) (av := [vr 1 0 1]) (rest := []) (r1 := some (vi q1.1)) (h1 := q1.2) (ci := 6) (nn := 0) (o := 9) 9 1 tk_WR_faultOf rfl bb_WR_readStretches vv_WR_readStretches lk_6_27 (by decide) rfl rfl (Or.inl rfl) (Nat.le_of_ble_eq_true rfl) (s_WR_readStretches Γ (wI (wI h 1 2 (ii 0)) ((wI h 1 2 (ii 0)).2.2 9 0) 1 (ii 0)) _ hq1) ?_
  show Ev Γ m_WR_faultOf 18 [some (vr 6 0 9), some (vr 1 0 1)] [vi q1.1] q1.2 r h'
  refine Ev.if_eq 10 25 tk_WR_faultOf rfl (by decide) (fun hc2 => ?_) (fun hc2 => ?_)
  · replace hx := ip hc2 hx
    refine Ev.blk (pc' := 29) (lv' := [some (vr 6 0 9), some (vr 1 0 1)]) (st' := [vi (q1.2.1 1 2)]) (h' := q1.2) 13 2 (Nat.le_of_ble_eq_true rfl) tk_WR_faultOf rfl rfl ⟨trivial, trivial, trivial⟩ ?_
    obtain rfl := Option.some.inj hx
    obtain ⟨rfl, rfl⟩ := hP
    exact Ev.iret 15 tk_WR_faultOf rfl rfl
  · replace hx := ia hc2 hx
    refine Ev.blk (pc' := 29) (lv' := [some (vr 6 0 9), some (vr 1 0 1)]) (st' := [vi (ii (-1))]) (h' := q1.2) 11 2 (Nat.le_of_ble_eq_true rfl) tk_WR_faultOf rfl rfl ⟨trivial, trivial, trivial⟩ ?_
    obtain rfl := Option.some.inj hx
    obtain ⟨rfl, rfl⟩ := hP
    exact Ev.iret 15 tk_WR_faultOf rfl rfl
set_option maxRecDepth 4000 in
theorem s_HF_fault (Γ : AG) (a1 : Int32) (h : AH) (x : Int32 × AH) (hx : f_HF_fault a1 h = some x) : MetA Γ m_HF_fault [vr 0 0 0, vi a1] h (some (vi x.1)) x.2 := by
  refine Ev.met rfl rfl (Nat.le_of_ble_eq_true rfl) ?_
  show Ev Γ m_HF_fault 0 [some (vr 0 0 0), some (vi a1)] [] h _ _
  obtain ⟨r, hr⟩ : ∃ r : Option AV, r = some (vi x.1) := ⟨_, rfl⟩
  obtain ⟨h', hh⟩ : ∃ h' : AH, h' = x.2 := ⟨_, rfl⟩
  have hP : r = some (vi x.1) ∧ h' = x.2 := ⟨hr, hh⟩
  suffices hS : Ev Γ m_HF_fault 0 [some (vr 0 0 0), some (vi a1)] [] h r h' by rw [hr, hh] at hS; exact hS
  clear hr hh
  unfold f_HF_fault at hx
  refine Ev.blk (pc' := 1) (lv' := [some (vr 0 0 0), some (vi a1)]) (st' := [vi a1]) (h' := h) 0 1 (Nat.le_of_ble_eq_true rfl) tk_HF_fault rfl rfl ⟨trivial, trivial⟩ ?_
  by_cases hc1 : a1 = ii 0
  · replace hx := ip hc1 hx
    refine Ev.tabIn (off := 27) 1 28 0 tk_HF_fault rfl hc1 (by decide) (by decide) ?_
    refine Ev.blk (pc' := 36) (lv' := [some (vr 0 0 0), some (vi a1)]) (st' := [vr 1 0 1, vr 2 0 3]) (h' := h) 2 4 (Nat.le_of_ble_eq_true rfl) tk_HF_fault rfl rfl ⟨trivial, trivial, trivial, trivial, trivial⟩ ?_
    obtain ⟨q1, hq2, hx⟩ := bd hx
    refine Ev.callV (ν := m_HR_faultOf) (av := [vr 1 0 1]) (rest := []) (r1 := some (vi q1.1)) (h1 := q1.2) (ci := 2) (nn := 0) (o := 3) 6 1 tk_HF_fault rfl bb_HR_faultOf vv_HR_faultOf lk_0_121 (by decide) rfl rfl (Or.inl rfl) (Nat.le_of_ble_eq_true rfl) (s_HR_faultOf Γ h _ hq2) ?_
    show Ev Γ m_HF_fault 39 [some (vr 0 0 0), some (vi a1)] [vi q1.1] q1.2 r h'
    obtain rfl := Option.some.inj hx
    obtain ⟨rfl, rfl⟩ := hP
    exact Ev.iret 7 tk_HF_fault rfl rfl
  replace hx := ia hc1 hx
  by_cases hc3 : a1 = ii 1
  · replace hx := ip hc3 hx
    refine Ev.tabIn (off := 39) 1 40 1 tk_HF_fault rfl hc3 (by decide) (by decide) ?_
    refine Ev.blk (pc' := 48) (lv' := [some (vr 0 0 0), some (vi a1)]) (st' := [vr 1 0 1, vr 4 0 8]) (h' := h) 8 4 (Nat.le_of_ble_eq_true rfl) tk_HF_fault rfl rfl ⟨trivial, trivial, trivial, trivial, trivial⟩ ?_
    obtain ⟨q2, hq4, hx⟩ := bd hx
    refine Ev.callV (ν := m_LR_faultOf) (av := [vr 1 0 1]) (rest := []) (r1 := some (vi q2.1)) (h1 := q2.2) (ci := 4) (nn := 0) (o := 8) 12 1 tk_HF_fault rfl bb_LR_faultOf vv_LR_faultOf lk_0_125 (by decide) rfl rfl (Or.inl rfl) (Nat.le_of_ble_eq_true rfl) (s_LR_faultOf Γ h _ hq4) ?_
    show Ev Γ m_HF_fault 51 [some (vr 0 0 0), some (vi a1)] [vi q2.1] q2.2 r h'
    obtain rfl := Option.some.inj hx
    obtain ⟨rfl, rfl⟩ := hP
    exact Ev.iret 13 tk_HF_fault rfl rfl
  replace hx := ia hc3 hx
  by_cases hc5 : a1 = ii 2
  · replace hx := ip hc5 hx
    refine Ev.tabIn (off := 51) 1 52 2 tk_HF_fault rfl hc5 (by decide) (by decide) ?_
    refine Ev.blk (pc' := 60) (lv' := [some (vr 0 0 0), some (vi a1)]) (st' := [vr 1 0 1, vr 6 0 9]) (h' := h) 14 4 (Nat.le_of_ble_eq_true rfl) tk_HF_fault rfl rfl ⟨trivial, trivial, trivial, trivial, trivial⟩ ?_
    obtain ⟨q3, hq6, hx⟩ := bd hx
    refine Ev.callV (ν := m_WR_faultOf) (av := [vr 1 0 1]) (rest := []) (r1 := some (vi q3.1)) (h1 := q3.2) (ci := 6) (nn := 0) (o := 9) 18 1 tk_HF_fault rfl bb_WR_faultOf vv_WR_faultOf lk_0_126 (by decide) rfl rfl (Or.inl rfl) (Nat.le_of_ble_eq_true rfl) (s_WR_faultOf Γ h _ hq6) ?_
    show Ev Γ m_HF_fault 63 [some (vr 0 0 0), some (vi a1)] [vi q3.1] q3.2 r h'
    obtain rfl := Option.some.inj hx
    obtain ⟨rfl, rfl⟩ := hP
    exact Ev.iret 19 tk_HF_fault rfl rfl
  replace hx := ia hc5 hx
  refine Ev.tabOut 1 64 3 tk_HF_fault rfl (by decide) (fun k hk => ?_) (by decide) ?_
  · rcases (show k = 0 ∨ k = 1 ∨ k = 2 by omega) with rfl | rfl | rfl
    · exact hc1
    · exact hc3
    · exact hc5
  · refine Ev.blk (pc' := 66) (lv' := [some (vr 0 0 0), some (vi a1)]) (st' := [vi (ii (-2))]) (h' := h) 20 1 (Nat.le_of_ble_eq_true rfl) tk_HF_fault rfl rfl ⟨trivial, trivial⟩ ?_
    obtain rfl := Option.some.inj hx
    obtain ⟨rfl, rfl⟩ := hP
    exact Ev.iret 21 tk_HF_fault rfl rfl
set_option maxRecDepth 4000 in
theorem s_HR_exchange (Γ : AG) (o1 : Nat) (h : AH) (x : Nat × AH) (hx : f_HR_exchange o1 h = some x) : MetA Γ m_HR_exchange [vr 2 0 3, vr 3 0 o1] h (some (vr 3 0 x.1)) x.2 := by
  refine Ev.met rfl rfl (Nat.le_of_ble_eq_true rfl) ?_
  show Ev Γ m_HR_exchange 0 [some (vr 2 0 3), some (vr 3 0 o1), none] [] h _ _
  obtain ⟨r, hr⟩ : ∃ r : Option AV, r = some (vr 3 0 x.1) := ⟨_, rfl⟩
  obtain ⟨h', hh⟩ : ∃ h' : AH, h' = x.2 := ⟨_, rfl⟩
  have hP : r = some (vr 3 0 x.1) ∧ h' = x.2 := ⟨hr, hh⟩
  suffices hS : Ev Γ m_HR_exchange 0 [some (vr 2 0 3), some (vr 3 0 o1), none] [] h r h' by rw [hr, hh] at hS; exact hS
  clear hr hh
  unfold f_HR_exchange at hx
  refine Ev.blk (pc' := 11) (lv' := [some (vr 2 0 3), some (vr 3 0 o1), some (vr 3 0 (h.2.2 3 4))]) (st' := [vr 3 0 (h.2.2 3 4)]) (h' := (wR h 3 4 o1)) 0 7 (Nat.le_of_ble_eq_true rfl) tk_HR_exchange rfl rfl ⟨trivial, trivial, trivial, trivial, trivial, trivial, trivial, trivial⟩ ?_
  obtain rfl := Option.some.inj hx
  obtain ⟨rfl, rfl⟩ := hP
  exact Ev.aret 7 tk_HR_exchange rfl rfl (Or.inl ⟨_, rfl⟩)
set_option maxRecDepth 4000 in
theorem s_Heath_trait (Γ : AG) (o0 : Nat) (a1 : Int32) (a2 : Int32) (h : AH) (x : Int32) (hx : f_Heath_trait o0 a1 a2 h = some x) : MetA Γ m_Heath_trait [vr 3 0 o0, vi a1, vi a2] h (some (vi x)) h := by
  refine Ev.met rfl rfl (Nat.le_of_ble_eq_true rfl) ?_
  show Ev Γ m_Heath_trait 0 [some (vr 3 0 o0), some (vi a1), some (vi a2)] [] h _ _
  obtain ⟨r, hr⟩ : ∃ r : Option AV, r = some (vi x) := ⟨_, rfl⟩
  obtain ⟨h', hh⟩ : ∃ h' : AH, h' = h := ⟨_, rfl⟩
  have hP : r = some (vi x) ∧ h' = h := ⟨hr, hh⟩
  suffices hS : Ev Γ m_Heath_trait 0 [some (vr 3 0 o0), some (vi a1), some (vi a2)] [] h r h' by rw [hr, hh] at hS; exact hS
  clear hr hh
  unfold f_Heath_trait at hx
  refine Ev.blk (pc' := 2) (lv' := [some (vr 3 0 o0), some (vi a1), some (vi a2)]) (st' := [vi a1, vr 3 0 o0]) (h' := h) 0 2 (Nat.le_of_ble_eq_true rfl) tk_Heath_trait rfl rfl ⟨trivial, trivial, trivial⟩ ?_
  refine Ev.callV (ν := m_Heath_isFork) (av := [vi a1]) (rest := []) (r1 := some (vi (p_Heath_isFork o0 a1 h))) (h1 := h) (ci := 3) (nn := 0) (o := o0) 2 1 tk_Heath_trait rfl bb_Heath_isFork vv_Heath_isFork lk_3_94 (by decide) rfl rfl (Or.inl rfl) (Nat.le_of_ble_eq_true rfl) (s_Heath_isFork Γ o0 a1 h) ?_
  show Ev Γ m_Heath_trait 5 [some (vr 3 0 o0), some (vi a1), some (vi a2)] [vi (p_Heath_isFork o0 a1 h)] h r h'
  refine Ev.if_eq 3 18 tk_Heath_trait rfl (by decide) (fun hc1 => ?_) (fun hc1 => ?_)
  · replace hx := ip hc1 hx
    refine Ev.blk (pc' := 19) (lv' := [some (vr 3 0 o0), some (vi a1), some (vi a2)]) (st' := [vi (ii 0)]) (h' := h) 9 1 (Nat.le_of_ble_eq_true rfl) tk_Heath_trait rfl rfl ⟨trivial, trivial⟩ ?_
    obtain rfl := Option.some.inj hx
    obtain ⟨rfl, rfl⟩ := hP
    exact Ev.iret 10 tk_Heath_trait rfl rfl
  · replace hx := ia hc1 hx
    refine Ev.blk (pc' := 9) (lv' := [some (vr 3 0 o0), some (vi a1), some (vi a2)]) (st' := [vi a2]) (h' := h) 4 1 (Nat.le_of_ble_eq_true rfl) tk_Heath_trait rfl rfl ⟨trivial, trivial⟩ ?_
    refine Ev.if_lt 5 18 tk_Heath_trait rfl (by decide) (fun hc2 => ?_) (fun hc2 => ?_)
    · replace hx := ip hc2 hx
      refine Ev.blk (pc' := 19) (lv' := [some (vr 3 0 o0), some (vi a1), some (vi a2)]) (st' := [vi (ii 0)]) (h' := h) 9 1 (Nat.le_of_ble_eq_true rfl) tk_Heath_trait rfl rfl ⟨trivial, trivial⟩ ?_
      obtain rfl := Option.some.inj hx
      obtain ⟨rfl, rfl⟩ := hP
      exact Ev.iret 10 tk_Heath_trait rfl rfl
    · replace hx := ia hc2 hx
      refine Ev.blk (pc' := 15) (lv' := [some (vr 3 0 o0), some (vi a1), some (vi a2)]) (st' := [vi (ii 6), vi a2]) (h' := h) 6 2 (Nat.le_of_ble_eq_true rfl) tk_Heath_trait rfl rfl ⟨trivial, trivial, trivial⟩ ?_
      refine Ev.icmp_lt 8 20 tk_Heath_trait rfl (by decide) (fun hc3 => ?_) (fun hc3 => ?_)
      · replace hx := ip hc3 hx
        obtain ⟨hg4, hx⟩ := gd hx
        refine Ev.blk (pc' := 31) (lv' := [some (vr 3 0 o0), some (vi a1), some (vi a2)]) (st' := [vi (h.1 (o0 + 5) ((a1 * (ii 6)) + a2).toNatClampNeg)]) (h' := h) 11 8 (Nat.le_of_ble_eq_true rfl) tk_Heath_trait rfl rfl ⟨trivial, trivial, trivial, trivial, trivial, trivial, trivial, hg4, trivial⟩ ?_
        obtain rfl := Option.some.inj hx
        obtain ⟨rfl, rfl⟩ := hP
        exact Ev.iret 19 tk_Heath_trait rfl rfl
      · replace hx := ia hc3 hx
        refine Ev.blk (pc' := 19) (lv' := [some (vr 3 0 o0), some (vi a1), some (vi a2)]) (st' := [vi (ii 0)]) (h' := h) 9 1 (Nat.le_of_ble_eq_true rfl) tk_Heath_trait rfl rfl ⟨trivial, trivial⟩ ?_
        obtain rfl := Option.some.inj hx
        obtain ⟨rfl, rfl⟩ := hP
        exact Ev.iret 10 tk_Heath_trait rfl rfl
set_option maxRecDepth 4000 in
theorem s_Moor_move (Γ : AG) (o0 : Nat) (a1 : Int32) (a2 : Int32) (a3 : Int32) (h : AH) (x : AH) (hx : f_Moor_move o0 a1 a2 a3 h = some x) : MetA Γ m_Moor_move [vr 8 0 o0, vi a1, vi a2, vi a3] h (none) x := by
  refine Ev.met rfl rfl (Nat.le_of_ble_eq_true rfl) ?_
  show Ev Γ m_Moor_move 0 [some (vr 8 0 o0), some (vi a1), some (vi a2), some (vi a3)] [] h _ _
  obtain ⟨r, hr⟩ : ∃ r : Option AV, r = none := ⟨_, rfl⟩
  obtain ⟨h', hh⟩ : ∃ h' : AH, h' = x := ⟨_, rfl⟩
  have hP : r = none ∧ h' = x := ⟨hr, hh⟩
  suffices hS : Ev Γ m_Moor_move 0 [some (vr 8 0 o0), some (vi a1), some (vi a2), some (vi a3)] [] h r h' by rw [hr, hh] at hS; exact hS
  clear hr hh
  unfold f_Moor_move at hx
  refine Ev.blk (pc' := 1) (lv' := [some (vr 8 0 o0), some (vi a1), some (vi a2), some (vi a3)]) (st' := [vi a1]) (h' := h) 0 1 (Nat.le_of_ble_eq_true rfl) tk_Moor_move rfl rfl ⟨trivial, trivial⟩ ?_
  refine Ev.if_lt 1 39 tk_Moor_move rfl (by decide) (fun hc1 => ?_) (fun hc1 => ?_)
  · replace hx := ip hc1 hx
    obtain rfl := Option.some.inj hx
    obtain ⟨rfl, rfl⟩ := hP
    exact Ev.vret 24 tk_Moor_move rfl rfl
  · replace hx := ia hc1 hx
    refine Ev.blk (pc' := 7) (lv' := [some (vr 8 0 o0), some (vi a1), some (vi a2), some (vi a3)]) (st' := [vi (ii 6), vi a1]) (h' := h) 2 2 (Nat.le_of_ble_eq_true rfl) tk_Moor_move rfl rfl ⟨trivial, trivial, trivial⟩ ?_
    refine Ev.icmp_ge 4 39 tk_Moor_move rfl (by decide) (fun hc2 => ?_) (fun hc2 => ?_)
    · replace hx := ip hc2 hx
      obtain rfl := Option.some.inj hx
      obtain ⟨rfl, rfl⟩ := hP
      exact Ev.vret 24 tk_Moor_move rfl rfl
    · replace hx := ia hc2 hx
      refine Ev.blk (pc' := 11) (lv' := [some (vr 8 0 o0), some (vi a1), some (vi a2), some (vi a3)]) (st' := [vi a3]) (h' := h) 5 1 (Nat.le_of_ble_eq_true rfl) tk_Moor_move rfl rfl ⟨trivial, trivial⟩ ?_
      refine Ev.if_eq 6 19 tk_Moor_move rfl (by decide) (fun hc3 => ?_) (fun hc3 => ?_)
      · replace hx := ip hc3 hx
        obtain ⟨hg4, hx⟩ := gd hx
        obtain ⟨hg5, hx⟩ := gd hx
        refine Ev.blk (pc' := 34) (lv' := [some (vr 8 0 o0), some (vi a1), some (vi a2), some (vi a3)]) (st' := [vi a2, vi ((wI h (o0 + 1) a1.toNatClampNeg a2).1 (o0 + 3) (a3).toNatClampNeg), vi a3, vr 20 2 (o0 + 3)]) (h' := (wI h (o0 + 1) a1.toNatClampNeg a2)) 10 11 (Nat.le_of_ble_eq_true rfl) tk_Moor_move rfl rfl ⟨trivial, trivial, trivial, trivial, hg4, trivial, trivial, trivial, trivial, hg5, trivial, trivial⟩ ?_
        refine Ev.callSN (ν := m_HF_bit) (av := [vi a2]) (rest := [vi ((wI h (o0 + 1) a1.toNatClampNeg a2).1 (o0 + 3) (a3).toNatClampNeg), vi a3, vr 20 2 (o0 + 3)]) (r1 := some (vi (p_HF_bit a2))) (h1 := (wI h (o0 + 1) a1.toNatClampNeg a2)) 21 1 tk_Moor_move rfl bb_HF_bit vv_HF_bit lk_8_64 (by decide) rfl rfl (Nat.le_of_ble_eq_true rfl) (s_HF_bit Γ a2 (wI h (o0 + 1) a1.toNatClampNeg a2)) ?_
        show Ev Γ m_Moor_move 37 [some (vr 8 0 o0), some (vi a1), some (vi a2), some (vi a3)] [vi (p_HF_bit a2), vi ((wI h (o0 + 1) a1.toNatClampNeg a2).1 (o0 + 3) (a3).toNatClampNeg), vi a3, vr 20 2 (o0 + 3)] (wI h (o0 + 1) a1.toNatClampNeg a2) r h'
        obtain ⟨hg6, hx⟩ := gd hx
        refine Ev.blk (pc' := 39) (lv' := [some (vr 8 0 o0), some (vi a1), some (vi a2), some (vi a3)]) (st' := []) (h' := (wI (wI h (o0 + 1) a1.toNatClampNeg a2) (o0 + 3) a3.toNatClampNeg (((wI h (o0 + 1) a1.toNatClampNeg a2).1 (o0 + 3) (a3).toNatClampNeg) ||| (p_HF_bit a2)))) 22 2 (Nat.le_of_ble_eq_true rfl) tk_Moor_move rfl rfl ⟨trivial, hg6, trivial⟩ ?_
        obtain rfl := Option.some.inj hx
        obtain ⟨rfl, rfl⟩ := hP
        exact Ev.vret 24 tk_Moor_move rfl rfl
      · replace hx := ia hc3 hx
        refine Ev.blk (pc' := 16) (lv' := [some (vr 8 0 o0), some (vi a1), some (vi a2), some (vi a3)]) (st' := [vi (ii 1), vi a3]) (h' := h) 7 2 (Nat.le_of_ble_eq_true rfl) tk_Moor_move rfl rfl ⟨trivial, trivial, trivial⟩ ?_
        refine Ev.icmp_ne 9 39 tk_Moor_move rfl (by decide) (fun hc7 => ?_) (fun hc7 => ?_)
        · replace hx := ia hc7 hx
          obtain rfl := Option.some.inj hx
          obtain ⟨rfl, rfl⟩ := hP
          exact Ev.vret 24 tk_Moor_move rfl rfl
        · replace hx := ip hc7 hx
          obtain ⟨hg8, hx⟩ := gd hx
          obtain ⟨hg9, hx⟩ := gd hx
          refine Ev.blk (pc' := 34) (lv' := [some (vr 8 0 o0), some (vi a1), some (vi a2), some (vi a3)]) (st' := [vi a2, vi ((wI h (o0 + 1) a1.toNatClampNeg a2).1 (o0 + 3) (a3).toNatClampNeg), vi a3, vr 20 2 (o0 + 3)]) (h' := (wI h (o0 + 1) a1.toNatClampNeg a2)) 10 11 (Nat.le_of_ble_eq_true rfl) tk_Moor_move rfl rfl ⟨trivial, trivial, trivial, trivial, hg8, trivial, trivial, trivial, trivial, hg9, trivial, trivial⟩ ?_
          refine Ev.callSN (ν := m_HF_bit) (av := [vi a2]) (rest := [vi ((wI h (o0 + 1) a1.toNatClampNeg a2).1 (o0 + 3) (a3).toNatClampNeg), vi a3, vr 20 2 (o0 + 3)]) (r1 := some (vi (p_HF_bit a2))) (h1 := (wI h (o0 + 1) a1.toNatClampNeg a2)) 21 1 tk_Moor_move rfl bb_HF_bit vv_HF_bit lk_8_64 (by decide) rfl rfl (Nat.le_of_ble_eq_true rfl) (s_HF_bit Γ a2 (wI h (o0 + 1) a1.toNatClampNeg a2)) ?_
          show Ev Γ m_Moor_move 37 [some (vr 8 0 o0), some (vi a1), some (vi a2), some (vi a3)] [vi (p_HF_bit a2), vi ((wI h (o0 + 1) a1.toNatClampNeg a2).1 (o0 + 3) (a3).toNatClampNeg), vi a3, vr 20 2 (o0 + 3)] (wI h (o0 + 1) a1.toNatClampNeg a2) r h'
          obtain ⟨hg10, hx⟩ := gd hx
          refine Ev.blk (pc' := 39) (lv' := [some (vr 8 0 o0), some (vi a1), some (vi a2), some (vi a3)]) (st' := []) (h' := (wI (wI h (o0 + 1) a1.toNatClampNeg a2) (o0 + 3) a3.toNatClampNeg (((wI h (o0 + 1) a1.toNatClampNeg a2).1 (o0 + 3) (a3).toNatClampNeg) ||| (p_HF_bit a2)))) 22 2 (Nat.le_of_ble_eq_true rfl) tk_Moor_move rfl rfl ⟨trivial, hg10, trivial⟩ ?_
          obtain rfl := Option.some.inj hx
          obtain ⟨rfl, rfl⟩ := hP
          exact Ev.vret 24 tk_Moor_move rfl rfl
set_option maxRecDepth 4000 in
theorem l_Moor_begin_L22 (Γ : AG) : ∀ (n : Nat) (o0 : Nat) (o1 : Nat) (v2 : Int32) (h : AH) (x : AH), Moor_begin_L22 n o0 o1 v2 h = some x → ∀ (r : Option AV) (h' : AH), Ev Γ m_Moor_begin 41 [some (vr 8 0 o0), some (vr 3 0 o1), none] [] x r h' → Ev Γ m_Moor_begin 22 [some (vr 8 0 o0), some (vr 3 0 o1), some (vi v2)] [] h r h' := by
  intro n
  induction n with
  | zero => intro o0 o1 v2 h x hx; cases hx
  | succ n ih =>
    intro o0 o1 v2 h x hx r h' hP
    replace hx : Moor_begin_L22_b (Moor_begin_L22 n) o0 o1 v2 h = some x := hx
    unfold Moor_begin_L22_b at hx
    refine Ev.blk (pc' := 25) (lv' := [some (vr 8 0 o0), some (vr 3 0 o1), some (vi v2)]) (st' := [vi (ii 30), vi v2]) (h' := h) 14 2 (Nat.le_of_ble_eq_true rfl) tk_Moor_begin rfl rfl ⟨trivial, trivial, trivial⟩ ?_
    refine Ev.icmp_ge 16 41 tk_Moor_begin rfl (by decide) (fun hc1 => ?_) (fun hc1 => ?_)
    · replace hx := ip hc1 hx
      obtain rfl := Option.some.inj hx
      exact Ev.msk [true, true, false] hP
    · replace hx := ia hc1 hx
      obtain ⟨hg2, hx⟩ := gd hx
      refine Ev.blk (pc' := 22) (lv' := [some (vr 8 0 o0), some (vr 3 0 o1), some (vi (v2 + ii 1))]) (st' := []) (h' := (wI h (o0 + 5) v2.toNatClampNeg (ii 0))) 17 7 (Nat.le_of_ble_eq_true rfl) tk_Moor_begin rfl rfl ⟨trivial, trivial, trivial, trivial, hg2, trivial, trivial, trivial⟩ ?_
      exact Ev.msk [true, true, true] (ih o0 o1 (v2 + ii 1) (wI h (o0 + 5) v2.toNatClampNeg (ii 0)) _ hx r h' hP)
set_option maxRecDepth 4000 in
theorem l_Moor_begin_L57 (Γ : AG) : ∀ (n : Nat) (o0 : Nat) (o1 : Nat) (v2 : Int32) (h : AH) (x : AH), Moor_begin_L57 n o0 o1 v2 h = some x → ∀ (r : Option AV) (h' : AH), r = none ∧ h' = x → Ev Γ m_Moor_begin 57 [some (vr 8 0 o0), some (vr 3 0 o1), some (vi v2)] [] h r h' := by
  intro n
  induction n with
  | zero => intro o0 o1 v2 h x hx; cases hx
  | succ n ih =>
    intro o0 o1 v2 h x hx r h' hP
    replace hx : Moor_begin_L57_b (Moor_begin_L57 n) o0 o1 v2 h = some x := hx
    unfold Moor_begin_L57_b at hx
    refine Ev.blk (pc' := 60) (lv' := [some (vr 8 0 o0), some (vr 3 0 o1), some (vi v2)]) (st' := [vi (ii 6), vi v2]) (h' := h) 36 2 (Nat.le_of_ble_eq_true rfl) tk_Moor_begin rfl rfl ⟨trivial, trivial, trivial⟩ ?_
    refine Ev.icmp_ge 38 108 tk_Moor_begin rfl (by decide) (fun hc1 => ?_) (fun hc1 => ?_)
    · replace hx := ip hc1 hx
      obtain rfl := Option.some.inj hx
      obtain ⟨rfl, rfl⟩ := hP
      exact Ev.vret 66 tk_Moor_begin rfl rfl
    · replace hx := ia hc1 hx
      obtain ⟨hg2, hx⟩ := gd hx
      obtain ⟨hg3, hx⟩ := gd hx
      refine Ev.blk (pc' := 79) (lv' := [some (vr 8 0 o0), some (vr 3 0 o1), some (vi v2)]) (st' := [vi v2, vr 3 0 o1]) (h' := (wI (wI h (o0 + 2) v2.toNatClampNeg (ii 0)) (o0 + 1) v2.toNatClampNeg (ii (-1)))) 39 12 (Nat.le_of_ble_eq_true rfl) tk_Moor_begin rfl rfl ⟨trivial, trivial, trivial, trivial, hg2, trivial, trivial, trivial, trivial, hg3, trivial, trivial, trivial⟩ ?_
      refine Ev.callV (ν := m_Heath_isFork) (av := [vi v2]) (rest := []) (r1 := some (vi (p_Heath_isFork o1 v2 (wI (wI h (o0 + 2) v2.toNatClampNeg (ii 0)) (o0 + 1) v2.toNatClampNeg (ii (-1)))))) (h1 := (wI (wI h (o0 + 2) v2.toNatClampNeg (ii 0)) (o0 + 1) v2.toNatClampNeg (ii (-1)))) (ci := 3) (nn := 0) (o := o1) 51 1 tk_Moor_begin rfl bb_Heath_isFork vv_Heath_isFork lk_8_40 (by decide) rfl rfl (Or.inl rfl) (Nat.le_of_ble_eq_true rfl) (s_Heath_isFork Γ o1 v2 (wI (wI h (o0 + 2) v2.toNatClampNeg (ii 0)) (o0 + 1) v2.toNatClampNeg (ii (-1)))) ?_
      show Ev Γ m_Moor_begin 82 [some (vr 8 0 o0), some (vr 3 0 o1), some (vi v2)] [vi (p_Heath_isFork o1 v2 (wI (wI h (o0 + 2) v2.toNatClampNeg (ii 0)) (o0 + 1) v2.toNatClampNeg (ii (-1))))] (wI (wI h (o0 + 2) v2.toNatClampNeg (ii 0)) (o0 + 1) v2.toNatClampNeg (ii (-1))) r h'
      obtain ⟨q4, hq4, hx⟩ := bd hx
      have K5 : Ev Γ m_Moor_begin 102 [some (vr 8 0 o0), some (vr 3 0 o1), some (vi v2)] [] q4 r h' := by
        refine Ev.blk (pc' := 57) (lv' := [some (vr 8 0 o0), some (vr 3 0 o1), some (vi (v2 + ii 1))]) (st' := []) (h' := q4) 64 2 (Nat.le_of_ble_eq_true rfl) tk_Moor_begin rfl rfl ⟨trivial, trivial, trivial⟩ ?_
        exact Ev.msk [true, true, true] (ih o0 o1 (v2 + ii 1) q4 _ hx r h' hP)
      clear hx
      refine Ev.if_eq 52 102 tk_Moor_begin rfl (by decide) (fun hc6 => ?_) (fun hc6 => ?_)
      · replace hq4 := ip hc6 hq4
        obtain rfl := Option.some.inj hq4
        exact Ev.msk [true, true, true] K5
      · replace hq4 := ia hc6 hq4
        refine Ev.blk (pc' := 90) (lv' := [some (vr 8 0 o0), some (vr 3 0 o1), some (vi v2)]) (st' := [vi (ii 0), vi v2, vr 3 0 o1, vi v2, vr 8 0 o0]) (h' := (wI (wI h (o0 + 2) v2.toNatClampNeg (ii 0)) (o0 + 1) v2.toNatClampNeg (ii (-1)))) 53 5 (Nat.le_of_ble_eq_true rfl) tk_Moor_begin rfl rfl ⟨trivial, trivial, trivial, trivial, trivial, trivial⟩ ?_
        obtain ⟨q1, hq7, hq4⟩ := bd hq4
        refine Ev.callV (ν := m_Heath_trait) (av := [vi v2, vi (ii 0)]) (rest := [vi v2, vr 8 0 o0]) (r1 := some (vi q1)) (h1 := (wI (wI h (o0 + 2) v2.toNatClampNeg (ii 0)) (o0 + 1) v2.toNatClampNeg (ii (-1)))) (ci := 3) (nn := 0) (o := o1) 58 2 tk_Moor_begin rfl bb_Heath_trait vv_Heath_trait lk_8_46 (by decide) rfl rfl (Or.inl rfl) (Nat.le_of_ble_eq_true rfl) (s_Heath_trait Γ o1 v2 (ii 0) (wI (wI h (o0 + 2) v2.toNatClampNeg (ii 0)) (o0 + 1) v2.toNatClampNeg (ii (-1))) _ hq7) ?_
        show Ev Γ m_Moor_begin 93 [some (vr 8 0 o0), some (vr 3 0 o1), some (vi v2)] [vi q1, vi v2, vr 8 0 o0] (wI (wI h (o0 + 2) v2.toNatClampNeg (ii 0)) (o0 + 1) v2.toNatClampNeg (ii (-1))) r h'
        refine Ev.blk (pc' := 96) (lv' := [some (vr 8 0 o0), some (vr 3 0 o1), some (vi v2)]) (st' := [vi (ii 5), vi v2, vr 3 0 o1, vi q1, vi v2, vr 8 0 o0]) (h' := (wI (wI h (o0 + 2) v2.toNatClampNeg (ii 0)) (o0 + 1) v2.toNatClampNeg (ii (-1)))) 59 3 (Nat.le_of_ble_eq_true rfl) tk_Moor_begin rfl rfl ⟨trivial, trivial, trivial, trivial⟩ ?_
        obtain ⟨q2, hq8, hq4⟩ := bd hq4
        refine Ev.callV (ν := m_Heath_trait) (av := [vi v2, vi (ii 5)]) (rest := [vi q1, vi v2, vr 8 0 o0]) (r1 := some (vi q2)) (h1 := (wI (wI h (o0 + 2) v2.toNatClampNeg (ii 0)) (o0 + 1) v2.toNatClampNeg (ii (-1)))) (ci := 3) (nn := 0) (o := o1) 62 2 tk_Moor_begin rfl bb_Heath_trait vv_Heath_trait lk_8_46 (by decide) rfl rfl (Or.inl rfl) (Nat.le_of_ble_eq_true rfl) (s_Heath_trait Γ o1 v2 (ii 5) (wI (wI h (o0 + 2) v2.toNatClampNeg (ii 0)) (o0 + 1) v2.toNatClampNeg (ii (-1))) _ hq8) ?_
        show Ev Γ m_Moor_begin 99 [some (vr 8 0 o0), some (vr 3 0 o1), some (vi v2)] [vi q2, vi q1, vi v2, vr 8 0 o0] (wI (wI h (o0 + 2) v2.toNatClampNeg (ii 0)) (o0 + 1) v2.toNatClampNeg (ii (-1))) r h'
        obtain ⟨q3, hq9, hq4⟩ := bd hq4
        refine Ev.callV (ν := m_Moor_move) (av := [vi v2, vi q1, vi q2]) (rest := []) (r1 := none) (h1 := q3) (ci := 8) (nn := 0) (o := o0) 63 3 tk_Moor_begin rfl bb_Moor_move vv_Moor_move lk_8_50 (by decide) rfl rfl (Or.inl rfl) (Nat.le_of_ble_eq_true rfl) (s_Moor_move Γ o0 v2 q1 q2 (wI (wI h (o0 + 2) v2.toNatClampNeg (ii 0)) (o0 + 1) v2.toNatClampNeg (ii (-1))) _ hq9) ?_
        show Ev Γ m_Moor_begin 102 [some (vr 8 0 o0), some (vr 3 0 o1), some (vi v2)] [] q3 r h'
        obtain rfl := Option.some.inj hq4
        exact Ev.msk [true, true, true] K5
set_option maxRecDepth 4000 in
theorem s_Moor_begin (Γ : AG) (o0 : Nat) (o1 : Nat) (h : AH) (x : AH) (hx : f_Moor_begin o0 o1 h = some x) : MetA Γ m_Moor_begin [vr 8 0 o0, vr 3 0 o1] h (none) x := by
  refine Ev.met rfl rfl (Nat.le_of_ble_eq_true rfl) ?_
  show Ev Γ m_Moor_begin 0 [some (vr 8 0 o0), some (vr 3 0 o1), none] [] h _ _
  obtain ⟨r, hr⟩ : ∃ r : Option AV, r = none := ⟨_, rfl⟩
  obtain ⟨h', hh⟩ : ∃ h' : AH, h' = x := ⟨_, rfl⟩
  have hP : r = none ∧ h' = x := ⟨hr, hh⟩
  suffices hS : Ev Γ m_Moor_begin 0 [some (vr 8 0 o0), some (vr 3 0 o1), none] [] h r h' by rw [hr, hh] at hS; exact hS
  clear hr hh
  unfold f_Moor_begin at hx
  refine Ev.blk (pc' := 22) (lv' := [some (vr 8 0 o0), some (vr 3 0 o1), some (vi (ii 0))]) (st' := []) (h' := (wI (wI (wI (wI h o0 5 (ii 0)) o0 6 (ii 0)) o0 7 (ii 0)) o0 8 (ii 0))) 0 14 (Nat.le_of_ble_eq_true rfl) tk_Moor_begin rfl rfl ⟨trivial, trivial, trivial, trivial, trivial, trivial, trivial, trivial, trivial, trivial, trivial, trivial, trivial, trivial, trivial⟩ ?_
  obtain ⟨q1, hq1, hx⟩ := bd hx
  refine Ev.msk [true, true, true] ?_
  show Ev Γ m_Moor_begin 22 [some (vr 8 0 o0), some (vr 3 0 o1), some (vi (ii 0))] [] (wI (wI (wI (wI h o0 5 (ii 0)) o0 6 (ii 0)) o0 7 (ii 0)) o0 8 (ii 0)) r h'
  refine l_Moor_begin_L22 Γ FU o0 o1 (ii 0) (wI (wI (wI (wI h o0 5 (ii 0)) o0 6 (ii 0)) o0 7 (ii 0)) o0 8 (ii 0)) _ hq1 r h' ?_
  show Ev Γ m_Moor_begin 41 [some (vr 8 0 o0), some (vr 3 0 o1), none] [] q1 r h'
  obtain ⟨hg2, hx⟩ := gd hx
  obtain ⟨hg3, hx⟩ := gd hx
  refine Ev.blk (pc' := 57) (lv' := [some (vr 8 0 o0), some (vr 3 0 o1), some (vi (ii 0))]) (st' := []) (h' := (wI (wI q1 (o0 + 3) (ii 0).toNatClampNeg (ii 0)) (o0 + 3) (ii 1).toNatClampNeg (ii 0))) 24 12 (Nat.le_of_ble_eq_true rfl) tk_Moor_begin rfl rfl ⟨trivial, trivial, trivial, trivial, hg2, trivial, trivial, trivial, trivial, hg3, trivial, trivial, trivial⟩ ?_
  refine Ev.msk [true, true, true] ?_
  show Ev Γ m_Moor_begin 57 [some (vr 8 0 o0), some (vr 3 0 o1), some (vi (ii 0))] [] (wI (wI q1 (o0 + 3) (ii 0).toNatClampNeg (ii 0)) (o0 + 3) (ii 1).toNatClampNeg (ii 0)) r h'
  exact l_Moor_begin_L57 Γ FU o0 o1 (ii 0) (wI (wI q1 (o0 + 3) (ii 0).toNatClampNeg (ii 0)) (o0 + 3) (ii 1).toNatClampNeg (ii 0)) _ hx r h' hP
set_option maxRecDepth 4000 in
theorem s_Acts_clear (Γ : AG) (h : AH) (x : AH) (hx : f_Acts_clear  h = some x) : MetA Γ m_Acts_clear [vr 9 0 31] h (none) x := by
  refine Ev.met rfl rfl (Nat.le_of_ble_eq_true rfl) ?_
  show Ev Γ m_Acts_clear 0 [some (vr 9 0 31)] [] h _ _
  obtain ⟨r, hr⟩ : ∃ r : Option AV, r = none := ⟨_, rfl⟩
  obtain ⟨h', hh⟩ : ∃ h' : AH, h' = x := ⟨_, rfl⟩
  have hP : r = none ∧ h' = x := ⟨hr, hh⟩
  suffices hS : Ev Γ m_Acts_clear 0 [some (vr 9 0 31)] [] h r h' by rw [hr, hh] at hS; exact hS
  clear hr hh
  unfold f_Acts_clear at hx
  refine Ev.blk (pc' := 5) (lv' := [some (vr 9 0 31)]) (st' := []) (h' := (wI h 31 1 (ii 0))) 0 3 (Nat.le_of_ble_eq_true rfl) tk_Acts_clear rfl rfl ⟨trivial, trivial, trivial, trivial⟩ ?_
  obtain rfl := Option.some.inj hx
  obtain ⟨rfl, rfl⟩ := hP
  exact Ev.vret 3 tk_Acts_clear rfl rfl
set_option maxRecDepth 4000 in
theorem s_HF_takeHeath (Γ : AG) (h : AH) (x : Int32 × AH) (hx : f_HF_takeHeath  h = some x) : MetA Γ m_HF_takeHeath [vr 0 0 0] h (some (vi x.1)) x.2 := by
  refine Ev.met rfl rfl (Nat.le_of_ble_eq_true rfl) ?_
  show Ev Γ m_HF_takeHeath 0 [some (vr 0 0 0)] [] h _ _
  obtain ⟨r, hr⟩ : ∃ r : Option AV, r = some (vi x.1) := ⟨_, rfl⟩
  obtain ⟨h', hh⟩ : ∃ h' : AH, h' = x.2 := ⟨_, rfl⟩
  have hP : r = some (vi x.1) ∧ h' = x.2 := ⟨hr, hh⟩
  suffices hS : Ev Γ m_HF_takeHeath 0 [some (vr 0 0 0)] [] h r h' by rw [hr, hh] at hS; exact hS
  clear hr hh
  unfold f_HF_takeHeath at hx
  refine Ev.blk (pc' := 9) (lv' := [some (vr 0 0 0)]) (st' := [vr 3 0 (h.2.2 0 13), vr 2 0 3, vr 0 0 0]) (h' := h) 0 5 (Nat.le_of_ble_eq_true rfl) tk_HF_takeHeath rfl rfl ⟨trivial, trivial, trivial, trivial, trivial, trivial⟩ ?_
  obtain ⟨q1, hq1, hx⟩ := bd hx
  refine Ev.callV (ν := m_HR_exchange) (av := [vr 3 0 (h.2.2 0 13)]) (rest := [vr 0 0 0]) (r1 := some (vr 3 0 q1.1)) (h1 := q1.2) (ci := 2) (nn := 0) (o := 3) 5 1 tk_HF_takeHeath rfl bb_HR_exchange vv_HR_exchange lk_0_400 (by decide) rfl rfl (Or.inl rfl) (Nat.le_of_ble_eq_true rfl) (s_HR_exchange Γ (h.2.2 0 13) h _ hq1) ?_
  show Ev Γ m_HF_takeHeath 12 [some (vr 0 0 0)] [vr 3 0 q1.1, vr 0 0 0] q1.2 r h'
  refine Ev.blk (pc' := 31) (lv' := [some (vr 0 0 0)]) (st' := [vr 3 0 ((wI (wR q1.2 0 13 q1.1) 1 1 (ii 0)).2.2 0 13), vr 8 0 13]) (h' := (wI (wR q1.2 0 13 q1.1) 1 1 (ii 0))) 6 9 (Nat.le_of_ble_eq_true rfl) tk_HF_takeHeath rfl rfl ⟨trivial, trivial, trivial, trivial, trivial, trivial, trivial, trivial, trivial, trivial⟩ ?_
  obtain ⟨q2, hq2, hx⟩ := bd hx
  refine Ev.callV (ν := m_Moor_begin) (av := [vr 3 0 ((wI (wR q1.2 0 13 q1.1) 1 1 (ii 0)).2.2 0 13)]) (rest := []) (r1 := none) (h1 := q2) (ci := 8) (nn := 0) (o := 13) 15 1 tk_HF_takeHeath rfl bb_Moor_begin vv_Moor_begin lk_0_404 (by decide) rfl rfl (Or.inl rfl) (Nat.le_of_ble_eq_true rfl) (s_Moor_begin Γ 13 ((wI (wR q1.2 0 13 q1.1) 1 1 (ii 0)).2.2 0 13) (wI (wR q1.2 0 13 q1.1) 1 1 (ii 0)) _ hq2) ?_
  show Ev Γ m_HF_takeHeath 34 [some (vr 0 0 0)] [] q2 r h'
  refine Ev.blk (pc' := 38) (lv' := [some (vr 0 0 0)]) (st' := [vr 9 0 31]) (h' := q2) 16 2 (Nat.le_of_ble_eq_true rfl) tk_HF_takeHeath rfl rfl ⟨trivial, trivial, trivial⟩ ?_
  obtain ⟨q3, hq3, hx⟩ := bd hx
  refine Ev.callV (ν := m_Acts_clear) (av := []) (rest := []) (r1 := none) (h1 := q3) (ci := 9) (nn := 0) (o := 31) 18 0 tk_HF_takeHeath rfl bb_Acts_clear vv_Acts_clear lk_0_385 (by decide) rfl rfl (Or.inl rfl) (Nat.le_of_ble_eq_true rfl) (s_Acts_clear Γ q2 _ hq3) ?_
  show Ev Γ m_HF_takeHeath 41 [some (vr 0 0 0)] [] q3 r h'
  refine Ev.blk (pc' := 61) (lv' := [some (vr 0 0 0)]) (st' := [vi ((wI (wI q3 33 5 (ii 0)) 0 17 (ii 0)).1 ((wI (wI q3 33 5 (ii 0)) 0 17 (ii 0)).2.2 0 13) 9)]) (h' := (wI (wI q3 33 5 (ii 0)) 0 17 (ii 0))) 19 10 (Nat.le_of_ble_eq_true rfl) tk_HF_takeHeath rfl rfl ⟨trivial, trivial, trivial, trivial, trivial, trivial, (by decide), trivial, trivial, trivial, trivial⟩ ?_
  obtain rfl := Option.some.inj hx
  obtain ⟨rfl, rfl⟩ := hP
  exact Ev.iret 29 tk_HF_takeHeath rfl rfl
set_option maxRecDepth 4000 in
theorem s_LR_exchange (Γ : AG) (o1 : Nat) (h : AH) (x : Nat × AH) (hx : f_LR_exchange o1 h = some x) : MetA Γ m_LR_exchange [vr 4 0 8, vr 5 0 o1] h (some (vr 5 0 x.1)) x.2 := by
  refine Ev.met rfl rfl (Nat.le_of_ble_eq_true rfl) ?_
  show Ev Γ m_LR_exchange 0 [some (vr 4 0 8), some (vr 5 0 o1), none] [] h _ _
  obtain ⟨r, hr⟩ : ∃ r : Option AV, r = some (vr 5 0 x.1) := ⟨_, rfl⟩
  obtain ⟨h', hh⟩ : ∃ h' : AH, h' = x.2 := ⟨_, rfl⟩
  have hP : r = some (vr 5 0 x.1) ∧ h' = x.2 := ⟨hr, hh⟩
  suffices hS : Ev Γ m_LR_exchange 0 [some (vr 4 0 8), some (vr 5 0 o1), none] [] h r h' by rw [hr, hh] at hS; exact hS
  clear hr hh
  unfold f_LR_exchange at hx
  refine Ev.blk (pc' := 11) (lv' := [some (vr 4 0 8), some (vr 5 0 o1), some (vr 5 0 (h.2.2 8 0))]) (st' := [vr 5 0 (h.2.2 8 0)]) (h' := (wR h 8 0 o1)) 0 7 (Nat.le_of_ble_eq_true rfl) tk_LR_exchange rfl rfl ⟨trivial, trivial, trivial, trivial, trivial, trivial, trivial, trivial⟩ ?_
  obtain rfl := Option.some.inj hx
  obtain ⟨rfl, rfl⟩ := hP
  exact Ev.aret 7 tk_LR_exchange rfl rfl (Or.inl ⟨_, rfl⟩)
set_option maxRecDepth 4000 in
theorem s_HF_takeLaw (Γ : AG) (h : AH) (x : Int32 × AH) (hx : f_HF_takeLaw  h = some x) : MetA Γ m_HF_takeLaw [vr 0 0 0] h (some (vi x.1)) x.2 := by
  refine Ev.met rfl rfl (Nat.le_of_ble_eq_true rfl) ?_
  show Ev Γ m_HF_takeLaw 0 [some (vr 0 0 0)] [] h _ _
  obtain ⟨r, hr⟩ : ∃ r : Option AV, r = some (vi x.1) := ⟨_, rfl⟩
  obtain ⟨h', hh⟩ : ∃ h' : AH, h' = x.2 := ⟨_, rfl⟩
  have hP : r = some (vi x.1) ∧ h' = x.2 := ⟨hr, hh⟩
  suffices hS : Ev Γ m_HF_takeLaw 0 [some (vr 0 0 0)] [] h r h' by rw [hr, hh] at hS; exact hS
  clear hr hh
  unfold f_HF_takeLaw at hx
  refine Ev.blk (pc' := 4) (lv' := [some (vr 0 0 0)]) (st' := [vi (h.1 0 14)]) (h' := h) 0 2 (Nat.le_of_ble_eq_true rfl) tk_HF_takeLaw rfl rfl ⟨trivial, trivial, trivial⟩ ?_
  refine Ev.if_lt 2 19 tk_HF_takeLaw rfl (by decide) (fun hc1 => ?_) (fun hc1 => ?_)
  · replace hx := ip hc1 hx
    refine Ev.blk (pc' := 20) (lv' := [some (vr 0 0 0)]) (st' := [vi (ii (-1))]) (h' := h) 9 1 (Nat.le_of_ble_eq_true rfl) tk_HF_takeLaw rfl rfl ⟨trivial, trivial⟩ ?_
    obtain rfl := Option.some.inj hx
    obtain ⟨rfl, rfl⟩ := hP
    exact Ev.iret 10 tk_HF_takeLaw rfl rfl
  · replace hx := ia hc1 hx
    refine Ev.blk (pc' := 16) (lv' := [some (vr 0 0 0)]) (st' := [vi (ii (4 : Int)), vi (h.1 0 14)]) (h' := h) 3 5 (Nat.le_of_ble_eq_true rfl) tk_HF_takeLaw rfl rfl ⟨trivial, trivial, trivial, trivial, trivial, trivial⟩ ?_
    refine Ev.icmp_lt 8 21 tk_HF_takeLaw rfl (by decide) (fun hc2 => ?_) (fun hc2 => ?_)
    · replace hx := ip hc2 hx
      obtain ⟨hg3, hx⟩ := gd hx
      refine Ev.blk (pc' := 42) (lv' := [some (vr 0 0 0)]) (st' := [vr 5 0 (h.2.2 10 (h.1 0 14).toNatClampNeg), vr 4 0 8, vi (h.1 0 14), vr 24 4 10]) (h' := h) 11 11 (Nat.le_of_ble_eq_true rfl) tk_HF_takeLaw rfl rfl ⟨trivial, trivial, trivial, trivial, trivial, trivial, trivial, trivial, trivial, trivial, hg3, trivial⟩ ?_
      obtain ⟨q1, hq4, hx⟩ := bd hx
      refine Ev.callV (ν := m_LR_exchange) (av := [vr 5 0 (h.2.2 10 (h.1 0 14).toNatClampNeg)]) (rest := [vi (h.1 0 14), vr 24 4 10]) (r1 := some (vr 5 0 q1.1)) (h1 := q1.2) (ci := 4) (nn := 0) (o := 8) 22 1 tk_HF_takeLaw rfl bb_LR_exchange vv_LR_exchange lk_0_408 (by decide) rfl rfl (Or.inl rfl) (Nat.le_of_ble_eq_true rfl) (s_LR_exchange Γ (h.2.2 10 (h.1 0 14).toNatClampNeg) h _ hq4) ?_
      show Ev Γ m_HF_takeLaw 45 [some (vr 0 0 0)] [vr 5 0 q1.1, vi (h.1 0 14), vr 24 4 10] q1.2 r h'
      obtain ⟨hg5, hx⟩ := gd hx
      refine Ev.blk (pc' := 70) (lv' := [some (vr 0 0 0)]) (st' := [vi (((wI (wI (wR q1.2 10 (h.1 0 14).toNatClampNeg q1.1) 1 1 (ii 0)) 0 14 (((wI (wR q1.2 10 (h.1 0 14).toNatClampNeg q1.1) 1 1 (ii 0)).1 0 14) + (ii 1))).1 0 14) - (ii 1))]) (h' := (wI (wI (wR q1.2 10 (h.1 0 14).toNatClampNeg q1.1) 1 1 (ii 0)) 0 14 (((wI (wR q1.2 10 (h.1 0 14).toNatClampNeg q1.1) 1 1 (ii 0)).1 0 14) + (ii 1)))) 23 15 (Nat.le_of_ble_eq_true rfl) tk_HF_takeLaw rfl rfl ⟨hg5, trivial, trivial, trivial, trivial, trivial, trivial, trivial, trivial, trivial, trivial, trivial, trivial, trivial, trivial, trivial⟩ ?_
      obtain rfl := Option.some.inj hx
      obtain ⟨rfl, rfl⟩ := hP
      exact Ev.iret 38 tk_HF_takeLaw rfl rfl
    · replace hx := ia hc2 hx
      refine Ev.blk (pc' := 20) (lv' := [some (vr 0 0 0)]) (st' := [vi (ii (-1))]) (h' := h) 9 1 (Nat.le_of_ble_eq_true rfl) tk_HF_takeLaw rfl rfl ⟨trivial, trivial⟩ ?_
      obtain rfl := Option.some.inj hx
      obtain ⟨rfl, rfl⟩ := hP
      exact Ev.iret 10 tk_HF_takeLaw rfl rfl
set_option maxRecDepth 4000 in
theorem s_WR_exchange (Γ : AG) (o1 : Nat) (h : AH) (x : Nat × AH) (hx : f_WR_exchange o1 h = some x) : MetA Γ m_WR_exchange [vr 6 0 9, vr 7 0 o1] h (some (vr 7 0 x.1)) x.2 := by
  refine Ev.met rfl rfl (Nat.le_of_ble_eq_true rfl) ?_
  show Ev Γ m_WR_exchange 0 [some (vr 6 0 9), some (vr 7 0 o1), none] [] h _ _
  obtain ⟨r, hr⟩ : ∃ r : Option AV, r = some (vr 7 0 x.1) := ⟨_, rfl⟩
  obtain ⟨h', hh⟩ : ∃ h' : AH, h' = x.2 := ⟨_, rfl⟩
  have hP : r = some (vr 7 0 x.1) ∧ h' = x.2 := ⟨hr, hh⟩
  suffices hS : Ev Γ m_WR_exchange 0 [some (vr 6 0 9), some (vr 7 0 o1), none] [] h r h' by rw [hr, hh] at hS; exact hS
  clear hr hh
  unfold f_WR_exchange at hx
  refine Ev.blk (pc' := 11) (lv' := [some (vr 6 0 9), some (vr 7 0 o1), some (vr 7 0 (h.2.2 9 0))]) (st' := [vr 7 0 (h.2.2 9 0)]) (h' := (wR h 9 0 o1)) 0 7 (Nat.le_of_ble_eq_true rfl) tk_WR_exchange rfl rfl ⟨trivial, trivial, trivial, trivial, trivial, trivial, trivial, trivial⟩ ?_
  obtain rfl := Option.some.inj hx
  obtain ⟨rfl, rfl⟩ := hP
  exact Ev.aret 7 tk_WR_exchange rfl rfl (Or.inl ⟨_, rfl⟩)
set_option maxRecDepth 4000 in
theorem s_HF_takeWalks (Γ : AG) (h : AH) (x : Int32 × AH) (hx : f_HF_takeWalks  h = some x) : MetA Γ m_HF_takeWalks [vr 0 0 0] h (some (vi x.1)) x.2 := by
  refine Ev.met rfl rfl (Nat.le_of_ble_eq_true rfl) ?_
  show Ev Γ m_HF_takeWalks 0 [some (vr 0 0 0)] [] h _ _
  obtain ⟨r, hr⟩ : ∃ r : Option AV, r = some (vi x.1) := ⟨_, rfl⟩
  obtain ⟨h', hh⟩ : ∃ h' : AH, h' = x.2 := ⟨_, rfl⟩
  have hP : r = some (vi x.1) ∧ h' = x.2 := ⟨hr, hh⟩
  suffices hS : Ev Γ m_HF_takeWalks 0 [some (vr 0 0 0)] [] h r h' by rw [hr, hh] at hS; exact hS
  clear hr hh
  unfold f_HF_takeWalks at hx
  refine Ev.blk (pc' := 4) (lv' := [some (vr 0 0 0)]) (st' := [vi (h.1 0 15)]) (h' := h) 0 2 (Nat.le_of_ble_eq_true rfl) tk_HF_takeWalks rfl rfl ⟨trivial, trivial, trivial⟩ ?_
  refine Ev.if_lt 2 19 tk_HF_takeWalks rfl (by decide) (fun hc1 => ?_) (fun hc1 => ?_)
  · replace hx := ip hc1 hx
    refine Ev.blk (pc' := 20) (lv' := [some (vr 0 0 0)]) (st' := [vi (ii (-1))]) (h' := h) 9 1 (Nat.le_of_ble_eq_true rfl) tk_HF_takeWalks rfl rfl ⟨trivial, trivial⟩ ?_
    obtain rfl := Option.some.inj hx
    obtain ⟨rfl, rfl⟩ := hP
    exact Ev.iret 10 tk_HF_takeWalks rfl rfl
  · replace hx := ia hc1 hx
    refine Ev.blk (pc' := 16) (lv' := [some (vr 0 0 0)]) (st' := [vi (ii (4 : Int)), vi (h.1 0 15)]) (h' := h) 3 5 (Nat.le_of_ble_eq_true rfl) tk_HF_takeWalks rfl rfl ⟨trivial, trivial, trivial, trivial, trivial, trivial⟩ ?_
    refine Ev.icmp_lt 8 21 tk_HF_takeWalks rfl (by decide) (fun hc2 => ?_) (fun hc2 => ?_)
    · replace hx := ip hc2 hx
      obtain ⟨hg3, hx⟩ := gd hx
      refine Ev.blk (pc' := 42) (lv' := [some (vr 0 0 0)]) (st' := [vr 7 0 (h.2.2 11 (h.1 0 15).toNatClampNeg), vr 6 0 9, vi (h.1 0 15), vr 25 4 11]) (h' := h) 11 11 (Nat.le_of_ble_eq_true rfl) tk_HF_takeWalks rfl rfl ⟨trivial, trivial, trivial, trivial, trivial, trivial, trivial, trivial, trivial, trivial, hg3, trivial⟩ ?_
      obtain ⟨q1, hq4, hx⟩ := bd hx
      refine Ev.callV (ν := m_WR_exchange) (av := [vr 7 0 (h.2.2 11 (h.1 0 15).toNatClampNeg)]) (rest := [vi (h.1 0 15), vr 25 4 11]) (r1 := some (vr 7 0 q1.1)) (h1 := q1.2) (ci := 6) (nn := 0) (o := 9) 22 1 tk_HF_takeWalks rfl bb_WR_exchange vv_WR_exchange lk_0_411 (by decide) rfl rfl (Or.inl rfl) (Nat.le_of_ble_eq_true rfl) (s_WR_exchange Γ (h.2.2 11 (h.1 0 15).toNatClampNeg) h _ hq4) ?_
      show Ev Γ m_HF_takeWalks 45 [some (vr 0 0 0)] [vr 7 0 q1.1, vi (h.1 0 15), vr 25 4 11] q1.2 r h'
      obtain ⟨hg5, hx⟩ := gd hx
      refine Ev.blk (pc' := 70) (lv' := [some (vr 0 0 0)]) (st' := [vi (((wI (wI (wR q1.2 11 (h.1 0 15).toNatClampNeg q1.1) 1 1 (ii 0)) 0 15 (((wI (wR q1.2 11 (h.1 0 15).toNatClampNeg q1.1) 1 1 (ii 0)).1 0 15) + (ii 1))).1 0 15) - (ii 1))]) (h' := (wI (wI (wR q1.2 11 (h.1 0 15).toNatClampNeg q1.1) 1 1 (ii 0)) 0 15 (((wI (wR q1.2 11 (h.1 0 15).toNatClampNeg q1.1) 1 1 (ii 0)).1 0 15) + (ii 1)))) 23 15 (Nat.le_of_ble_eq_true rfl) tk_HF_takeWalks rfl rfl ⟨hg5, trivial, trivial, trivial, trivial, trivial, trivial, trivial, trivial, trivial, trivial, trivial, trivial, trivial, trivial, trivial⟩ ?_
      obtain rfl := Option.some.inj hx
      obtain ⟨rfl, rfl⟩ := hP
      exact Ev.iret 38 tk_HF_takeWalks rfl rfl
    · replace hx := ia hc2 hx
      refine Ev.blk (pc' := 20) (lv' := [some (vr 0 0 0)]) (st' := [vi (ii (-1))]) (h' := h) 9 1 (Nat.le_of_ble_eq_true rfl) tk_HF_takeWalks rfl rfl ⟨trivial, trivial⟩ ?_
      obtain rfl := Option.some.inj hx
      obtain ⟨rfl, rfl⟩ := hP
      exact Ev.iret 10 tk_HF_takeWalks rfl rfl
set_option maxRecDepth 4000 in
theorem s_HF_text (Γ : AG) (a1 : Int32) (h : AH) (x : Int32 × AH) (hx : f_HF_text a1 h = some x) : MetA Γ m_HF_text [vr 0 0 0, vi a1] h (some (vi x.1)) x.2 := by
  refine Ev.met rfl rfl (Nat.le_of_ble_eq_true rfl) ?_
  show Ev Γ m_HF_text 0 [some (vr 0 0 0), some (vi a1)] [] h _ _
  obtain ⟨r, hr⟩ : ∃ r : Option AV, r = some (vi x.1) := ⟨_, rfl⟩
  obtain ⟨h', hh⟩ : ∃ h' : AH, h' = x.2 := ⟨_, rfl⟩
  have hP : r = some (vi x.1) ∧ h' = x.2 := ⟨hr, hh⟩
  suffices hS : Ev Γ m_HF_text 0 [some (vr 0 0 0), some (vi a1)] [] h r h' by rw [hr, hh] at hS; exact hS
  clear hr hh
  unfold f_HF_text at hx
  refine Ev.blk (pc' := 1) (lv' := [some (vr 0 0 0), some (vi a1)]) (st' := [vi a1]) (h' := h) 0 1 (Nat.le_of_ble_eq_true rfl) tk_HF_text rfl rfl ⟨trivial, trivial⟩ ?_
  by_cases hc1 : a1 = ii 0
  · replace hx := ip hc1 hx
    refine Ev.tabIn (off := 27) 1 28 0 tk_HF_text rfl hc1 (by decide) (by decide) ?_
    refine Ev.blk (pc' := 36) (lv' := [some (vr 0 0 0), some (vi a1)]) (st' := [vr 1 0 1, vr 2 0 3]) (h' := h) 2 4 (Nat.le_of_ble_eq_true rfl) tk_HF_text rfl rfl ⟨trivial, trivial, trivial, trivial, trivial⟩ ?_
    obtain ⟨q1, hq2, hx⟩ := bd hx
    refine Ev.callV (ν := m_HR_faultOf) (av := [vr 1 0 1]) (rest := []) (r1 := some (vi q1.1)) (h1 := q1.2) (ci := 2) (nn := 0) (o := 3) 6 1 tk_HF_text rfl bb_HR_faultOf vv_HR_faultOf lk_0_121 (by decide) rfl rfl (Or.inl rfl) (Nat.le_of_ble_eq_true rfl) (s_HR_faultOf Γ h _ hq2) ?_
    show Ev Γ m_HF_text 39 [some (vr 0 0 0), some (vi a1)] [vi q1.1] q1.2 r h'
    refine Ev.blk (pc' := 40) (lv' := [some (vr 0 0 0), some (vi a1)]) (st' := [vi (ii (-1)), vi q1.1]) (h' := q1.2) 7 1 (Nat.le_of_ble_eq_true rfl) tk_HF_text rfl rfl ⟨trivial, trivial⟩ ?_
    refine Ev.icmp_ne 8 50 tk_HF_text rfl (by decide) (fun hc3 => ?_) (fun hc3 => ?_)
    · replace hx := ia hc3 hx
      refine Ev.blk (pc' := 51) (lv' := [some (vr 0 0 0), some (vi a1)]) (st' := [vi (ii (-1))]) (h' := q1.2) 12 1 (Nat.le_of_ble_eq_true rfl) tk_HF_text rfl rfl ⟨trivial, trivial⟩ ?_
      obtain rfl := Option.some.inj hx
      obtain ⟨rfl, rfl⟩ := hP
      exact Ev.iret 13 tk_HF_text rfl rfl
    · replace hx := ip hc3 hx
      refine Ev.blk (pc' := 44) (lv' := [some (vr 0 0 0), some (vi a1)]) (st' := [vr 0 0 0]) (h' := q1.2) 9 1 (Nat.le_of_ble_eq_true rfl) tk_HF_text rfl rfl ⟨trivial, trivial⟩ ?_
      obtain ⟨q2, hq4, hx⟩ := bd hx
      refine Ev.callV (ν := m_HF_takeHeath) (av := []) (rest := []) (r1 := some (vi q2.1)) (h1 := q2.2) (ci := 0) (nn := 0) (o := 0) 10 0 tk_HF_text rfl bb_HF_takeHeath vv_HF_takeHeath lk_0_127 (by decide) rfl rfl (Or.inl rfl) (Nat.le_of_ble_eq_true rfl) (s_HF_takeHeath Γ q1.2 _ hq4) ?_
      show Ev Γ m_HF_text 47 [some (vr 0 0 0), some (vi a1)] [vi q2.1] q2.2 r h'
      refine Ev.blk (pc' := 51) (lv' := [some (vr 0 0 0), some (vi a1)]) (st' := [vi q2.1]) (h' := q2.2) 11 1 (Nat.le_of_ble_eq_true rfl) tk_HF_text rfl rfl ⟨trivial, trivial⟩ ?_
      obtain rfl := Option.some.inj hx
      obtain ⟨rfl, rfl⟩ := hP
      exact Ev.iret 13 tk_HF_text rfl rfl
  replace hx := ia hc1 hx
  by_cases hc5 : a1 = ii 1
  · replace hx := ip hc5 hx
    refine Ev.tabIn (off := 51) 1 52 1 tk_HF_text rfl hc5 (by decide) (by decide) ?_
    refine Ev.blk (pc' := 60) (lv' := [some (vr 0 0 0), some (vi a1)]) (st' := [vr 1 0 1, vr 4 0 8]) (h' := h) 14 4 (Nat.le_of_ble_eq_true rfl) tk_HF_text rfl rfl ⟨trivial, trivial, trivial, trivial, trivial⟩ ?_
    obtain ⟨q3, hq6, hx⟩ := bd hx
    refine Ev.callV (ν := m_LR_faultOf) (av := [vr 1 0 1]) (rest := []) (r1 := some (vi q3.1)) (h1 := q3.2) (ci := 4) (nn := 0) (o := 8) 18 1 tk_HF_text rfl bb_LR_faultOf vv_LR_faultOf lk_0_125 (by decide) rfl rfl (Or.inl rfl) (Nat.le_of_ble_eq_true rfl) (s_LR_faultOf Γ h _ hq6) ?_
    show Ev Γ m_HF_text 63 [some (vr 0 0 0), some (vi a1)] [vi q3.1] q3.2 r h'
    refine Ev.blk (pc' := 64) (lv' := [some (vr 0 0 0), some (vi a1)]) (st' := [vi (ii (-1)), vi q3.1]) (h' := q3.2) 19 1 (Nat.le_of_ble_eq_true rfl) tk_HF_text rfl rfl ⟨trivial, trivial⟩ ?_
    refine Ev.icmp_ne 20 74 tk_HF_text rfl (by decide) (fun hc7 => ?_) (fun hc7 => ?_)
    · replace hx := ia hc7 hx
      refine Ev.blk (pc' := 75) (lv' := [some (vr 0 0 0), some (vi a1)]) (st' := [vi (ii (-1))]) (h' := q3.2) 24 1 (Nat.le_of_ble_eq_true rfl) tk_HF_text rfl rfl ⟨trivial, trivial⟩ ?_
      obtain rfl := Option.some.inj hx
      obtain ⟨rfl, rfl⟩ := hP
      exact Ev.iret 25 tk_HF_text rfl rfl
    · replace hx := ip hc7 hx
      refine Ev.blk (pc' := 68) (lv' := [some (vr 0 0 0), some (vi a1)]) (st' := [vr 0 0 0]) (h' := q3.2) 21 1 (Nat.le_of_ble_eq_true rfl) tk_HF_text rfl rfl ⟨trivial, trivial⟩ ?_
      obtain ⟨q4, hq8, hx⟩ := bd hx
      refine Ev.callV (ν := m_HF_takeLaw) (av := []) (rest := []) (r1 := some (vi q4.1)) (h1 := q4.2) (ci := 0) (nn := 0) (o := 0) 22 0 tk_HF_text rfl bb_HF_takeLaw vv_HF_takeLaw lk_0_131 (by decide) rfl rfl (Or.inl rfl) (Nat.le_of_ble_eq_true rfl) (s_HF_takeLaw Γ q3.2 _ hq8) ?_
      show Ev Γ m_HF_text 71 [some (vr 0 0 0), some (vi a1)] [vi q4.1] q4.2 r h'
      refine Ev.blk (pc' := 75) (lv' := [some (vr 0 0 0), some (vi a1)]) (st' := [vi q4.1]) (h' := q4.2) 23 1 (Nat.le_of_ble_eq_true rfl) tk_HF_text rfl rfl ⟨trivial, trivial⟩ ?_
      obtain rfl := Option.some.inj hx
      obtain ⟨rfl, rfl⟩ := hP
      exact Ev.iret 25 tk_HF_text rfl rfl
  replace hx := ia hc5 hx
  by_cases hc9 : a1 = ii 2
  · replace hx := ip hc9 hx
    refine Ev.tabIn (off := 75) 1 76 2 tk_HF_text rfl hc9 (by decide) (by decide) ?_
    refine Ev.blk (pc' := 84) (lv' := [some (vr 0 0 0), some (vi a1)]) (st' := [vr 1 0 1, vr 6 0 9]) (h' := h) 26 4 (Nat.le_of_ble_eq_true rfl) tk_HF_text rfl rfl ⟨trivial, trivial, trivial, trivial, trivial⟩ ?_
    obtain ⟨q5, hq10, hx⟩ := bd hx
    refine Ev.callV (ν := m_WR_faultOf) (av := [vr 1 0 1]) (rest := []) (r1 := some (vi q5.1)) (h1 := q5.2) (ci := 6) (nn := 0) (o := 9) 30 1 tk_HF_text rfl bb_WR_faultOf vv_WR_faultOf lk_0_126 (by decide) rfl rfl (Or.inl rfl) (Nat.le_of_ble_eq_true rfl) (s_WR_faultOf Γ h _ hq10) ?_
    show Ev Γ m_HF_text 87 [some (vr 0 0 0), some (vi a1)] [vi q5.1] q5.2 r h'
    refine Ev.blk (pc' := 88) (lv' := [some (vr 0 0 0), some (vi a1)]) (st' := [vi (ii (-1)), vi q5.1]) (h' := q5.2) 31 1 (Nat.le_of_ble_eq_true rfl) tk_HF_text rfl rfl ⟨trivial, trivial⟩ ?_
    refine Ev.icmp_ne 32 98 tk_HF_text rfl (by decide) (fun hc11 => ?_) (fun hc11 => ?_)
    · replace hx := ia hc11 hx
      refine Ev.blk (pc' := 99) (lv' := [some (vr 0 0 0), some (vi a1)]) (st' := [vi (ii (-1))]) (h' := q5.2) 36 1 (Nat.le_of_ble_eq_true rfl) tk_HF_text rfl rfl ⟨trivial, trivial⟩ ?_
      obtain rfl := Option.some.inj hx
      obtain ⟨rfl, rfl⟩ := hP
      exact Ev.iret 37 tk_HF_text rfl rfl
    · replace hx := ip hc11 hx
      refine Ev.blk (pc' := 92) (lv' := [some (vr 0 0 0), some (vi a1)]) (st' := [vr 0 0 0]) (h' := q5.2) 33 1 (Nat.le_of_ble_eq_true rfl) tk_HF_text rfl rfl ⟨trivial, trivial⟩ ?_
      obtain ⟨q6, hq12, hx⟩ := bd hx
      refine Ev.callV (ν := m_HF_takeWalks) (av := []) (rest := []) (r1 := some (vi q6.1)) (h1 := q6.2) (ci := 0) (nn := 0) (o := 0) 34 0 tk_HF_text rfl bb_HF_takeWalks vv_HF_takeWalks lk_0_134 (by decide) rfl rfl (Or.inl rfl) (Nat.le_of_ble_eq_true rfl) (s_HF_takeWalks Γ q5.2 _ hq12) ?_
      show Ev Γ m_HF_text 95 [some (vr 0 0 0), some (vi a1)] [vi q6.1] q6.2 r h'
      refine Ev.blk (pc' := 99) (lv' := [some (vr 0 0 0), some (vi a1)]) (st' := [vi q6.1]) (h' := q6.2) 35 1 (Nat.le_of_ble_eq_true rfl) tk_HF_text rfl rfl ⟨trivial, trivial⟩ ?_
      obtain rfl := Option.some.inj hx
      obtain ⟨rfl, rfl⟩ := hP
      exact Ev.iret 37 tk_HF_text rfl rfl
  replace hx := ia hc9 hx
  refine Ev.tabOut 1 100 3 tk_HF_text rfl (by decide) (fun k hk => ?_) (by decide) ?_
  · rcases (show k = 0 ∨ k = 1 ∨ k = 2 by omega) with rfl | rfl | rfl
    · exact hc1
    · exact hc5
    · exact hc9
  · refine Ev.blk (pc' := 101) (lv' := [some (vr 0 0 0), some (vi a1)]) (st' := [vi (ii (-1))]) (h' := h) 38 1 (Nat.le_of_ble_eq_true rfl) tk_HF_text rfl rfl ⟨trivial, trivial⟩ ?_
    obtain rfl := Option.some.inj hx
    obtain ⟨rfl, rfl⟩ := hP
    exact Ev.iret 39 tk_HF_text rfl rfl
