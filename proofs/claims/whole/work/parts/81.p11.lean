set_option maxRecDepth 4000 in
theorem s_R_readClause (Γ : AG) (h : AH) (x : AH) (hx : f_R_readClause  h = some x) : MetA Γ m_R_readClause [vr 12 0 80] h (none) x := by
  refine Ev.met rfl rfl (Nat.le_of_ble_eq_true rfl) ?_
  show Ev Γ m_R_readClause 0 [some (vr 12 0 80), none, none] [] h _ _
  obtain ⟨r, hr⟩ : ∃ r : Option AV, r = none := ⟨_, rfl⟩
  obtain ⟨h', hh⟩ : ∃ h' : AH, h' = x := ⟨_, rfl⟩
  have hP : r = none ∧ h' = x := ⟨hr, hh⟩
  suffices hS : Ev Γ m_R_readClause 0 [some (vr 12 0 80), none, none] [] h r h' by rw [hr, hh] at hS; exact hS
  clear hr hh
  unfold f_R_readClause at hx
  refine Ev.blk (pc' := 1) (lv' := [some (vr 12 0 80), none, none]) (st' := [vr 12 0 80]) (h' := h) 0 1 (Nat.le_of_ble_eq_true rfl) tk_R_readClause rfl rfl ⟨trivial, trivial⟩ ?_
  obtain ⟨q1, hq1, hx⟩ := bd hx
  refine Ev.callV (ν := m_R_look) (av := []) (rest := []) (r1 := some (vi q1.1)) (h1 := q1.2) (ci := 12) (nn := 0) (o := 80) 1 0 tk_R_readClause rfl bb_R_look vv_R_look lk_12_144 (by decide) rfl rfl (Or.inl rfl) (Nat.le_of_ble_eq_true rfl) (s_R_look Γ h _ hq1) ?_
  show Ev Γ m_R_readClause 4 [some (vr 12 0 80), none, none] [vi q1.1] q1.2 r h'
  refine Ev.blk (pc' := 8) (lv' := [some (vr 12 0 80), some (vi q1.1), none]) (st' := [vi (ii 115), vi q1.1]) (h' := q1.2) 2 3 (Nat.le_of_ble_eq_true rfl) tk_R_readClause rfl rfl ⟨trivial, trivial, trivial, trivial⟩ ?_
  have K2 : ∀ v2_0 : Int32, v2_0 = (if q1.1 = (ii 115) then (if (q1.2.1 80 40) = 0 then (ii 1) else (if q1.1 = (ii 118) then (if (q1.2.1 80 35) < (ii 4) then (ii 1) else (if q1.1 = (ii 105) then (if (q1.2.1 80 36) < (ii 6) then (ii 1) else (if q1.1 = (ii 107) then (if (q1.2.1 80 37) < (ii 6) then (ii 1) else (if q1.1 = (ii 102) then (if (ii 6) ≤ (q1.2.1 80 38) then (ii 0) else (ii 1)) else (ii 0))) else (if q1.1 = (ii 102) then (if (ii 6) ≤ (q1.2.1 80 38) then (ii 0) else (ii 1)) else (ii 0)))) else (if q1.1 = (ii 107) then (if (q1.2.1 80 37) < (ii 6) then (ii 1) else (if q1.1 = (ii 102) then (if (ii 6) ≤ (q1.2.1 80 38) then (ii 0) else (ii 1)) else (ii 0))) else (if q1.1 = (ii 102) then (if (ii 6) ≤ (q1.2.1 80 38) then (ii 0) else (ii 1)) else (ii 0))))) else (if q1.1 = (ii 105) then (if (q1.2.1 80 36) < (ii 6) then (ii 1) else (if q1.1 = (ii 107) then (if (q1.2.1 80 37) < (ii 6) then (ii 1) else (if q1.1 = (ii 102) then (if (ii 6) ≤ (q1.2.1 80 38) then (ii 0) else (ii 1)) else (ii 0))) else (if q1.1 = (ii 102) then (if (ii 6) ≤ (q1.2.1 80 38) then (ii 0) else (ii 1)) else (ii 0)))) else (if q1.1 = (ii 107) then (if (q1.2.1 80 37) < (ii 6) then (ii 1) else (if q1.1 = (ii 102) then (if (ii 6) ≤ (q1.2.1 80 38) then (ii 0) else (ii 1)) else (ii 0))) else (if q1.1 = (ii 102) then (if (ii 6) ≤ (q1.2.1 80 38) then (ii 0) else (ii 1)) else (ii 0)))))) else (if q1.1 = (ii 118) then (if (q1.2.1 80 35) < (ii 4) then (ii 1) else (if q1.1 = (ii 105) then (if (q1.2.1 80 36) < (ii 6) then (ii 1) else (if q1.1 = (ii 107) then (if (q1.2.1 80 37) < (ii 6) then (ii 1) else (if q1.1 = (ii 102) then (if (ii 6) ≤ (q1.2.1 80 38) then (ii 0) else (ii 1)) else (ii 0))) else (if q1.1 = (ii 102) then (if (ii 6) ≤ (q1.2.1 80 38) then (ii 0) else (ii 1)) else (ii 0)))) else (if q1.1 = (ii 107) then (if (q1.2.1 80 37) < (ii 6) then (ii 1) else (if q1.1 = (ii 102) then (if (ii 6) ≤ (q1.2.1 80 38) then (ii 0) else (ii 1)) else (ii 0))) else (if q1.1 = (ii 102) then (if (ii 6) ≤ (q1.2.1 80 38) then (ii 0) else (ii 1)) else (ii 0))))) else (if q1.1 = (ii 105) then (if (q1.2.1 80 36) < (ii 6) then (ii 1) else (if q1.1 = (ii 107) then (if (q1.2.1 80 37) < (ii 6) then (ii 1) else (if q1.1 = (ii 102) then (if (ii 6) ≤ (q1.2.1 80 38) then (ii 0) else (ii 1)) else (ii 0))) else (if q1.1 = (ii 102) then (if (ii 6) ≤ (q1.2.1 80 38) then (ii 0) else (ii 1)) else (ii 0)))) else (if q1.1 = (ii 107) then (if (q1.2.1 80 37) < (ii 6) then (ii 1) else (if q1.1 = (ii 102) then (if (ii 6) ≤ (q1.2.1 80 38) then (ii 0) else (ii 1)) else (ii 0))) else (if q1.1 = (ii 102) then (if (ii 6) ≤ (q1.2.1 80 38) then (ii 0) else (ii 1)) else (ii 0)))))) → Ev Γ m_R_readClause 82 [some (vr 12 0 80), some (vi q1.1), none] [vi v2_0] q1.2 r h' := by
    intro v2_0 e3
    subst e3
    refine Ev.blk (pc' := 84) (lv' := [some (vr 12 0 80), some (vi q1.1), some (vi (if q1.1 = (ii 115) then (if (q1.2.1 80 40) = 0 then (ii 1) else (if q1.1 = (ii 118) then (if (q1.2.1 80 35) < (ii 4) then (ii 1) else (if q1.1 = (ii 105) then (if (q1.2.1 80 36) < (ii 6) then (ii 1) else (if q1.1 = (ii 107) then (if (q1.2.1 80 37) < (ii 6) then (ii 1) else (if q1.1 = (ii 102) then (if (ii 6) ≤ (q1.2.1 80 38) then (ii 0) else (ii 1)) else (ii 0))) else (if q1.1 = (ii 102) then (if (ii 6) ≤ (q1.2.1 80 38) then (ii 0) else (ii 1)) else (ii 0)))) else (if q1.1 = (ii 107) then (if (q1.2.1 80 37) < (ii 6) then (ii 1) else (if q1.1 = (ii 102) then (if (ii 6) ≤ (q1.2.1 80 38) then (ii 0) else (ii 1)) else (ii 0))) else (if q1.1 = (ii 102) then (if (ii 6) ≤ (q1.2.1 80 38) then (ii 0) else (ii 1)) else (ii 0))))) else (if q1.1 = (ii 105) then (if (q1.2.1 80 36) < (ii 6) then (ii 1) else (if q1.1 = (ii 107) then (if (q1.2.1 80 37) < (ii 6) then (ii 1) else (if q1.1 = (ii 102) then (if (ii 6) ≤ (q1.2.1 80 38) then (ii 0) else (ii 1)) else (ii 0))) else (if q1.1 = (ii 102) then (if (ii 6) ≤ (q1.2.1 80 38) then (ii 0) else (ii 1)) else (ii 0)))) else (if q1.1 = (ii 107) then (if (q1.2.1 80 37) < (ii 6) then (ii 1) else (if q1.1 = (ii 102) then (if (ii 6) ≤ (q1.2.1 80 38) then (ii 0) else (ii 1)) else (ii 0))) else (if q1.1 = (ii 102) then (if (ii 6) ≤ (q1.2.1 80 38) then (ii 0) else (ii 1)) else (ii 0)))))) else (if q1.1 = (ii 118) then (if (q1.2.1 80 35) < (ii 4) then (ii 1) else (if q1.1 = (ii 105) then (if (q1.2.1 80 36) < (ii 6) then (ii 1) else (if q1.1 = (ii 107) then (if (q1.2.1 80 37) < (ii 6) then (ii 1) else (if q1.1 = (ii 102) then (if (ii 6) ≤ (q1.2.1 80 38) then (ii 0) else (ii 1)) else (ii 0))) else (if q1.1 = (ii 102) then (if (ii 6) ≤ (q1.2.1 80 38) then (ii 0) else (ii 1)) else (ii 0)))) else (if q1.1 = (ii 107) then (if (q1.2.1 80 37) < (ii 6) then (ii 1) else (if q1.1 = (ii 102) then (if (ii 6) ≤ (q1.2.1 80 38) then (ii 0) else (ii 1)) else (ii 0))) else (if q1.1 = (ii 102) then (if (ii 6) ≤ (q1.2.1 80 38) then (ii 0) else (ii 1)) else (ii 0))))) else (if q1.1 = (ii 105) then (if (q1.2.1 80 36) < (ii 6) then (ii 1) else (if q1.1 = (ii 107) then (if (q1.2.1 80 37) < (ii 6) then (ii 1) else (if q1.1 = (ii 102) then (if (ii 6) ≤ (q1.2.1 80 38) then (ii 0) else (ii 1)) else (ii 0))) else (if q1.1 = (ii 102) then (if (ii 6) ≤ (q1.2.1 80 38) then (ii 0) else (ii 1)) else (ii 0)))) else (if q1.1 = (ii 107) then (if (q1.2.1 80 37) < (ii 6) then (ii 1) else (if q1.1 = (ii 102) then (if (ii 6) ≤ (q1.2.1 80 38) then (ii 0) else (ii 1)) else (ii 0))) else (if q1.1 = (ii 102) then (if (ii 6) ≤ (q1.2.1 80 38) then (ii 0) else (ii 1)) else (ii 0)))))))]) (st' := [vi (if q1.1 = (ii 115) then (if (q1.2.1 80 40) = 0 then (ii 1) else (if q1.1 = (ii 118) then (if (q1.2.1 80 35) < (ii 4) then (ii 1) else (if q1.1 = (ii 105) then (if (q1.2.1 80 36) < (ii 6) then (ii 1) else (if q1.1 = (ii 107) then (if (q1.2.1 80 37) < (ii 6) then (ii 1) else (if q1.1 = (ii 102) then (if (ii 6) ≤ (q1.2.1 80 38) then (ii 0) else (ii 1)) else (ii 0))) else (if q1.1 = (ii 102) then (if (ii 6) ≤ (q1.2.1 80 38) then (ii 0) else (ii 1)) else (ii 0)))) else (if q1.1 = (ii 107) then (if (q1.2.1 80 37) < (ii 6) then (ii 1) else (if q1.1 = (ii 102) then (if (ii 6) ≤ (q1.2.1 80 38) then (ii 0) else (ii 1)) else (ii 0))) else (if q1.1 = (ii 102) then (if (ii 6) ≤ (q1.2.1 80 38) then (ii 0) else (ii 1)) else (ii 0))))) else (if q1.1 = (ii 105) then (if (q1.2.1 80 36) < (ii 6) then (ii 1) else (if q1.1 = (ii 107) then (if (q1.2.1 80 37) < (ii 6) then (ii 1) else (if q1.1 = (ii 102) then (if (ii 6) ≤ (q1.2.1 80 38) then (ii 0) else (ii 1)) else (ii 0))) else (if q1.1 = (ii 102) then (if (ii 6) ≤ (q1.2.1 80 38) then (ii 0) else (ii 1)) else (ii 0)))) else (if q1.1 = (ii 107) then (if (q1.2.1 80 37) < (ii 6) then (ii 1) else (if q1.1 = (ii 102) then (if (ii 6) ≤ (q1.2.1 80 38) then (ii 0) else (ii 1)) else (ii 0))) else (if q1.1 = (ii 102) then (if (ii 6) ≤ (q1.2.1 80 38) then (ii 0) else (ii 1)) else (ii 0)))))) else (if q1.1 = (ii 118) then (if (q1.2.1 80 35) < (ii 4) then (ii 1) else (if q1.1 = (ii 105) then (if (q1.2.1 80 36) < (ii 6) then (ii 1) else (if q1.1 = (ii 107) then (if (q1.2.1 80 37) < (ii 6) then (ii 1) else (if q1.1 = (ii 102) then (if (ii 6) ≤ (q1.2.1 80 38) then (ii 0) else (ii 1)) else (ii 0))) else (if q1.1 = (ii 102) then (if (ii 6) ≤ (q1.2.1 80 38) then (ii 0) else (ii 1)) else (ii 0)))) else (if q1.1 = (ii 107) then (if (q1.2.1 80 37) < (ii 6) then (ii 1) else (if q1.1 = (ii 102) then (if (ii 6) ≤ (q1.2.1 80 38) then (ii 0) else (ii 1)) else (ii 0))) else (if q1.1 = (ii 102) then (if (ii 6) ≤ (q1.2.1 80 38) then (ii 0) else (ii 1)) else (ii 0))))) else (if q1.1 = (ii 105) then (if (q1.2.1 80 36) < (ii 6) then (ii 1) else (if q1.1 = (ii 107) then (if (q1.2.1 80 37) < (ii 6) then (ii 1) else (if q1.1 = (ii 102) then (if (ii 6) ≤ (q1.2.1 80 38) then (ii 0) else (ii 1)) else (ii 0))) else (if q1.1 = (ii 102) then (if (ii 6) ≤ (q1.2.1 80 38) then (ii 0) else (ii 1)) else (ii 0)))) else (if q1.1 = (ii 107) then (if (q1.2.1 80 37) < (ii 6) then (ii 1) else (if q1.1 = (ii 102) then (if (ii 6) ≤ (q1.2.1 80 38) then (ii 0) else (ii 1)) else (ii 0))) else (if q1.1 = (ii 102) then (if (ii 6) ≤ (q1.2.1 80 38) then (ii 0) else (ii 1)) else (ii 0))))))]) (h' := q1.2) 40 2 (Nat.le_of_ble_eq_true rfl) tk_R_readClause rfl rfl ⟨trivial, trivial, trivial⟩ ?_
    refine Ev.if_ne 42 93 tk_R_readClause rfl (by decide) (fun hc4 => ?_) (fun hc4 => ?_)
    · replace hx := ia hc4 hx
      refine Ev.blk (pc' := 104) (lv' := [some (vr 12 0 80), some (vi q1.1), some (vi (if q1.1 = (ii 115) then (if (q1.2.1 80 40) = 0 then (ii 1) else (if q1.1 = (ii 118) then (if (q1.2.1 80 35) < (ii 4) then (ii 1) else (if q1.1 = (ii 105) then (if (q1.2.1 80 36) < (ii 6) then (ii 1) else (if q1.1 = (ii 107) then (if (q1.2.1 80 37) < (ii 6) then (ii 1) else (if q1.1 = (ii 102) then (if (ii 6) ≤ (q1.2.1 80 38) then (ii 0) else (ii 1)) else (ii 0))) else (if q1.1 = (ii 102) then (if (ii 6) ≤ (q1.2.1 80 38) then (ii 0) else (ii 1)) else (ii 0)))) else (if q1.1 = (ii 107) then (if (q1.2.1 80 37) < (ii 6) then (ii 1) else (if q1.1 = (ii 102) then (if (ii 6) ≤ (q1.2.1 80 38) then (ii 0) else (ii 1)) else (ii 0))) else (if q1.1 = (ii 102) then (if (ii 6) ≤ (q1.2.1 80 38) then (ii 0) else (ii 1)) else (ii 0))))) else (if q1.1 = (ii 105) then (if (q1.2.1 80 36) < (ii 6) then (ii 1) else (if q1.1 = (ii 107) then (if (q1.2.1 80 37) < (ii 6) then (ii 1) else (if q1.1 = (ii 102) then (if (ii 6) ≤ (q1.2.1 80 38) then (ii 0) else (ii 1)) else (ii 0))) else (if q1.1 = (ii 102) then (if (ii 6) ≤ (q1.2.1 80 38) then (ii 0) else (ii 1)) else (ii 0)))) else (if q1.1 = (ii 107) then (if (q1.2.1 80 37) < (ii 6) then (ii 1) else (if q1.1 = (ii 102) then (if (ii 6) ≤ (q1.2.1 80 38) then (ii 0) else (ii 1)) else (ii 0))) else (if q1.1 = (ii 102) then (if (ii 6) ≤ (q1.2.1 80 38) then (ii 0) else (ii 1)) else (ii 0)))))) else (if q1.1 = (ii 118) then (if (q1.2.1 80 35) < (ii 4) then (ii 1) else (if q1.1 = (ii 105) then (if (q1.2.1 80 36) < (ii 6) then (ii 1) else (if q1.1 = (ii 107) then (if (q1.2.1 80 37) < (ii 6) then (ii 1) else (if q1.1 = (ii 102) then (if (ii 6) ≤ (q1.2.1 80 38) then (ii 0) else (ii 1)) else (ii 0))) else (if q1.1 = (ii 102) then (if (ii 6) ≤ (q1.2.1 80 38) then (ii 0) else (ii 1)) else (ii 0)))) else (if q1.1 = (ii 107) then (if (q1.2.1 80 37) < (ii 6) then (ii 1) else (if q1.1 = (ii 102) then (if (ii 6) ≤ (q1.2.1 80 38) then (ii 0) else (ii 1)) else (ii 0))) else (if q1.1 = (ii 102) then (if (ii 6) ≤ (q1.2.1 80 38) then (ii 0) else (ii 1)) else (ii 0))))) else (if q1.1 = (ii 105) then (if (q1.2.1 80 36) < (ii 6) then (ii 1) else (if q1.1 = (ii 107) then (if (q1.2.1 80 37) < (ii 6) then (ii 1) else (if q1.1 = (ii 102) then (if (ii 6) ≤ (q1.2.1 80 38) then (ii 0) else (ii 1)) else (ii 0))) else (if q1.1 = (ii 102) then (if (ii 6) ≤ (q1.2.1 80 38) then (ii 0) else (ii 1)) else (ii 0)))) else (if q1.1 = (ii 107) then (if (q1.2.1 80 37) < (ii 6) then (ii 1) else (if q1.1 = (ii 102) then (if (ii 6) ≤ (q1.2.1 80 38) then (ii 0) else (ii 1)) else (ii 0))) else (if q1.1 = (ii 102) then (if (ii 6) ≤ (q1.2.1 80 38) then (ii 0) else (ii 1)) else (ii 0)))))))]) (st' := [vi q1.1]) (h' := (wI q1.2 80 10 ((q1.2.1 80 10) + (ii 1)))) 47 7 (Nat.le_of_ble_eq_true rfl) tk_R_readClause rfl rfl ⟨trivial, trivial, trivial, trivial, trivial, trivial, trivial, trivial⟩ ?_
      by_cases hc5 : q1.1 = ii 105
      · replace hx := ip hc5 hx
        refine Ev.look 54 176 tk_R_readClause rfl (by decide) (off := 72) (by rw [hc5]; decide) (by decide) ?_
        refine Ev.blk (pc' := 203) (lv' := [some (vr 12 0 80), some (vi q1.1), some (vi (if q1.1 = (ii 115) then (if (q1.2.1 80 40) = 0 then (ii 1) else (if q1.1 = (ii 118) then (if (q1.2.1 80 35) < (ii 4) then (ii 1) else (if q1.1 = (ii 105) then (if (q1.2.1 80 36) < (ii 6) then (ii 1) else (if q1.1 = (ii 107) then (if (q1.2.1 80 37) < (ii 6) then (ii 1) else (if q1.1 = (ii 102) then (if (ii 6) ≤ (q1.2.1 80 38) then (ii 0) else (ii 1)) else (ii 0))) else (if q1.1 = (ii 102) then (if (ii 6) ≤ (q1.2.1 80 38) then (ii 0) else (ii 1)) else (ii 0)))) else (if q1.1 = (ii 107) then (if (q1.2.1 80 37) < (ii 6) then (ii 1) else (if q1.1 = (ii 102) then (if (ii 6) ≤ (q1.2.1 80 38) then (ii 0) else (ii 1)) else (ii 0))) else (if q1.1 = (ii 102) then (if (ii 6) ≤ (q1.2.1 80 38) then (ii 0) else (ii 1)) else (ii 0))))) else (if q1.1 = (ii 105) then (if (q1.2.1 80 36) < (ii 6) then (ii 1) else (if q1.1 = (ii 107) then (if (q1.2.1 80 37) < (ii 6) then (ii 1) else (if q1.1 = (ii 102) then (if (ii 6) ≤ (q1.2.1 80 38) then (ii 0) else (ii 1)) else (ii 0))) else (if q1.1 = (ii 102) then (if (ii 6) ≤ (q1.2.1 80 38) then (ii 0) else (ii 1)) else (ii 0)))) else (if q1.1 = (ii 107) then (if (q1.2.1 80 37) < (ii 6) then (ii 1) else (if q1.1 = (ii 102) then (if (ii 6) ≤ (q1.2.1 80 38) then (ii 0) else (ii 1)) else (ii 0))) else (if q1.1 = (ii 102) then (if (ii 6) ≤ (q1.2.1 80 38) then (ii 0) else (ii 1)) else (ii 0)))))) else (if q1.1 = (ii 118) then (if (q1.2.1 80 35) < (ii 4) then (ii 1) else (if q1.1 = (ii 105) then (if (q1.2.1 80 36) < (ii 6) then (ii 1) else (if q1.1 = (ii 107) then (if (q1.2.1 80 37) < (ii 6) then (ii 1) else (if q1.1 = (ii 102) then (if (ii 6) ≤ (q1.2.1 80 38) then (ii 0) else (ii 1)) else (ii 0))) else (if q1.1 = (ii 102) then (if (ii 6) ≤ (q1.2.1 80 38) then (ii 0) else (ii 1)) else (ii 0)))) else (if q1.1 = (ii 107) then (if (q1.2.1 80 37) < (ii 6) then (ii 1) else (if q1.1 = (ii 102) then (if (ii 6) ≤ (q1.2.1 80 38) then (ii 0) else (ii 1)) else (ii 0))) else (if q1.1 = (ii 102) then (if (ii 6) ≤ (q1.2.1 80 38) then (ii 0) else (ii 1)) else (ii 0))))) else (if q1.1 = (ii 105) then (if (q1.2.1 80 36) < (ii 6) then (ii 1) else (if q1.1 = (ii 107) then (if (q1.2.1 80 37) < (ii 6) then (ii 1) else (if q1.1 = (ii 102) then (if (ii 6) ≤ (q1.2.1 80 38) then (ii 0) else (ii 1)) else (ii 0))) else (if q1.1 = (ii 102) then (if (ii 6) ≤ (q1.2.1 80 38) then (ii 0) else (ii 1)) else (ii 0)))) else (if q1.1 = (ii 107) then (if (q1.2.1 80 37) < (ii 6) then (ii 1) else (if q1.1 = (ii 102) then (if (ii 6) ≤ (q1.2.1 80 38) then (ii 0) else (ii 1)) else (ii 0))) else (if q1.1 = (ii 102) then (if (ii 6) ≤ (q1.2.1 80 38) then (ii 0) else (ii 1)) else (ii 0)))))))]) (st' := [vr 31 0 3, vi ((ii 2) * (((wI (wI q1.2 80 10 ((q1.2.1 80 10) + (ii 1))) 80 36 (((wI q1.2 80 10 ((q1.2.1 80 10) + (ii 1))).1 80 36) + (ii 1))).1 80 36) - (ii 1))), vr 20 12 90, vi q1.1, vr 12 0 80]) (h' := (wI (wI q1.2 80 10 ((q1.2.1 80 10) + (ii 1))) 80 36 (((wI q1.2 80 10 ((q1.2.1 80 10) + (ii 1))).1 80 36) + (ii 1)))) 69 17 (Nat.le_of_ble_eq_true rfl) tk_R_readClause rfl rfl ⟨trivial, trivial, trivial, trivial, trivial, trivial, trivial, trivial, trivial, trivial, trivial, trivial, trivial, trivial, trivial, trivial, trivial, trivial⟩ ?_
        obtain ⟨q2, hq6, hx⟩ := bd hx
        refine Ev.callV (ν := m_R_readItems) (av := [vi q1.1, vr 20 12 90, vi ((ii 2) * (((wI (wI q1.2 80 10 ((q1.2.1 80 10) + (ii 1))) 80 36 (((wI q1.2 80 10 ((q1.2.1 80 10) + (ii 1))).1 80 36) + (ii 1))).1 80 36) - (ii 1))), vr 31 0 3]) (rest := []) (r1 := none) (h1 := q2) (ci := 12) (nn := 0) (o := 80) 86 4 tk_R_readClause rfl bb_R_readItems vv_R_readItems lk_12_255 (by decide) rfl rfl (Or.inl rfl) (Nat.le_of_ble_eq_true rfl) (s_R_readItems Γ q1.1 12 90 ((ii 2) * (((wI (wI q1.2 80 10 ((q1.2.1 80 10) + (ii 1))) 80 36 (((wI q1.2 80 10 ((q1.2.1 80 10) + (ii 1))).1 80 36) + (ii 1))).1 80 36) - (ii 1))) 3 (wI (wI q1.2 80 10 ((q1.2.1 80 10) + (ii 1))) 80 36 (((wI q1.2 80 10 ((q1.2.1 80 10) + (ii 1))).1 80 36) + (ii 1))) _ hq6) ?_
        show Ev Γ m_R_readClause 206 [some (vr 12 0 80), some (vi q1.1), some (vi (if q1.1 = (ii 115) then (if (q1.2.1 80 40) = 0 then (ii 1) else (if q1.1 = (ii 118) then (if (q1.2.1 80 35) < (ii 4) then (ii 1) else (if q1.1 = (ii 105) then (if (q1.2.1 80 36) < (ii 6) then (ii 1) else (if q1.1 = (ii 107) then (if (q1.2.1 80 37) < (ii 6) then (ii 1) else (if q1.1 = (ii 102) then (if (ii 6) ≤ (q1.2.1 80 38) then (ii 0) else (ii 1)) else (ii 0))) else (if q1.1 = (ii 102) then (if (ii 6) ≤ (q1.2.1 80 38) then (ii 0) else (ii 1)) else (ii 0)))) else (if q1.1 = (ii 107) then (if (q1.2.1 80 37) < (ii 6) then (ii 1) else (if q1.1 = (ii 102) then (if (ii 6) ≤ (q1.2.1 80 38) then (ii 0) else (ii 1)) else (ii 0))) else (if q1.1 = (ii 102) then (if (ii 6) ≤ (q1.2.1 80 38) then (ii 0) else (ii 1)) else (ii 0))))) else (if q1.1 = (ii 105) then (if (q1.2.1 80 36) < (ii 6) then (ii 1) else (if q1.1 = (ii 107) then (if (q1.2.1 80 37) < (ii 6) then (ii 1) else (if q1.1 = (ii 102) then (if (ii 6) ≤ (q1.2.1 80 38) then (ii 0) else (ii 1)) else (ii 0))) else (if q1.1 = (ii 102) then (if (ii 6) ≤ (q1.2.1 80 38) then (ii 0) else (ii 1)) else (ii 0)))) else (if q1.1 = (ii 107) then (if (q1.2.1 80 37) < (ii 6) then (ii 1) else (if q1.1 = (ii 102) then (if (ii 6) ≤ (q1.2.1 80 38) then (ii 0) else (ii 1)) else (ii 0))) else (if q1.1 = (ii 102) then (if (ii 6) ≤ (q1.2.1 80 38) then (ii 0) else (ii 1)) else (ii 0)))))) else (if q1.1 = (ii 118) then (if (q1.2.1 80 35) < (ii 4) then (ii 1) else (if q1.1 = (ii 105) then (if (q1.2.1 80 36) < (ii 6) then (ii 1) else (if q1.1 = (ii 107) then (if (q1.2.1 80 37) < (ii 6) then (ii 1) else (if q1.1 = (ii 102) then (if (ii 6) ≤ (q1.2.1 80 38) then (ii 0) else (ii 1)) else (ii 0))) else (if q1.1 = (ii 102) then (if (ii 6) ≤ (q1.2.1 80 38) then (ii 0) else (ii 1)) else (ii 0)))) else (if q1.1 = (ii 107) then (if (q1.2.1 80 37) < (ii 6) then (ii 1) else (if q1.1 = (ii 102) then (if (ii 6) ≤ (q1.2.1 80 38) then (ii 0) else (ii 1)) else (ii 0))) else (if q1.1 = (ii 102) then (if (ii 6) ≤ (q1.2.1 80 38) then (ii 0) else (ii 1)) else (ii 0))))) else (if q1.1 = (ii 105) then (if (q1.2.1 80 36) < (ii 6) then (ii 1) else (if q1.1 = (ii 107) then (if (q1.2.1 80 37) < (ii 6) then (ii 1) else (if q1.1 = (ii 102) then (if (ii 6) ≤ (q1.2.1 80 38) then (ii 0) else (ii 1)) else (ii 0))) else (if q1.1 = (ii 102) then (if (ii 6) ≤ (q1.2.1 80 38) then (ii 0) else (ii 1)) else (ii 0)))) else (if q1.1 = (ii 107) then (if (q1.2.1 80 37) < (ii 6) then (ii 1) else (if q1.1 = (ii 102) then (if (ii 6) ≤ (q1.2.1 80 38) then (ii 0) else (ii 1)) else (ii 0))) else (if q1.1 = (ii 102) then (if (ii 6) ≤ (q1.2.1 80 38) then (ii 0) else (ii 1)) else (ii 0)))))))] [] q2 r h'
        refine Ev.blk (pc' := 273) (lv' := [some (vr 12 0 80), some (vi q1.1), some (vi (if q1.1 = (ii 115) then (if (q1.2.1 80 40) = 0 then (ii 1) else (if q1.1 = (ii 118) then (if (q1.2.1 80 35) < (ii 4) then (ii 1) else (if q1.1 = (ii 105) then (if (q1.2.1 80 36) < (ii 6) then (ii 1) else (if q1.1 = (ii 107) then (if (q1.2.1 80 37) < (ii 6) then (ii 1) else (if q1.1 = (ii 102) then (if (ii 6) ≤ (q1.2.1 80 38) then (ii 0) else (ii 1)) else (ii 0))) else (if q1.1 = (ii 102) then (if (ii 6) ≤ (q1.2.1 80 38) then (ii 0) else (ii 1)) else (ii 0)))) else (if q1.1 = (ii 107) then (if (q1.2.1 80 37) < (ii 6) then (ii 1) else (if q1.1 = (ii 102) then (if (ii 6) ≤ (q1.2.1 80 38) then (ii 0) else (ii 1)) else (ii 0))) else (if q1.1 = (ii 102) then (if (ii 6) ≤ (q1.2.1 80 38) then (ii 0) else (ii 1)) else (ii 0))))) else (if q1.1 = (ii 105) then (if (q1.2.1 80 36) < (ii 6) then (ii 1) else (if q1.1 = (ii 107) then (if (q1.2.1 80 37) < (ii 6) then (ii 1) else (if q1.1 = (ii 102) then (if (ii 6) ≤ (q1.2.1 80 38) then (ii 0) else (ii 1)) else (ii 0))) else (if q1.1 = (ii 102) then (if (ii 6) ≤ (q1.2.1 80 38) then (ii 0) else (ii 1)) else (ii 0)))) else (if q1.1 = (ii 107) then (if (q1.2.1 80 37) < (ii 6) then (ii 1) else (if q1.1 = (ii 102) then (if (ii 6) ≤ (q1.2.1 80 38) then (ii 0) else (ii 1)) else (ii 0))) else (if q1.1 = (ii 102) then (if (ii 6) ≤ (q1.2.1 80 38) then (ii 0) else (ii 1)) else (ii 0)))))) else (if q1.1 = (ii 118) then (if (q1.2.1 80 35) < (ii 4) then (ii 1) else (if q1.1 = (ii 105) then (if (q1.2.1 80 36) < (ii 6) then (ii 1) else (if q1.1 = (ii 107) then (if (q1.2.1 80 37) < (ii 6) then (ii 1) else (if q1.1 = (ii 102) then (if (ii 6) ≤ (q1.2.1 80 38) then (ii 0) else (ii 1)) else (ii 0))) else (if q1.1 = (ii 102) then (if (ii 6) ≤ (q1.2.1 80 38) then (ii 0) else (ii 1)) else (ii 0)))) else (if q1.1 = (ii 107) then (if (q1.2.1 80 37) < (ii 6) then (ii 1) else (if q1.1 = (ii 102) then (if (ii 6) ≤ (q1.2.1 80 38) then (ii 0) else (ii 1)) else (ii 0))) else (if q1.1 = (ii 102) then (if (ii 6) ≤ (q1.2.1 80 38) then (ii 0) else (ii 1)) else (ii 0))))) else (if q1.1 = (ii 105) then (if (q1.2.1 80 36) < (ii 6) then (ii 1) else (if q1.1 = (ii 107) then (if (q1.2.1 80 37) < (ii 6) then (ii 1) else (if q1.1 = (ii 102) then (if (ii 6) ≤ (q1.2.1 80 38) then (ii 0) else (ii 1)) else (ii 0))) else (if q1.1 = (ii 102) then (if (ii 6) ≤ (q1.2.1 80 38) then (ii 0) else (ii 1)) else (ii 0)))) else (if q1.1 = (ii 107) then (if (q1.2.1 80 37) < (ii 6) then (ii 1) else (if q1.1 = (ii 102) then (if (ii 6) ≤ (q1.2.1 80 38) then (ii 0) else (ii 1)) else (ii 0))) else (if q1.1 = (ii 102) then (if (ii 6) ≤ (q1.2.1 80 38) then (ii 0) else (ii 1)) else (ii 0)))))))]) (st' := []) (h' := q2) 87 1 (Nat.le_of_ble_eq_true rfl) tk_R_readClause rfl rfl ⟨trivial, trivial⟩ ?_
        obtain rfl := Option.some.inj hx
        obtain ⟨rfl, rfl⟩ := hP
        exact Ev.vret 125 tk_R_readClause rfl rfl
      replace hx := ia hc5 hx
      by_cases hc7 : q1.1 = ii 107
      · replace hx := ip hc7 hx
        refine Ev.look 54 209 tk_R_readClause rfl (by decide) (off := 105) (by rw [hc7]; decide) (by decide) ?_
        refine Ev.blk (pc' := 236) (lv' := [some (vr 12 0 80), some (vi q1.1), some (vi (if q1.1 = (ii 115) then (if (q1.2.1 80 40) = 0 then (ii 1) else (if q1.1 = (ii 118) then (if (q1.2.1 80 35) < (ii 4) then (ii 1) else (if q1.1 = (ii 105) then (if (q1.2.1 80 36) < (ii 6) then (ii 1) else (if q1.1 = (ii 107) then (if (q1.2.1 80 37) < (ii 6) then (ii 1) else (if q1.1 = (ii 102) then (if (ii 6) ≤ (q1.2.1 80 38) then (ii 0) else (ii 1)) else (ii 0))) else (if q1.1 = (ii 102) then (if (ii 6) ≤ (q1.2.1 80 38) then (ii 0) else (ii 1)) else (ii 0)))) else (if q1.1 = (ii 107) then (if (q1.2.1 80 37) < (ii 6) then (ii 1) else (if q1.1 = (ii 102) then (if (ii 6) ≤ (q1.2.1 80 38) then (ii 0) else (ii 1)) else (ii 0))) else (if q1.1 = (ii 102) then (if (ii 6) ≤ (q1.2.1 80 38) then (ii 0) else (ii 1)) else (ii 0))))) else (if q1.1 = (ii 105) then (if (q1.2.1 80 36) < (ii 6) then (ii 1) else (if q1.1 = (ii 107) then (if (q1.2.1 80 37) < (ii 6) then (ii 1) else (if q1.1 = (ii 102) then (if (ii 6) ≤ (q1.2.1 80 38) then (ii 0) else (ii 1)) else (ii 0))) else (if q1.1 = (ii 102) then (if (ii 6) ≤ (q1.2.1 80 38) then (ii 0) else (ii 1)) else (ii 0)))) else (if q1.1 = (ii 107) then (if (q1.2.1 80 37) < (ii 6) then (ii 1) else (if q1.1 = (ii 102) then (if (ii 6) ≤ (q1.2.1 80 38) then (ii 0) else (ii 1)) else (ii 0))) else (if q1.1 = (ii 102) then (if (ii 6) ≤ (q1.2.1 80 38) then (ii 0) else (ii 1)) else (ii 0)))))) else (if q1.1 = (ii 118) then (if (q1.2.1 80 35) < (ii 4) then (ii 1) else (if q1.1 = (ii 105) then (if (q1.2.1 80 36) < (ii 6) then (ii 1) else (if q1.1 = (ii 107) then (if (q1.2.1 80 37) < (ii 6) then (ii 1) else (if q1.1 = (ii 102) then (if (ii 6) ≤ (q1.2.1 80 38) then (ii 0) else (ii 1)) else (ii 0))) else (if q1.1 = (ii 102) then (if (ii 6) ≤ (q1.2.1 80 38) then (ii 0) else (ii 1)) else (ii 0)))) else (if q1.1 = (ii 107) then (if (q1.2.1 80 37) < (ii 6) then (ii 1) else (if q1.1 = (ii 102) then (if (ii 6) ≤ (q1.2.1 80 38) then (ii 0) else (ii 1)) else (ii 0))) else (if q1.1 = (ii 102) then (if (ii 6) ≤ (q1.2.1 80 38) then (ii 0) else (ii 1)) else (ii 0))))) else (if q1.1 = (ii 105) then (if (q1.2.1 80 36) < (ii 6) then (ii 1) else (if q1.1 = (ii 107) then (if (q1.2.1 80 37) < (ii 6) then (ii 1) else (if q1.1 = (ii 102) then (if (ii 6) ≤ (q1.2.1 80 38) then (ii 0) else (ii 1)) else (ii 0))) else (if q1.1 = (ii 102) then (if (ii 6) ≤ (q1.2.1 80 38) then (ii 0) else (ii 1)) else (ii 0)))) else (if q1.1 = (ii 107) then (if (q1.2.1 80 37) < (ii 6) then (ii 1) else (if q1.1 = (ii 102) then (if (ii 6) ≤ (q1.2.1 80 38) then (ii 0) else (ii 1)) else (ii 0))) else (if q1.1 = (ii 102) then (if (ii 6) ≤ (q1.2.1 80 38) then (ii 0) else (ii 1)) else (ii 0)))))))]) (st' := [vr 31 0 4, vi ((ii 2) * (((wI (wI q1.2 80 10 ((q1.2.1 80 10) + (ii 1))) 80 37 (((wI q1.2 80 10 ((q1.2.1 80 10) + (ii 1))).1 80 37) + (ii 1))).1 80 37) - (ii 1))), vr 20 12 92, vi q1.1, vr 12 0 80]) (h' := (wI (wI q1.2 80 10 ((q1.2.1 80 10) + (ii 1))) 80 37 (((wI q1.2 80 10 ((q1.2.1 80 10) + (ii 1))).1 80 37) + (ii 1)))) 88 17 (Nat.le_of_ble_eq_true rfl) tk_R_readClause rfl rfl ⟨trivial, trivial, trivial, trivial, trivial, trivial, trivial, trivial, trivial, trivial, trivial, trivial, trivial, trivial, trivial, trivial, trivial, trivial⟩ ?_
        obtain ⟨q3, hq8, hx⟩ := bd hx
        refine Ev.callV (ν := m_R_readItems) (av := [vi q1.1, vr 20 12 92, vi ((ii 2) * (((wI (wI q1.2 80 10 ((q1.2.1 80 10) + (ii 1))) 80 37 (((wI q1.2 80 10 ((q1.2.1 80 10) + (ii 1))).1 80 37) + (ii 1))).1 80 37) - (ii 1))), vr 31 0 4]) (rest := []) (r1 := none) (h1 := q3) (ci := 12) (nn := 0) (o := 80) 105 4 tk_R_readClause rfl bb_R_readItems vv_R_readItems lk_12_255 (by decide) rfl rfl (Or.inl rfl) (Nat.le_of_ble_eq_true rfl) (s_R_readItems Γ q1.1 12 92 ((ii 2) * (((wI (wI q1.2 80 10 ((q1.2.1 80 10) + (ii 1))) 80 37 (((wI q1.2 80 10 ((q1.2.1 80 10) + (ii 1))).1 80 37) + (ii 1))).1 80 37) - (ii 1))) 4 (wI (wI q1.2 80 10 ((q1.2.1 80 10) + (ii 1))) 80 37 (((wI q1.2 80 10 ((q1.2.1 80 10) + (ii 1))).1 80 37) + (ii 1))) _ hq8) ?_
        show Ev Γ m_R_readClause 239 [some (vr 12 0 80), some (vi q1.1), some (vi (if q1.1 = (ii 115) then (if (q1.2.1 80 40) = 0 then (ii 1) else (if q1.1 = (ii 118) then (if (q1.2.1 80 35) < (ii 4) then (ii 1) else (if q1.1 = (ii 105) then (if (q1.2.1 80 36) < (ii 6) then (ii 1) else (if q1.1 = (ii 107) then (if (q1.2.1 80 37) < (ii 6) then (ii 1) else (if q1.1 = (ii 102) then (if (ii 6) ≤ (q1.2.1 80 38) then (ii 0) else (ii 1)) else (ii 0))) else (if q1.1 = (ii 102) then (if (ii 6) ≤ (q1.2.1 80 38) then (ii 0) else (ii 1)) else (ii 0)))) else (if q1.1 = (ii 107) then (if (q1.2.1 80 37) < (ii 6) then (ii 1) else (if q1.1 = (ii 102) then (if (ii 6) ≤ (q1.2.1 80 38) then (ii 0) else (ii 1)) else (ii 0))) else (if q1.1 = (ii 102) then (if (ii 6) ≤ (q1.2.1 80 38) then (ii 0) else (ii 1)) else (ii 0))))) else (if q1.1 = (ii 105) then (if (q1.2.1 80 36) < (ii 6) then (ii 1) else (if q1.1 = (ii 107) then (if (q1.2.1 80 37) < (ii 6) then (ii 1) else (if q1.1 = (ii 102) then (if (ii 6) ≤ (q1.2.1 80 38) then (ii 0) else (ii 1)) else (ii 0))) else (if q1.1 = (ii 102) then (if (ii 6) ≤ (q1.2.1 80 38) then (ii 0) else (ii 1)) else (ii 0)))) else (if q1.1 = (ii 107) then (if (q1.2.1 80 37) < (ii 6) then (ii 1) else (if q1.1 = (ii 102) then (if (ii 6) ≤ (q1.2.1 80 38) then (ii 0) else (ii 1)) else (ii 0))) else (if q1.1 = (ii 102) then (if (ii 6) ≤ (q1.2.1 80 38) then (ii 0) else (ii 1)) else (ii 0)))))) else (if q1.1 = (ii 118) then (if (q1.2.1 80 35) < (ii 4) then (ii 1) else (if q1.1 = (ii 105) then (if (q1.2.1 80 36) < (ii 6) then (ii 1) else (if q1.1 = (ii 107) then (if (q1.2.1 80 37) < (ii 6) then (ii 1) else (if q1.1 = (ii 102) then (if (ii 6) ≤ (q1.2.1 80 38) then (ii 0) else (ii 1)) else (ii 0))) else (if q1.1 = (ii 102) then (if (ii 6) ≤ (q1.2.1 80 38) then (ii 0) else (ii 1)) else (ii 0)))) else (if q1.1 = (ii 107) then (if (q1.2.1 80 37) < (ii 6) then (ii 1) else (if q1.1 = (ii 102) then (if (ii 6) ≤ (q1.2.1 80 38) then (ii 0) else (ii 1)) else (ii 0))) else (if q1.1 = (ii 102) then (if (ii 6) ≤ (q1.2.1 80 38) then (ii 0) else (ii 1)) else (ii 0))))) else (if q1.1 = (ii 105) then (if (q1.2.1 80 36) < (ii 6) then (ii 1) else (if q1.1 = (ii 107) then (if (q1.2.1 80 37) < (ii 6) then (ii 1) else (if q1.1 = (ii 102) then (if (ii 6) ≤ (q1.2.1 80 38) then (ii 0) else (ii 1)) else (ii 0))) else (if q1.1 = (ii 102) then (if (ii 6) ≤ (q1.2.1 80 38) then (ii 0) else (ii 1)) else (ii 0)))) else (if q1.1 = (ii 107) then (if (q1.2.1 80 37) < (ii 6) then (ii 1) else (if q1.1 = (ii 102) then (if (ii 6) ≤ (q1.2.1 80 38) then (ii 0) else (ii 1)) else (ii 0))) else (if q1.1 = (ii 102) then (if (ii 6) ≤ (q1.2.1 80 38) then (ii 0) else (ii 1)) else (ii 0)))))))] [] q3 r h'
        refine Ev.blk (pc' := 273) (lv' := [some (vr 12 0 80), some (vi q1.1), some (vi (if q1.1 = (ii 115) then (if (q1.2.1 80 40) = 0 then (ii 1) else (if q1.1 = (ii 118) then (if (q1.2.1 80 35) < (ii 4) then (ii 1) else (if q1.1 = (ii 105) then (if (q1.2.1 80 36) < (ii 6) then (ii 1) else (if q1.1 = (ii 107) then (if (q1.2.1 80 37) < (ii 6) then (ii 1) else (if q1.1 = (ii 102) then (if (ii 6) ≤ (q1.2.1 80 38) then (ii 0) else (ii 1)) else (ii 0))) else (if q1.1 = (ii 102) then (if (ii 6) ≤ (q1.2.1 80 38) then (ii 0) else (ii 1)) else (ii 0)))) else (if q1.1 = (ii 107) then (if (q1.2.1 80 37) < (ii 6) then (ii 1) else (if q1.1 = (ii 102) then (if (ii 6) ≤ (q1.2.1 80 38) then (ii 0) else (ii 1)) else (ii 0))) else (if q1.1 = (ii 102) then (if (ii 6) ≤ (q1.2.1 80 38) then (ii 0) else (ii 1)) else (ii 0))))) else (if q1.1 = (ii 105) then (if (q1.2.1 80 36) < (ii 6) then (ii 1) else (if q1.1 = (ii 107) then (if (q1.2.1 80 37) < (ii 6) then (ii 1) else (if q1.1 = (ii 102) then (if (ii 6) ≤ (q1.2.1 80 38) then (ii 0) else (ii 1)) else (ii 0))) else (if q1.1 = (ii 102) then (if (ii 6) ≤ (q1.2.1 80 38) then (ii 0) else (ii 1)) else (ii 0)))) else (if q1.1 = (ii 107) then (if (q1.2.1 80 37) < (ii 6) then (ii 1) else (if q1.1 = (ii 102) then (if (ii 6) ≤ (q1.2.1 80 38) then (ii 0) else (ii 1)) else (ii 0))) else (if q1.1 = (ii 102) then (if (ii 6) ≤ (q1.2.1 80 38) then (ii 0) else (ii 1)) else (ii 0)))))) else (if q1.1 = (ii 118) then (if (q1.2.1 80 35) < (ii 4) then (ii 1) else (if q1.1 = (ii 105) then (if (q1.2.1 80 36) < (ii 6) then (ii 1) else (if q1.1 = (ii 107) then (if (q1.2.1 80 37) < (ii 6) then (ii 1) else (if q1.1 = (ii 102) then (if (ii 6) ≤ (q1.2.1 80 38) then (ii 0) else (ii 1)) else (ii 0))) else (if q1.1 = (ii 102) then (if (ii 6) ≤ (q1.2.1 80 38) then (ii 0) else (ii 1)) else (ii 0)))) else (if q1.1 = (ii 107) then (if (q1.2.1 80 37) < (ii 6) then (ii 1) else (if q1.1 = (ii 102) then (if (ii 6) ≤ (q1.2.1 80 38) then (ii 0) else (ii 1)) else (ii 0))) else (if q1.1 = (ii 102) then (if (ii 6) ≤ (q1.2.1 80 38) then (ii 0) else (ii 1)) else (ii 0))))) else (if q1.1 = (ii 105) then (if (q1.2.1 80 36) < (ii 6) then (ii 1) else (if q1.1 = (ii 107) then (if (q1.2.1 80 37) < (ii 6) then (ii 1) else (if q1.1 = (ii 102) then (if (ii 6) ≤ (q1.2.1 80 38) then (ii 0) else (ii 1)) else (ii 0))) else (if q1.1 = (ii 102) then (if (ii 6) ≤ (q1.2.1 80 38) then (ii 0) else (ii 1)) else (ii 0)))) else (if q1.1 = (ii 107) then (if (q1.2.1 80 37) < (ii 6) then (ii 1) else (if q1.1 = (ii 102) then (if (ii 6) ≤ (q1.2.1 80 38) then (ii 0) else (ii 1)) else (ii 0))) else (if q1.1 = (ii 102) then (if (ii 6) ≤ (q1.2.1 80 38) then (ii 0) else (ii 1)) else (ii 0)))))))]) (st' := []) (h' := q3) 106 1 (Nat.le_of_ble_eq_true rfl) tk_R_readClause rfl rfl ⟨trivial, trivial⟩ ?_
        obtain rfl := Option.some.inj hx
        obtain ⟨rfl, rfl⟩ := hP
        exact Ev.vret 125 tk_R_readClause rfl rfl
      replace hx := ia hc7 hx
      by_cases hc9 : q1.1 = ii 115
      · replace hx := ip hc9 hx
        refine Ev.look 54 148 tk_R_readClause rfl (by decide) (off := 44) (by rw [hc9]; decide) (by decide) ?_
        refine Ev.blk (pc' := 163) (lv' := [some (vr 12 0 80), some (vi q1.1), some (vi (if q1.1 = (ii 115) then (if (q1.2.1 80 40) = 0 then (ii 1) else (if q1.1 = (ii 118) then (if (q1.2.1 80 35) < (ii 4) then (ii 1) else (if q1.1 = (ii 105) then (if (q1.2.1 80 36) < (ii 6) then (ii 1) else (if q1.1 = (ii 107) then (if (q1.2.1 80 37) < (ii 6) then (ii 1) else (if q1.1 = (ii 102) then (if (ii 6) ≤ (q1.2.1 80 38) then (ii 0) else (ii 1)) else (ii 0))) else (if q1.1 = (ii 102) then (if (ii 6) ≤ (q1.2.1 80 38) then (ii 0) else (ii 1)) else (ii 0)))) else (if q1.1 = (ii 107) then (if (q1.2.1 80 37) < (ii 6) then (ii 1) else (if q1.1 = (ii 102) then (if (ii 6) ≤ (q1.2.1 80 38) then (ii 0) else (ii 1)) else (ii 0))) else (if q1.1 = (ii 102) then (if (ii 6) ≤ (q1.2.1 80 38) then (ii 0) else (ii 1)) else (ii 0))))) else (if q1.1 = (ii 105) then (if (q1.2.1 80 36) < (ii 6) then (ii 1) else (if q1.1 = (ii 107) then (if (q1.2.1 80 37) < (ii 6) then (ii 1) else (if q1.1 = (ii 102) then (if (ii 6) ≤ (q1.2.1 80 38) then (ii 0) else (ii 1)) else (ii 0))) else (if q1.1 = (ii 102) then (if (ii 6) ≤ (q1.2.1 80 38) then (ii 0) else (ii 1)) else (ii 0)))) else (if q1.1 = (ii 107) then (if (q1.2.1 80 37) < (ii 6) then (ii 1) else (if q1.1 = (ii 102) then (if (ii 6) ≤ (q1.2.1 80 38) then (ii 0) else (ii 1)) else (ii 0))) else (if q1.1 = (ii 102) then (if (ii 6) ≤ (q1.2.1 80 38) then (ii 0) else (ii 1)) else (ii 0)))))) else (if q1.1 = (ii 118) then (if (q1.2.1 80 35) < (ii 4) then (ii 1) else (if q1.1 = (ii 105) then (if (q1.2.1 80 36) < (ii 6) then (ii 1) else (if q1.1 = (ii 107) then (if (q1.2.1 80 37) < (ii 6) then (ii 1) else (if q1.1 = (ii 102) then (if (ii 6) ≤ (q1.2.1 80 38) then (ii 0) else (ii 1)) else (ii 0))) else (if q1.1 = (ii 102) then (if (ii 6) ≤ (q1.2.1 80 38) then (ii 0) else (ii 1)) else (ii 0)))) else (if q1.1 = (ii 107) then (if (q1.2.1 80 37) < (ii 6) then (ii 1) else (if q1.1 = (ii 102) then (if (ii 6) ≤ (q1.2.1 80 38) then (ii 0) else (ii 1)) else (ii 0))) else (if q1.1 = (ii 102) then (if (ii 6) ≤ (q1.2.1 80 38) then (ii 0) else (ii 1)) else (ii 0))))) else (if q1.1 = (ii 105) then (if (q1.2.1 80 36) < (ii 6) then (ii 1) else (if q1.1 = (ii 107) then (if (q1.2.1 80 37) < (ii 6) then (ii 1) else (if q1.1 = (ii 102) then (if (ii 6) ≤ (q1.2.1 80 38) then (ii 0) else (ii 1)) else (ii 0))) else (if q1.1 = (ii 102) then (if (ii 6) ≤ (q1.2.1 80 38) then (ii 0) else (ii 1)) else (ii 0)))) else (if q1.1 = (ii 107) then (if (q1.2.1 80 37) < (ii 6) then (ii 1) else (if q1.1 = (ii 102) then (if (ii 6) ≤ (q1.2.1 80 38) then (ii 0) else (ii 1)) else (ii 0))) else (if q1.1 = (ii 102) then (if (ii 6) ≤ (q1.2.1 80 38) then (ii 0) else (ii 1)) else (ii 0)))))))]) (st' := [vr 31 0 1, vi (ii 0), vr 20 4 86, vi q1.1, vr 12 0 80]) (h' := (wI (wI q1.2 80 10 ((q1.2.1 80 10) + (ii 1))) 80 40 (ii 1))) 55 9 (Nat.le_of_ble_eq_true rfl) tk_R_readClause rfl rfl ⟨trivial, trivial, (by decide), trivial, trivial, trivial, trivial, trivial, trivial, trivial⟩ ?_
        obtain ⟨q4, hq10, hx⟩ := bd hx
        refine Ev.callV (ν := m_R_readItems) (av := [vi q1.1, vr 20 4 86, vi (ii 0), vr 31 0 1]) (rest := []) (r1 := none) (h1 := q4) (ci := 12) (nn := 0) (o := 80) 64 4 tk_R_readClause rfl bb_R_readItems vv_R_readItems lk_12_255 (by decide) rfl rfl (Or.inl rfl) (Nat.le_of_ble_eq_true rfl) (s_R_readItems Γ q1.1 4 86 (ii 0) 1 (wI (wI q1.2 80 10 ((q1.2.1 80 10) + (ii 1))) 80 40 (ii 1)) _ hq10) ?_
        show Ev Γ m_R_readClause 166 [some (vr 12 0 80), some (vi q1.1), some (vi (if q1.1 = (ii 115) then (if (q1.2.1 80 40) = 0 then (ii 1) else (if q1.1 = (ii 118) then (if (q1.2.1 80 35) < (ii 4) then (ii 1) else (if q1.1 = (ii 105) then (if (q1.2.1 80 36) < (ii 6) then (ii 1) else (if q1.1 = (ii 107) then (if (q1.2.1 80 37) < (ii 6) then (ii 1) else (if q1.1 = (ii 102) then (if (ii 6) ≤ (q1.2.1 80 38) then (ii 0) else (ii 1)) else (ii 0))) else (if q1.1 = (ii 102) then (if (ii 6) ≤ (q1.2.1 80 38) then (ii 0) else (ii 1)) else (ii 0)))) else (if q1.1 = (ii 107) then (if (q1.2.1 80 37) < (ii 6) then (ii 1) else (if q1.1 = (ii 102) then (if (ii 6) ≤ (q1.2.1 80 38) then (ii 0) else (ii 1)) else (ii 0))) else (if q1.1 = (ii 102) then (if (ii 6) ≤ (q1.2.1 80 38) then (ii 0) else (ii 1)) else (ii 0))))) else (if q1.1 = (ii 105) then (if (q1.2.1 80 36) < (ii 6) then (ii 1) else (if q1.1 = (ii 107) then (if (q1.2.1 80 37) < (ii 6) then (ii 1) else (if q1.1 = (ii 102) then (if (ii 6) ≤ (q1.2.1 80 38) then (ii 0) else (ii 1)) else (ii 0))) else (if q1.1 = (ii 102) then (if (ii 6) ≤ (q1.2.1 80 38) then (ii 0) else (ii 1)) else (ii 0)))) else (if q1.1 = (ii 107) then (if (q1.2.1 80 37) < (ii 6) then (ii 1) else (if q1.1 = (ii 102) then (if (ii 6) ≤ (q1.2.1 80 38) then (ii 0) else (ii 1)) else (ii 0))) else (if q1.1 = (ii 102) then (if (ii 6) ≤ (q1.2.1 80 38) then (ii 0) else (ii 1)) else (ii 0)))))) else (if q1.1 = (ii 118) then (if (q1.2.1 80 35) < (ii 4) then (ii 1) else (if q1.1 = (ii 105) then (if (q1.2.1 80 36) < (ii 6) then (ii 1) else (if q1.1 = (ii 107) then (if (q1.2.1 80 37) < (ii 6) then (ii 1) else (if q1.1 = (ii 102) then (if (ii 6) ≤ (q1.2.1 80 38) then (ii 0) else (ii 1)) else (ii 0))) else (if q1.1 = (ii 102) then (if (ii 6) ≤ (q1.2.1 80 38) then (ii 0) else (ii 1)) else (ii 0)))) else (if q1.1 = (ii 107) then (if (q1.2.1 80 37) < (ii 6) then (ii 1) else (if q1.1 = (ii 102) then (if (ii 6) ≤ (q1.2.1 80 38) then (ii 0) else (ii 1)) else (ii 0))) else (if q1.1 = (ii 102) then (if (ii 6) ≤ (q1.2.1 80 38) then (ii 0) else (ii 1)) else (ii 0))))) else (if q1.1 = (ii 105) then (if (q1.2.1 80 36) < (ii 6) then (ii 1) else (if q1.1 = (ii 107) then (if (q1.2.1 80 37) < (ii 6) then (ii 1) else (if q1.1 = (ii 102) then (if (ii 6) ≤ (q1.2.1 80 38) then (ii 0) else (ii 1)) else (ii 0))) else (if q1.1 = (ii 102) then (if (ii 6) ≤ (q1.2.1 80 38) then (ii 0) else (ii 1)) else (ii 0)))) else (if q1.1 = (ii 107) then (if (q1.2.1 80 37) < (ii 6) then (ii 1) else (if q1.1 = (ii 102) then (if (ii 6) ≤ (q1.2.1 80 38) then (ii 0) else (ii 1)) else (ii 0))) else (if q1.1 = (ii 102) then (if (ii 6) ≤ (q1.2.1 80 38) then (ii 0) else (ii 1)) else (ii 0)))))))] [] q4 r h'
        refine Ev.blk (pc' := 273) (lv' := [some (vr 12 0 80), some (vi q1.1), some (vi (if q1.1 = (ii 115) then (if (q1.2.1 80 40) = 0 then (ii 1) else (if q1.1 = (ii 118) then (if (q1.2.1 80 35) < (ii 4) then (ii 1) else (if q1.1 = (ii 105) then (if (q1.2.1 80 36) < (ii 6) then (ii 1) else (if q1.1 = (ii 107) then (if (q1.2.1 80 37) < (ii 6) then (ii 1) else (if q1.1 = (ii 102) then (if (ii 6) ≤ (q1.2.1 80 38) then (ii 0) else (ii 1)) else (ii 0))) else (if q1.1 = (ii 102) then (if (ii 6) ≤ (q1.2.1 80 38) then (ii 0) else (ii 1)) else (ii 0)))) else (if q1.1 = (ii 107) then (if (q1.2.1 80 37) < (ii 6) then (ii 1) else (if q1.1 = (ii 102) then (if (ii 6) ≤ (q1.2.1 80 38) then (ii 0) else (ii 1)) else (ii 0))) else (if q1.1 = (ii 102) then (if (ii 6) ≤ (q1.2.1 80 38) then (ii 0) else (ii 1)) else (ii 0))))) else (if q1.1 = (ii 105) then (if (q1.2.1 80 36) < (ii 6) then (ii 1) else (if q1.1 = (ii 107) then (if (q1.2.1 80 37) < (ii 6) then (ii 1) else (if q1.1 = (ii 102) then (if (ii 6) ≤ (q1.2.1 80 38) then (ii 0) else (ii 1)) else (ii 0))) else (if q1.1 = (ii 102) then (if (ii 6) ≤ (q1.2.1 80 38) then (ii 0) else (ii 1)) else (ii 0)))) else (if q1.1 = (ii 107) then (if (q1.2.1 80 37) < (ii 6) then (ii 1) else (if q1.1 = (ii 102) then (if (ii 6) ≤ (q1.2.1 80 38) then (ii 0) else (ii 1)) else (ii 0))) else (if q1.1 = (ii 102) then (if (ii 6) ≤ (q1.2.1 80 38) then (ii 0) else (ii 1)) else (ii 0)))))) else (if q1.1 = (ii 118) then (if (q1.2.1 80 35) < (ii 4) then (ii 1) else (if q1.1 = (ii 105) then (if (q1.2.1 80 36) < (ii 6) then (ii 1) else (if q1.1 = (ii 107) then (if (q1.2.1 80 37) < (ii 6) then (ii 1) else (if q1.1 = (ii 102) then (if (ii 6) ≤ (q1.2.1 80 38) then (ii 0) else (ii 1)) else (ii 0))) else (if q1.1 = (ii 102) then (if (ii 6) ≤ (q1.2.1 80 38) then (ii 0) else (ii 1)) else (ii 0)))) else (if q1.1 = (ii 107) then (if (q1.2.1 80 37) < (ii 6) then (ii 1) else (if q1.1 = (ii 102) then (if (ii 6) ≤ (q1.2.1 80 38) then (ii 0) else (ii 1)) else (ii 0))) else (if q1.1 = (ii 102) then (if (ii 6) ≤ (q1.2.1 80 38) then (ii 0) else (ii 1)) else (ii 0))))) else (if q1.1 = (ii 105) then (if (q1.2.1 80 36) < (ii 6) then (ii 1) else (if q1.1 = (ii 107) then (if (q1.2.1 80 37) < (ii 6) then (ii 1) else (if q1.1 = (ii 102) then (if (ii 6) ≤ (q1.2.1 80 38) then (ii 0) else (ii 1)) else (ii 0))) else (if q1.1 = (ii 102) then (if (ii 6) ≤ (q1.2.1 80 38) then (ii 0) else (ii 1)) else (ii 0)))) else (if q1.1 = (ii 107) then (if (q1.2.1 80 37) < (ii 6) then (ii 1) else (if q1.1 = (ii 102) then (if (ii 6) ≤ (q1.2.1 80 38) then (ii 0) else (ii 1)) else (ii 0))) else (if q1.1 = (ii 102) then (if (ii 6) ≤ (q1.2.1 80 38) then (ii 0) else (ii 1)) else (ii 0)))))))]) (st' := []) (h' := q4) 65 1 (Nat.le_of_ble_eq_true rfl) tk_R_readClause rfl rfl ⟨trivial, trivial⟩ ?_
        obtain rfl := Option.some.inj hx
        obtain ⟨rfl, rfl⟩ := hP
        exact Ev.vret 125 tk_R_readClause rfl rfl
      replace hx := ia hc9 hx
      by_cases hc11 : q1.1 = ii 118
      · replace hx := ip hc11 hx
        refine Ev.look 54 169 tk_R_readClause rfl (by decide) (off := 65) (by rw [hc11]; decide) (by decide) ?_
        refine Ev.blk (pc' := 170) (lv' := [some (vr 12 0 80), some (vi q1.1), some (vi (if q1.1 = (ii 115) then (if (q1.2.1 80 40) = 0 then (ii 1) else (if q1.1 = (ii 118) then (if (q1.2.1 80 35) < (ii 4) then (ii 1) else (if q1.1 = (ii 105) then (if (q1.2.1 80 36) < (ii 6) then (ii 1) else (if q1.1 = (ii 107) then (if (q1.2.1 80 37) < (ii 6) then (ii 1) else (if q1.1 = (ii 102) then (if (ii 6) ≤ (q1.2.1 80 38) then (ii 0) else (ii 1)) else (ii 0))) else (if q1.1 = (ii 102) then (if (ii 6) ≤ (q1.2.1 80 38) then (ii 0) else (ii 1)) else (ii 0)))) else (if q1.1 = (ii 107) then (if (q1.2.1 80 37) < (ii 6) then (ii 1) else (if q1.1 = (ii 102) then (if (ii 6) ≤ (q1.2.1 80 38) then (ii 0) else (ii 1)) else (ii 0))) else (if q1.1 = (ii 102) then (if (ii 6) ≤ (q1.2.1 80 38) then (ii 0) else (ii 1)) else (ii 0))))) else (if q1.1 = (ii 105) then (if (q1.2.1 80 36) < (ii 6) then (ii 1) else (if q1.1 = (ii 107) then (if (q1.2.1 80 37) < (ii 6) then (ii 1) else (if q1.1 = (ii 102) then (if (ii 6) ≤ (q1.2.1 80 38) then (ii 0) else (ii 1)) else (ii 0))) else (if q1.1 = (ii 102) then (if (ii 6) ≤ (q1.2.1 80 38) then (ii 0) else (ii 1)) else (ii 0)))) else (if q1.1 = (ii 107) then (if (q1.2.1 80 37) < (ii 6) then (ii 1) else (if q1.1 = (ii 102) then (if (ii 6) ≤ (q1.2.1 80 38) then (ii 0) else (ii 1)) else (ii 0))) else (if q1.1 = (ii 102) then (if (ii 6) ≤ (q1.2.1 80 38) then (ii 0) else (ii 1)) else (ii 0)))))) else (if q1.1 = (ii 118) then (if (q1.2.1 80 35) < (ii 4) then (ii 1) else (if q1.1 = (ii 105) then (if (q1.2.1 80 36) < (ii 6) then (ii 1) else (if q1.1 = (ii 107) then (if (q1.2.1 80 37) < (ii 6) then (ii 1) else (if q1.1 = (ii 102) then (if (ii 6) ≤ (q1.2.1 80 38) then (ii 0) else (ii 1)) else (ii 0))) else (if q1.1 = (ii 102) then (if (ii 6) ≤ (q1.2.1 80 38) then (ii 0) else (ii 1)) else (ii 0)))) else (if q1.1 = (ii 107) then (if (q1.2.1 80 37) < (ii 6) then (ii 1) else (if q1.1 = (ii 102) then (if (ii 6) ≤ (q1.2.1 80 38) then (ii 0) else (ii 1)) else (ii 0))) else (if q1.1 = (ii 102) then (if (ii 6) ≤ (q1.2.1 80 38) then (ii 0) else (ii 1)) else (ii 0))))) else (if q1.1 = (ii 105) then (if (q1.2.1 80 36) < (ii 6) then (ii 1) else (if q1.1 = (ii 107) then (if (q1.2.1 80 37) < (ii 6) then (ii 1) else (if q1.1 = (ii 102) then (if (ii 6) ≤ (q1.2.1 80 38) then (ii 0) else (ii 1)) else (ii 0))) else (if q1.1 = (ii 102) then (if (ii 6) ≤ (q1.2.1 80 38) then (ii 0) else (ii 1)) else (ii 0)))) else (if q1.1 = (ii 107) then (if (q1.2.1 80 37) < (ii 6) then (ii 1) else (if q1.1 = (ii 102) then (if (ii 6) ≤ (q1.2.1 80 38) then (ii 0) else (ii 1)) else (ii 0))) else (if q1.1 = (ii 102) then (if (ii 6) ≤ (q1.2.1 80 38) then (ii 0) else (ii 1)) else (ii 0)))))))]) (st' := [vr 12 0 80]) (h' := (wI q1.2 80 10 ((q1.2.1 80 10) + (ii 1)))) 66 1 (Nat.le_of_ble_eq_true rfl) tk_R_readClause rfl rfl ⟨trivial, trivial⟩ ?_
        obtain ⟨q5, hq12, hx⟩ := bd hx
        refine Ev.callV (ν := m_R_readVein) (av := []) (rest := []) (r1 := none) (h1 := q5) (ci := 12) (nn := 0) (o := 80) 67 0 tk_R_readClause rfl bb_R_readVein vv_R_readVein lk_12_277 (by decide) rfl rfl (Or.inl rfl) (Nat.le_of_ble_eq_true rfl) (s_R_readVein Γ (wI q1.2 80 10 ((q1.2.1 80 10) + (ii 1))) _ hq12) ?_
        show Ev Γ m_R_readClause 173 [some (vr 12 0 80), some (vi q1.1), some (vi (if q1.1 = (ii 115) then (if (q1.2.1 80 40) = 0 then (ii 1) else (if q1.1 = (ii 118) then (if (q1.2.1 80 35) < (ii 4) then (ii 1) else (if q1.1 = (ii 105) then (if (q1.2.1 80 36) < (ii 6) then (ii 1) else (if q1.1 = (ii 107) then (if (q1.2.1 80 37) < (ii 6) then (ii 1) else (if q1.1 = (ii 102) then (if (ii 6) ≤ (q1.2.1 80 38) then (ii 0) else (ii 1)) else (ii 0))) else (if q1.1 = (ii 102) then (if (ii 6) ≤ (q1.2.1 80 38) then (ii 0) else (ii 1)) else (ii 0)))) else (if q1.1 = (ii 107) then (if (q1.2.1 80 37) < (ii 6) then (ii 1) else (if q1.1 = (ii 102) then (if (ii 6) ≤ (q1.2.1 80 38) then (ii 0) else (ii 1)) else (ii 0))) else (if q1.1 = (ii 102) then (if (ii 6) ≤ (q1.2.1 80 38) then (ii 0) else (ii 1)) else (ii 0))))) else (if q1.1 = (ii 105) then (if (q1.2.1 80 36) < (ii 6) then (ii 1) else (if q1.1 = (ii 107) then (if (q1.2.1 80 37) < (ii 6) then (ii 1) else (if q1.1 = (ii 102) then (if (ii 6) ≤ (q1.2.1 80 38) then (ii 0) else (ii 1)) else (ii 0))) else (if q1.1 = (ii 102) then (if (ii 6) ≤ (q1.2.1 80 38) then (ii 0) else (ii 1)) else (ii 0)))) else (if q1.1 = (ii 107) then (if (q1.2.1 80 37) < (ii 6) then (ii 1) else (if q1.1 = (ii 102) then (if (ii 6) ≤ (q1.2.1 80 38) then (ii 0) else (ii 1)) else (ii 0))) else (if q1.1 = (ii 102) then (if (ii 6) ≤ (q1.2.1 80 38) then (ii 0) else (ii 1)) else (ii 0)))))) else (if q1.1 = (ii 118) then (if (q1.2.1 80 35) < (ii 4) then (ii 1) else (if q1.1 = (ii 105) then (if (q1.2.1 80 36) < (ii 6) then (ii 1) else (if q1.1 = (ii 107) then (if (q1.2.1 80 37) < (ii 6) then (ii 1) else (if q1.1 = (ii 102) then (if (ii 6) ≤ (q1.2.1 80 38) then (ii 0) else (ii 1)) else (ii 0))) else (if q1.1 = (ii 102) then (if (ii 6) ≤ (q1.2.1 80 38) then (ii 0) else (ii 1)) else (ii 0)))) else (if q1.1 = (ii 107) then (if (q1.2.1 80 37) < (ii 6) then (ii 1) else (if q1.1 = (ii 102) then (if (ii 6) ≤ (q1.2.1 80 38) then (ii 0) else (ii 1)) else (ii 0))) else (if q1.1 = (ii 102) then (if (ii 6) ≤ (q1.2.1 80 38) then (ii 0) else (ii 1)) else (ii 0))))) else (if q1.1 = (ii 105) then (if (q1.2.1 80 36) < (ii 6) then (ii 1) else (if q1.1 = (ii 107) then (if (q1.2.1 80 37) < (ii 6) then (ii 1) else (if q1.1 = (ii 102) then (if (ii 6) ≤ (q1.2.1 80 38) then (ii 0) else (ii 1)) else (ii 0))) else (if q1.1 = (ii 102) then (if (ii 6) ≤ (q1.2.1 80 38) then (ii 0) else (ii 1)) else (ii 0)))) else (if q1.1 = (ii 107) then (if (q1.2.1 80 37) < (ii 6) then (ii 1) else (if q1.1 = (ii 102) then (if (ii 6) ≤ (q1.2.1 80 38) then (ii 0) else (ii 1)) else (ii 0))) else (if q1.1 = (ii 102) then (if (ii 6) ≤ (q1.2.1 80 38) then (ii 0) else (ii 1)) else (ii 0)))))))] [] q5 r h'
        refine Ev.blk (pc' := 273) (lv' := [some (vr 12 0 80), some (vi q1.1), some (vi (if q1.1 = (ii 115) then (if (q1.2.1 80 40) = 0 then (ii 1) else (if q1.1 = (ii 118) then (if (q1.2.1 80 35) < (ii 4) then (ii 1) else (if q1.1 = (ii 105) then (if (q1.2.1 80 36) < (ii 6) then (ii 1) else (if q1.1 = (ii 107) then (if (q1.2.1 80 37) < (ii 6) then (ii 1) else (if q1.1 = (ii 102) then (if (ii 6) ≤ (q1.2.1 80 38) then (ii 0) else (ii 1)) else (ii 0))) else (if q1.1 = (ii 102) then (if (ii 6) ≤ (q1.2.1 80 38) then (ii 0) else (ii 1)) else (ii 0)))) else (if q1.1 = (ii 107) then (if (q1.2.1 80 37) < (ii 6) then (ii 1) else (if q1.1 = (ii 102) then (if (ii 6) ≤ (q1.2.1 80 38) then (ii 0) else (ii 1)) else (ii 0))) else (if q1.1 = (ii 102) then (if (ii 6) ≤ (q1.2.1 80 38) then (ii 0) else (ii 1)) else (ii 0))))) else (if q1.1 = (ii 105) then (if (q1.2.1 80 36) < (ii 6) then (ii 1) else (if q1.1 = (ii 107) then (if (q1.2.1 80 37) < (ii 6) then (ii 1) else (if q1.1 = (ii 102) then (if (ii 6) ≤ (q1.2.1 80 38) then (ii 0) else (ii 1)) else (ii 0))) else (if q1.1 = (ii 102) then (if (ii 6) ≤ (q1.2.1 80 38) then (ii 0) else (ii 1)) else (ii 0)))) else (if q1.1 = (ii 107) then (if (q1.2.1 80 37) < (ii 6) then (ii 1) else (if q1.1 = (ii 102) then (if (ii 6) ≤ (q1.2.1 80 38) then (ii 0) else (ii 1)) else (ii 0))) else (if q1.1 = (ii 102) then (if (ii 6) ≤ (q1.2.1 80 38) then (ii 0) else (ii 1)) else (ii 0)))))) else (if q1.1 = (ii 118) then (if (q1.2.1 80 35) < (ii 4) then (ii 1) else (if q1.1 = (ii 105) then (if (q1.2.1 80 36) < (ii 6) then (ii 1) else (if q1.1 = (ii 107) then (if (q1.2.1 80 37) < (ii 6) then (ii 1) else (if q1.1 = (ii 102) then (if (ii 6) ≤ (q1.2.1 80 38) then (ii 0) else (ii 1)) else (ii 0))) else (if q1.1 = (ii 102) then (if (ii 6) ≤ (q1.2.1 80 38) then (ii 0) else (ii 1)) else (ii 0)))) else (if q1.1 = (ii 107) then (if (q1.2.1 80 37) < (ii 6) then (ii 1) else (if q1.1 = (ii 102) then (if (ii 6) ≤ (q1.2.1 80 38) then (ii 0) else (ii 1)) else (ii 0))) else (if q1.1 = (ii 102) then (if (ii 6) ≤ (q1.2.1 80 38) then (ii 0) else (ii 1)) else (ii 0))))) else (if q1.1 = (ii 105) then (if (q1.2.1 80 36) < (ii 6) then (ii 1) else (if q1.1 = (ii 107) then (if (q1.2.1 80 37) < (ii 6) then (ii 1) else (if q1.1 = (ii 102) then (if (ii 6) ≤ (q1.2.1 80 38) then (ii 0) else (ii 1)) else (ii 0))) else (if q1.1 = (ii 102) then (if (ii 6) ≤ (q1.2.1 80 38) then (ii 0) else (ii 1)) else (ii 0)))) else (if q1.1 = (ii 107) then (if (q1.2.1 80 37) < (ii 6) then (ii 1) else (if q1.1 = (ii 102) then (if (ii 6) ≤ (q1.2.1 80 38) then (ii 0) else (ii 1)) else (ii 0))) else (if q1.1 = (ii 102) then (if (ii 6) ≤ (q1.2.1 80 38) then (ii 0) else (ii 1)) else (ii 0)))))))]) (st' := []) (h' := q5) 68 1 (Nat.le_of_ble_eq_true rfl) tk_R_readClause rfl rfl ⟨trivial, trivial⟩ ?_
        obtain rfl := Option.some.inj hx
        obtain ⟨rfl, rfl⟩ := hP
        exact Ev.vret 125 tk_R_readClause rfl rfl
      replace hx := ia hc11 hx
      refine Ev.lookD 54 242 tk_R_readClause rfl (by decide) (fun q hq => ?_) (by decide) ?_
      · simp only [List.mem_cons, List.not_mem_nil, or_false] at hq
        rcases hq with rfl | rfl | rfl | rfl
        · exact hc5
        · exact hc7
        · exact hc9
        · exact hc11
      · refine Ev.blk (pc' := 270) (lv' := [some (vr 12 0 80), some (vi q1.1), some (vi (if q1.1 = (ii 115) then (if (q1.2.1 80 40) = 0 then (ii 1) else (if q1.1 = (ii 118) then (if (q1.2.1 80 35) < (ii 4) then (ii 1) else (if q1.1 = (ii 105) then (if (q1.2.1 80 36) < (ii 6) then (ii 1) else (if q1.1 = (ii 107) then (if (q1.2.1 80 37) < (ii 6) then (ii 1) else (if q1.1 = (ii 102) then (if (ii 6) ≤ (q1.2.1 80 38) then (ii 0) else (ii 1)) else (ii 0))) else (if q1.1 = (ii 102) then (if (ii 6) ≤ (q1.2.1 80 38) then (ii 0) else (ii 1)) else (ii 0)))) else (if q1.1 = (ii 107) then (if (q1.2.1 80 37) < (ii 6) then (ii 1) else (if q1.1 = (ii 102) then (if (ii 6) ≤ (q1.2.1 80 38) then (ii 0) else (ii 1)) else (ii 0))) else (if q1.1 = (ii 102) then (if (ii 6) ≤ (q1.2.1 80 38) then (ii 0) else (ii 1)) else (ii 0))))) else (if q1.1 = (ii 105) then (if (q1.2.1 80 36) < (ii 6) then (ii 1) else (if q1.1 = (ii 107) then (if (q1.2.1 80 37) < (ii 6) then (ii 1) else (if q1.1 = (ii 102) then (if (ii 6) ≤ (q1.2.1 80 38) then (ii 0) else (ii 1)) else (ii 0))) else (if q1.1 = (ii 102) then (if (ii 6) ≤ (q1.2.1 80 38) then (ii 0) else (ii 1)) else (ii 0)))) else (if q1.1 = (ii 107) then (if (q1.2.1 80 37) < (ii 6) then (ii 1) else (if q1.1 = (ii 102) then (if (ii 6) ≤ (q1.2.1 80 38) then (ii 0) else (ii 1)) else (ii 0))) else (if q1.1 = (ii 102) then (if (ii 6) ≤ (q1.2.1 80 38) then (ii 0) else (ii 1)) else (ii 0)))))) else (if q1.1 = (ii 118) then (if (q1.2.1 80 35) < (ii 4) then (ii 1) else (if q1.1 = (ii 105) then (if (q1.2.1 80 36) < (ii 6) then (ii 1) else (if q1.1 = (ii 107) then (if (q1.2.1 80 37) < (ii 6) then (ii 1) else (if q1.1 = (ii 102) then (if (ii 6) ≤ (q1.2.1 80 38) then (ii 0) else (ii 1)) else (ii 0))) else (if q1.1 = (ii 102) then (if (ii 6) ≤ (q1.2.1 80 38) then (ii 0) else (ii 1)) else (ii 0)))) else (if q1.1 = (ii 107) then (if (q1.2.1 80 37) < (ii 6) then (ii 1) else (if q1.1 = (ii 102) then (if (ii 6) ≤ (q1.2.1 80 38) then (ii 0) else (ii 1)) else (ii 0))) else (if q1.1 = (ii 102) then (if (ii 6) ≤ (q1.2.1 80 38) then (ii 0) else (ii 1)) else (ii 0))))) else (if q1.1 = (ii 105) then (if (q1.2.1 80 36) < (ii 6) then (ii 1) else (if q1.1 = (ii 107) then (if (q1.2.1 80 37) < (ii 6) then (ii 1) else (if q1.1 = (ii 102) then (if (ii 6) ≤ (q1.2.1 80 38) then (ii 0) else (ii 1)) else (ii 0))) else (if q1.1 = (ii 102) then (if (ii 6) ≤ (q1.2.1 80 38) then (ii 0) else (ii 1)) else (ii 0)))) else (if q1.1 = (ii 107) then (if (q1.2.1 80 37) < (ii 6) then (ii 1) else (if q1.1 = (ii 102) then (if (ii 6) ≤ (q1.2.1 80 38) then (ii 0) else (ii 1)) else (ii 0))) else (if q1.1 = (ii 102) then (if (ii 6) ≤ (q1.2.1 80 38) then (ii 0) else (ii 1)) else (ii 0)))))))]) (st' := [vr 31 0 5, vi ((ii 6) * (((wI (wI q1.2 80 10 ((q1.2.1 80 10) + (ii 1))) 80 38 (((wI q1.2 80 10 ((q1.2.1 80 10) + (ii 1))).1 80 38) + (ii 1))).1 80 38) - (ii 1))), vr 20 36 94, vi q1.1, vr 12 0 80]) (h' := (wI (wI q1.2 80 10 ((q1.2.1 80 10) + (ii 1))) 80 38 (((wI q1.2 80 10 ((q1.2.1 80 10) + (ii 1))).1 80 38) + (ii 1)))) 107 17 (Nat.le_of_ble_eq_true rfl) tk_R_readClause rfl rfl ⟨trivial, trivial, trivial, trivial, trivial, trivial, trivial, trivial, trivial, trivial, trivial, trivial, trivial, trivial, trivial, trivial, trivial, trivial⟩ ?_
        obtain ⟨q6, hq13, hx⟩ := bd hx
        refine Ev.callV (ν := m_R_readItems) (av := [vi q1.1, vr 20 36 94, vi ((ii 6) * (((wI (wI q1.2 80 10 ((q1.2.1 80 10) + (ii 1))) 80 38 (((wI q1.2 80 10 ((q1.2.1 80 10) + (ii 1))).1 80 38) + (ii 1))).1 80 38) - (ii 1))), vr 31 0 5]) (rest := []) (r1 := none) (h1 := q6) (ci := 12) (nn := 0) (o := 80) 124 4 tk_R_readClause rfl bb_R_readItems vv_R_readItems lk_12_255 (by decide) rfl rfl (Or.inl rfl) (Nat.le_of_ble_eq_true rfl) (s_R_readItems Γ q1.1 36 94 ((ii 6) * (((wI (wI q1.2 80 10 ((q1.2.1 80 10) + (ii 1))) 80 38 (((wI q1.2 80 10 ((q1.2.1 80 10) + (ii 1))).1 80 38) + (ii 1))).1 80 38) - (ii 1))) 5 (wI (wI q1.2 80 10 ((q1.2.1 80 10) + (ii 1))) 80 38 (((wI q1.2 80 10 ((q1.2.1 80 10) + (ii 1))).1 80 38) + (ii 1))) _ hq13) ?_
        show Ev Γ m_R_readClause 273 [some (vr 12 0 80), some (vi q1.1), some (vi (if q1.1 = (ii 115) then (if (q1.2.1 80 40) = 0 then (ii 1) else (if q1.1 = (ii 118) then (if (q1.2.1 80 35) < (ii 4) then (ii 1) else (if q1.1 = (ii 105) then (if (q1.2.1 80 36) < (ii 6) then (ii 1) else (if q1.1 = (ii 107) then (if (q1.2.1 80 37) < (ii 6) then (ii 1) else (if q1.1 = (ii 102) then (if (ii 6) ≤ (q1.2.1 80 38) then (ii 0) else (ii 1)) else (ii 0))) else (if q1.1 = (ii 102) then (if (ii 6) ≤ (q1.2.1 80 38) then (ii 0) else (ii 1)) else (ii 0)))) else (if q1.1 = (ii 107) then (if (q1.2.1 80 37) < (ii 6) then (ii 1) else (if q1.1 = (ii 102) then (if (ii 6) ≤ (q1.2.1 80 38) then (ii 0) else (ii 1)) else (ii 0))) else (if q1.1 = (ii 102) then (if (ii 6) ≤ (q1.2.1 80 38) then (ii 0) else (ii 1)) else (ii 0))))) else (if q1.1 = (ii 105) then (if (q1.2.1 80 36) < (ii 6) then (ii 1) else (if q1.1 = (ii 107) then (if (q1.2.1 80 37) < (ii 6) then (ii 1) else (if q1.1 = (ii 102) then (if (ii 6) ≤ (q1.2.1 80 38) then (ii 0) else (ii 1)) else (ii 0))) else (if q1.1 = (ii 102) then (if (ii 6) ≤ (q1.2.1 80 38) then (ii 0) else (ii 1)) else (ii 0)))) else (if q1.1 = (ii 107) then (if (q1.2.1 80 37) < (ii 6) then (ii 1) else (if q1.1 = (ii 102) then (if (ii 6) ≤ (q1.2.1 80 38) then (ii 0) else (ii 1)) else (ii 0))) else (if q1.1 = (ii 102) then (if (ii 6) ≤ (q1.2.1 80 38) then (ii 0) else (ii 1)) else (ii 0)))))) else (if q1.1 = (ii 118) then (if (q1.2.1 80 35) < (ii 4) then (ii 1) else (if q1.1 = (ii 105) then (if (q1.2.1 80 36) < (ii 6) then (ii 1) else (if q1.1 = (ii 107) then (if (q1.2.1 80 37) < (ii 6) then (ii 1) else (if q1.1 = (ii 102) then (if (ii 6) ≤ (q1.2.1 80 38) then (ii 0) else (ii 1)) else (ii 0))) else (if q1.1 = (ii 102) then (if (ii 6) ≤ (q1.2.1 80 38) then (ii 0) else (ii 1)) else (ii 0)))) else (if q1.1 = (ii 107) then (if (q1.2.1 80 37) < (ii 6) then (ii 1) else (if q1.1 = (ii 102) then (if (ii 6) ≤ (q1.2.1 80 38) then (ii 0) else (ii 1)) else (ii 0))) else (if q1.1 = (ii 102) then (if (ii 6) ≤ (q1.2.1 80 38) then (ii 0) else (ii 1)) else (ii 0))))) else (if q1.1 = (ii 105) then (if (q1.2.1 80 36) < (ii 6) then (ii 1) else (if q1.1 = (ii 107) then (if (q1.2.1 80 37) < (ii 6) then (ii 1) else (if q1.1 = (ii 102) then (if (ii 6) ≤ (q1.2.1 80 38) then (ii 0) else (ii 1)) else (ii 0))) else (if q1.1 = (ii 102) then (if (ii 6) ≤ (q1.2.1 80 38) then (ii 0) else (ii 1)) else (ii 0)))) else (if q1.1 = (ii 107) then (if (q1.2.1 80 37) < (ii 6) then (ii 1) else (if q1.1 = (ii 102) then (if (ii 6) ≤ (q1.2.1 80 38) then (ii 0) else (ii 1)) else (ii 0))) else (if q1.1 = (ii 102) then (if (ii 6) ≤ (q1.2.1 80 38) then (ii 0) else (ii 1)) else (ii 0)))))))] [] q6 r h'
        obtain rfl := Option.some.inj hx
        obtain ⟨rfl, rfl⟩ := hP
        exact Ev.vret 125 tk_R_readClause rfl rfl
    · replace hx := ip hc4 hx
      refine Ev.blk (pc' := 88) (lv' := [some (vr 12 0 80), some (vi q1.1), some (vi (if q1.1 = (ii 115) then (if (q1.2.1 80 40) = 0 then (ii 1) else (if q1.1 = (ii 118) then (if (q1.2.1 80 35) < (ii 4) then (ii 1) else (if q1.1 = (ii 105) then (if (q1.2.1 80 36) < (ii 6) then (ii 1) else (if q1.1 = (ii 107) then (if (q1.2.1 80 37) < (ii 6) then (ii 1) else (if q1.1 = (ii 102) then (if (ii 6) ≤ (q1.2.1 80 38) then (ii 0) else (ii 1)) else (ii 0))) else (if q1.1 = (ii 102) then (if (ii 6) ≤ (q1.2.1 80 38) then (ii 0) else (ii 1)) else (ii 0)))) else (if q1.1 = (ii 107) then (if (q1.2.1 80 37) < (ii 6) then (ii 1) else (if q1.1 = (ii 102) then (if (ii 6) ≤ (q1.2.1 80 38) then (ii 0) else (ii 1)) else (ii 0))) else (if q1.1 = (ii 102) then (if (ii 6) ≤ (q1.2.1 80 38) then (ii 0) else (ii 1)) else (ii 0))))) else (if q1.1 = (ii 105) then (if (q1.2.1 80 36) < (ii 6) then (ii 1) else (if q1.1 = (ii 107) then (if (q1.2.1 80 37) < (ii 6) then (ii 1) else (if q1.1 = (ii 102) then (if (ii 6) ≤ (q1.2.1 80 38) then (ii 0) else (ii 1)) else (ii 0))) else (if q1.1 = (ii 102) then (if (ii 6) ≤ (q1.2.1 80 38) then (ii 0) else (ii 1)) else (ii 0)))) else (if q1.1 = (ii 107) then (if (q1.2.1 80 37) < (ii 6) then (ii 1) else (if q1.1 = (ii 102) then (if (ii 6) ≤ (q1.2.1 80 38) then (ii 0) else (ii 1)) else (ii 0))) else (if q1.1 = (ii 102) then (if (ii 6) ≤ (q1.2.1 80 38) then (ii 0) else (ii 1)) else (ii 0)))))) else (if q1.1 = (ii 118) then (if (q1.2.1 80 35) < (ii 4) then (ii 1) else (if q1.1 = (ii 105) then (if (q1.2.1 80 36) < (ii 6) then (ii 1) else (if q1.1 = (ii 107) then (if (q1.2.1 80 37) < (ii 6) then (ii 1) else (if q1.1 = (ii 102) then (if (ii 6) ≤ (q1.2.1 80 38) then (ii 0) else (ii 1)) else (ii 0))) else (if q1.1 = (ii 102) then (if (ii 6) ≤ (q1.2.1 80 38) then (ii 0) else (ii 1)) else (ii 0)))) else (if q1.1 = (ii 107) then (if (q1.2.1 80 37) < (ii 6) then (ii 1) else (if q1.1 = (ii 102) then (if (ii 6) ≤ (q1.2.1 80 38) then (ii 0) else (ii 1)) else (ii 0))) else (if q1.1 = (ii 102) then (if (ii 6) ≤ (q1.2.1 80 38) then (ii 0) else (ii 1)) else (ii 0))))) else (if q1.1 = (ii 105) then (if (q1.2.1 80 36) < (ii 6) then (ii 1) else (if q1.1 = (ii 107) then (if (q1.2.1 80 37) < (ii 6) then (ii 1) else (if q1.1 = (ii 102) then (if (ii 6) ≤ (q1.2.1 80 38) then (ii 0) else (ii 1)) else (ii 0))) else (if q1.1 = (ii 102) then (if (ii 6) ≤ (q1.2.1 80 38) then (ii 0) else (ii 1)) else (ii 0)))) else (if q1.1 = (ii 107) then (if (q1.2.1 80 37) < (ii 6) then (ii 1) else (if q1.1 = (ii 102) then (if (ii 6) ≤ (q1.2.1 80 38) then (ii 0) else (ii 1)) else (ii 0))) else (if q1.1 = (ii 102) then (if (ii 6) ≤ (q1.2.1 80 38) then (ii 0) else (ii 1)) else (ii 0)))))))]) (st' := [vr 12 0 80]) (h' := q1.2) 43 1 (Nat.le_of_ble_eq_true rfl) tk_R_readClause rfl rfl ⟨trivial, trivial⟩ ?_
      obtain ⟨q7, hq14, hx⟩ := bd hx
      refine Ev.callV (ν := m_R_fails) (av := []) (rest := []) (r1 := some (vi q7.1)) (h1 := q7.2) (ci := 12) (nn := 0) (o := 80) 44 0 tk_R_readClause rfl bb_R_fails vv_R_fails lk_12_140 (by decide) rfl rfl (Or.inl rfl) (Nat.le_of_ble_eq_true rfl) (s_R_fails Γ q1.2 _ hq14) ?_
      show Ev Γ m_R_readClause 91 [some (vr 12 0 80), some (vi q1.1), some (vi (if q1.1 = (ii 115) then (if (q1.2.1 80 40) = 0 then (ii 1) else (if q1.1 = (ii 118) then (if (q1.2.1 80 35) < (ii 4) then (ii 1) else (if q1.1 = (ii 105) then (if (q1.2.1 80 36) < (ii 6) then (ii 1) else (if q1.1 = (ii 107) then (if (q1.2.1 80 37) < (ii 6) then (ii 1) else (if q1.1 = (ii 102) then (if (ii 6) ≤ (q1.2.1 80 38) then (ii 0) else (ii 1)) else (ii 0))) else (if q1.1 = (ii 102) then (if (ii 6) ≤ (q1.2.1 80 38) then (ii 0) else (ii 1)) else (ii 0)))) else (if q1.1 = (ii 107) then (if (q1.2.1 80 37) < (ii 6) then (ii 1) else (if q1.1 = (ii 102) then (if (ii 6) ≤ (q1.2.1 80 38) then (ii 0) else (ii 1)) else (ii 0))) else (if q1.1 = (ii 102) then (if (ii 6) ≤ (q1.2.1 80 38) then (ii 0) else (ii 1)) else (ii 0))))) else (if q1.1 = (ii 105) then (if (q1.2.1 80 36) < (ii 6) then (ii 1) else (if q1.1 = (ii 107) then (if (q1.2.1 80 37) < (ii 6) then (ii 1) else (if q1.1 = (ii 102) then (if (ii 6) ≤ (q1.2.1 80 38) then (ii 0) else (ii 1)) else (ii 0))) else (if q1.1 = (ii 102) then (if (ii 6) ≤ (q1.2.1 80 38) then (ii 0) else (ii 1)) else (ii 0)))) else (if q1.1 = (ii 107) then (if (q1.2.1 80 37) < (ii 6) then (ii 1) else (if q1.1 = (ii 102) then (if (ii 6) ≤ (q1.2.1 80 38) then (ii 0) else (ii 1)) else (ii 0))) else (if q1.1 = (ii 102) then (if (ii 6) ≤ (q1.2.1 80 38) then (ii 0) else (ii 1)) else (ii 0)))))) else (if q1.1 = (ii 118) then (if (q1.2.1 80 35) < (ii 4) then (ii 1) else (if q1.1 = (ii 105) then (if (q1.2.1 80 36) < (ii 6) then (ii 1) else (if q1.1 = (ii 107) then (if (q1.2.1 80 37) < (ii 6) then (ii 1) else (if q1.1 = (ii 102) then (if (ii 6) ≤ (q1.2.1 80 38) then (ii 0) else (ii 1)) else (ii 0))) else (if q1.1 = (ii 102) then (if (ii 6) ≤ (q1.2.1 80 38) then (ii 0) else (ii 1)) else (ii 0)))) else (if q1.1 = (ii 107) then (if (q1.2.1 80 37) < (ii 6) then (ii 1) else (if q1.1 = (ii 102) then (if (ii 6) ≤ (q1.2.1 80 38) then (ii 0) else (ii 1)) else (ii 0))) else (if q1.1 = (ii 102) then (if (ii 6) ≤ (q1.2.1 80 38) then (ii 0) else (ii 1)) else (ii 0))))) else (if q1.1 = (ii 105) then (if (q1.2.1 80 36) < (ii 6) then (ii 1) else (if q1.1 = (ii 107) then (if (q1.2.1 80 37) < (ii 6) then (ii 1) else (if q1.1 = (ii 102) then (if (ii 6) ≤ (q1.2.1 80 38) then (ii 0) else (ii 1)) else (ii 0))) else (if q1.1 = (ii 102) then (if (ii 6) ≤ (q1.2.1 80 38) then (ii 0) else (ii 1)) else (ii 0)))) else (if q1.1 = (ii 107) then (if (q1.2.1 80 37) < (ii 6) then (ii 1) else (if q1.1 = (ii 102) then (if (ii 6) ≤ (q1.2.1 80 38) then (ii 0) else (ii 1)) else (ii 0))) else (if q1.1 = (ii 102) then (if (ii 6) ≤ (q1.2.1 80 38) then (ii 0) else (ii 1)) else (ii 0)))))))] [vi q7.1] q7.2 r h'
      refine Ev.blk (pc' := 92) (lv' := [some (vr 12 0 80), some (vi q1.1), some (vi (if q1.1 = (ii 115) then (if (q1.2.1 80 40) = 0 then (ii 1) else (if q1.1 = (ii 118) then (if (q1.2.1 80 35) < (ii 4) then (ii 1) else (if q1.1 = (ii 105) then (if (q1.2.1 80 36) < (ii 6) then (ii 1) else (if q1.1 = (ii 107) then (if (q1.2.1 80 37) < (ii 6) then (ii 1) else (if q1.1 = (ii 102) then (if (ii 6) ≤ (q1.2.1 80 38) then (ii 0) else (ii 1)) else (ii 0))) else (if q1.1 = (ii 102) then (if (ii 6) ≤ (q1.2.1 80 38) then (ii 0) else (ii 1)) else (ii 0)))) else (if q1.1 = (ii 107) then (if (q1.2.1 80 37) < (ii 6) then (ii 1) else (if q1.1 = (ii 102) then (if (ii 6) ≤ (q1.2.1 80 38) then (ii 0) else (ii 1)) else (ii 0))) else (if q1.1 = (ii 102) then (if (ii 6) ≤ (q1.2.1 80 38) then (ii 0) else (ii 1)) else (ii 0))))) else (if q1.1 = (ii 105) then (if (q1.2.1 80 36) < (ii 6) then (ii 1) else (if q1.1 = (ii 107) then (if (q1.2.1 80 37) < (ii 6) then (ii 1) else (if q1.1 = (ii 102) then (if (ii 6) ≤ (q1.2.1 80 38) then (ii 0) else (ii 1)) else (ii 0))) else (if q1.1 = (ii 102) then (if (ii 6) ≤ (q1.2.1 80 38) then (ii 0) else (ii 1)) else (ii 0)))) else (if q1.1 = (ii 107) then (if (q1.2.1 80 37) < (ii 6) then (ii 1) else (if q1.1 = (ii 102) then (if (ii 6) ≤ (q1.2.1 80 38) then (ii 0) else (ii 1)) else (ii 0))) else (if q1.1 = (ii 102) then (if (ii 6) ≤ (q1.2.1 80 38) then (ii 0) else (ii 1)) else (ii 0)))))) else (if q1.1 = (ii 118) then (if (q1.2.1 80 35) < (ii 4) then (ii 1) else (if q1.1 = (ii 105) then (if (q1.2.1 80 36) < (ii 6) then (ii 1) else (if q1.1 = (ii 107) then (if (q1.2.1 80 37) < (ii 6) then (ii 1) else (if q1.1 = (ii 102) then (if (ii 6) ≤ (q1.2.1 80 38) then (ii 0) else (ii 1)) else (ii 0))) else (if q1.1 = (ii 102) then (if (ii 6) ≤ (q1.2.1 80 38) then (ii 0) else (ii 1)) else (ii 0)))) else (if q1.1 = (ii 107) then (if (q1.2.1 80 37) < (ii 6) then (ii 1) else (if q1.1 = (ii 102) then (if (ii 6) ≤ (q1.2.1 80 38) then (ii 0) else (ii 1)) else (ii 0))) else (if q1.1 = (ii 102) then (if (ii 6) ≤ (q1.2.1 80 38) then (ii 0) else (ii 1)) else (ii 0))))) else (if q1.1 = (ii 105) then (if (q1.2.1 80 36) < (ii 6) then (ii 1) else (if q1.1 = (ii 107) then (if (q1.2.1 80 37) < (ii 6) then (ii 1) else (if q1.1 = (ii 102) then (if (ii 6) ≤ (q1.2.1 80 38) then (ii 0) else (ii 1)) else (ii 0))) else (if q1.1 = (ii 102) then (if (ii 6) ≤ (q1.2.1 80 38) then (ii 0) else (ii 1)) else (ii 0)))) else (if q1.1 = (ii 107) then (if (q1.2.1 80 37) < (ii 6) then (ii 1) else (if q1.1 = (ii 102) then (if (ii 6) ≤ (q1.2.1 80 38) then (ii 0) else (ii 1)) else (ii 0))) else (if q1.1 = (ii 102) then (if (ii 6) ≤ (q1.2.1 80 38) then (ii 0) else (ii 1)) else (ii 0)))))))]) (st' := []) (h' := q7.2) 45 1 (Nat.le_of_ble_eq_true rfl) tk_R_readClause rfl rfl ⟨trivial, trivial⟩ ?_
      obtain rfl := Option.some.inj hx
      obtain ⟨rfl, rfl⟩ := hP
      exact Ev.vret 46 tk_R_readClause rfl rfl
  refine Ev.icmp_ne 5 18 tk_R_readClause rfl (by decide) (fun hc15 => ?_) (fun hc15 => ?_)
  · refine Ev.blk (pc' := 21) (lv' := [some (vr 12 0 80), some (vi q1.1), none]) (st' := [vi (ii 118), vi q1.1]) (h' := q1.2) 9 2 (Nat.le_of_ble_eq_true rfl) tk_R_readClause rfl rfl ⟨trivial, trivial, trivial⟩ ?_
    refine Ev.icmp_ne 11 32 tk_R_readClause rfl (by decide) (fun hc16 => ?_) (fun hc16 => ?_)
    · refine Ev.blk (pc' := 35) (lv' := [some (vr 12 0 80), some (vi q1.1), none]) (st' := [vi (ii 105), vi q1.1]) (h' := q1.2) 16 2 (Nat.le_of_ble_eq_true rfl) tk_R_readClause rfl rfl ⟨trivial, trivial, trivial⟩ ?_
      refine Ev.icmp_ne 18 47 tk_R_readClause rfl (by decide) (fun hc17 => ?_) (fun hc17 => ?_)
      · refine Ev.blk (pc' := 50) (lv' := [some (vr 12 0 80), some (vi q1.1), none]) (st' := [vi (ii 107), vi q1.1]) (h' := q1.2) 23 2 (Nat.le_of_ble_eq_true rfl) tk_R_readClause rfl rfl ⟨trivial, trivial, trivial⟩ ?_
        refine Ev.icmp_ne 25 62 tk_R_readClause rfl (by decide) (fun hc18 => ?_) (fun hc18 => ?_)
        · refine Ev.blk (pc' := 65) (lv' := [some (vr 12 0 80), some (vi q1.1), none]) (st' := [vi (ii 102), vi q1.1]) (h' := q1.2) 30 2 (Nat.le_of_ble_eq_true rfl) tk_R_readClause rfl rfl ⟨trivial, trivial, trivial⟩ ?_
          refine Ev.icmp_ne 32 81 tk_R_readClause rfl (by decide) (fun hc19 => ?_) (fun hc19 => ?_)
          · refine Ev.blk (pc' := 82) (lv' := [some (vr 12 0 80), some (vi q1.1), none]) (st' := [vi (ii 0)]) (h' := q1.2) 39 1 (Nat.le_of_ble_eq_true rfl) tk_R_readClause rfl rfl ⟨trivial, trivial⟩ ?_
            exact Ev.msk [true, true, false] (K2 _ (by first | rfl | simp only [if_neg hc15, if_neg hc16, if_neg hc17, if_neg hc18, if_neg hc19]))
          · refine Ev.blk (pc' := 74) (lv' := [some (vr 12 0 80), some (vi q1.1), none]) (st' := [vi (ii 6), vi (q1.2.1 80 38)]) (h' := q1.2) 33 3 (Nat.le_of_ble_eq_true rfl) tk_R_readClause rfl rfl ⟨trivial, trivial, trivial, trivial⟩ ?_
            refine Ev.icmp_ge 36 81 tk_R_readClause rfl (by decide) (fun hc20 => ?_) (fun hc20 => ?_)
            · refine Ev.blk (pc' := 82) (lv' := [some (vr 12 0 80), some (vi q1.1), none]) (st' := [vi (ii 0)]) (h' := q1.2) 39 1 (Nat.le_of_ble_eq_true rfl) tk_R_readClause rfl rfl ⟨trivial, trivial⟩ ?_
              exact Ev.msk [true, true, false] (K2 _ (by first | rfl | simp only [if_neg hc15, if_neg hc16, if_neg hc17, if_neg hc18, if_pos hc19, if_pos hc20]))
            · refine Ev.blk (pc' := 82) (lv' := [some (vr 12 0 80), some (vi q1.1), none]) (st' := [vi (ii 1)]) (h' := q1.2) 37 2 (Nat.le_of_ble_eq_true rfl) tk_R_readClause rfl rfl ⟨trivial, trivial, trivial⟩ ?_
              exact Ev.msk [true, true, false] (K2 _ (by first | rfl | simp only [if_neg hc15, if_neg hc16, if_neg hc17, if_neg hc18, if_pos hc19, if_neg hc20]))
        · refine Ev.blk (pc' := 59) (lv' := [some (vr 12 0 80), some (vi q1.1), none]) (st' := [vi (ii 6), vi (q1.2.1 80 37)]) (h' := q1.2) 26 3 (Nat.le_of_ble_eq_true rfl) tk_R_readClause rfl rfl ⟨trivial, trivial, trivial, trivial⟩ ?_
          refine Ev.icmp_lt 29 77 tk_R_readClause rfl (by decide) (fun hc21 => ?_) (fun hc21 => ?_)
          · refine Ev.blk (pc' := 82) (lv' := [some (vr 12 0 80), some (vi q1.1), none]) (st' := [vi (ii 1)]) (h' := q1.2) 37 2 (Nat.le_of_ble_eq_true rfl) tk_R_readClause rfl rfl ⟨trivial, trivial, trivial⟩ ?_
            exact Ev.msk [true, true, false] (K2 _ (by first | rfl | simp only [if_neg hc15, if_neg hc16, if_neg hc17, if_pos hc18, if_pos hc21]))
          · refine Ev.blk (pc' := 65) (lv' := [some (vr 12 0 80), some (vi q1.1), none]) (st' := [vi (ii 102), vi q1.1]) (h' := q1.2) 30 2 (Nat.le_of_ble_eq_true rfl) tk_R_readClause rfl rfl ⟨trivial, trivial, trivial⟩ ?_
            refine Ev.icmp_ne 32 81 tk_R_readClause rfl (by decide) (fun hc22 => ?_) (fun hc22 => ?_)
            · refine Ev.blk (pc' := 82) (lv' := [some (vr 12 0 80), some (vi q1.1), none]) (st' := [vi (ii 0)]) (h' := q1.2) 39 1 (Nat.le_of_ble_eq_true rfl) tk_R_readClause rfl rfl ⟨trivial, trivial⟩ ?_
              exact Ev.msk [true, true, false] (K2 _ (by first | rfl | simp only [if_neg hc15, if_neg hc16, if_neg hc17, if_pos hc18, if_neg hc21, if_neg hc22]))
            · refine Ev.blk (pc' := 74) (lv' := [some (vr 12 0 80), some (vi q1.1), none]) (st' := [vi (ii 6), vi (q1.2.1 80 38)]) (h' := q1.2) 33 3 (Nat.le_of_ble_eq_true rfl) tk_R_readClause rfl rfl ⟨trivial, trivial, trivial, trivial⟩ ?_
              refine Ev.icmp_ge 36 81 tk_R_readClause rfl (by decide) (fun hc23 => ?_) (fun hc23 => ?_)
              · refine Ev.blk (pc' := 82) (lv' := [some (vr 12 0 80), some (vi q1.1), none]) (st' := [vi (ii 0)]) (h' := q1.2) 39 1 (Nat.le_of_ble_eq_true rfl) tk_R_readClause rfl rfl ⟨trivial, trivial⟩ ?_
                exact Ev.msk [true, true, false] (K2 _ (by first | rfl | simp only [if_neg hc15, if_neg hc16, if_neg hc17, if_pos hc18, if_neg hc21, if_pos hc22, if_pos hc23]))
              · refine Ev.blk (pc' := 82) (lv' := [some (vr 12 0 80), some (vi q1.1), none]) (st' := [vi (ii 1)]) (h' := q1.2) 37 2 (Nat.le_of_ble_eq_true rfl) tk_R_readClause rfl rfl ⟨trivial, trivial, trivial⟩ ?_
                exact Ev.msk [true, true, false] (K2 _ (by first | rfl | simp only [if_neg hc15, if_neg hc16, if_neg hc17, if_pos hc18, if_neg hc21, if_pos hc22, if_neg hc23]))
      · refine Ev.blk (pc' := 44) (lv' := [some (vr 12 0 80), some (vi q1.1), none]) (st' := [vi (ii 6), vi (q1.2.1 80 36)]) (h' := q1.2) 19 3 (Nat.le_of_ble_eq_true rfl) tk_R_readClause rfl rfl ⟨trivial, trivial, trivial, trivial⟩ ?_
        refine Ev.icmp_lt 22 77 tk_R_readClause rfl (by decide) (fun hc24 => ?_) (fun hc24 => ?_)
        · refine Ev.blk (pc' := 82) (lv' := [some (vr 12 0 80), some (vi q1.1), none]) (st' := [vi (ii 1)]) (h' := q1.2) 37 2 (Nat.le_of_ble_eq_true rfl) tk_R_readClause rfl rfl ⟨trivial, trivial, trivial⟩ ?_
          exact Ev.msk [true, true, false] (K2 _ (by first | rfl | simp only [if_neg hc15, if_neg hc16, if_pos hc17, if_pos hc24]))
        · refine Ev.blk (pc' := 50) (lv' := [some (vr 12 0 80), some (vi q1.1), none]) (st' := [vi (ii 107), vi q1.1]) (h' := q1.2) 23 2 (Nat.le_of_ble_eq_true rfl) tk_R_readClause rfl rfl ⟨trivial, trivial, trivial⟩ ?_
          refine Ev.icmp_ne 25 62 tk_R_readClause rfl (by decide) (fun hc25 => ?_) (fun hc25 => ?_)
          · refine Ev.blk (pc' := 65) (lv' := [some (vr 12 0 80), some (vi q1.1), none]) (st' := [vi (ii 102), vi q1.1]) (h' := q1.2) 30 2 (Nat.le_of_ble_eq_true rfl) tk_R_readClause rfl rfl ⟨trivial, trivial, trivial⟩ ?_
            refine Ev.icmp_ne 32 81 tk_R_readClause rfl (by decide) (fun hc26 => ?_) (fun hc26 => ?_)
            · refine Ev.blk (pc' := 82) (lv' := [some (vr 12 0 80), some (vi q1.1), none]) (st' := [vi (ii 0)]) (h' := q1.2) 39 1 (Nat.le_of_ble_eq_true rfl) tk_R_readClause rfl rfl ⟨trivial, trivial⟩ ?_
              exact Ev.msk [true, true, false] (K2 _ (by first | rfl | simp only [if_neg hc15, if_neg hc16, if_pos hc17, if_neg hc24, if_neg hc25, if_neg hc26]))
            · refine Ev.blk (pc' := 74) (lv' := [some (vr 12 0 80), some (vi q1.1), none]) (st' := [vi (ii 6), vi (q1.2.1 80 38)]) (h' := q1.2) 33 3 (Nat.le_of_ble_eq_true rfl) tk_R_readClause rfl rfl ⟨trivial, trivial, trivial, trivial⟩ ?_
              refine Ev.icmp_ge 36 81 tk_R_readClause rfl (by decide) (fun hc27 => ?_) (fun hc27 => ?_)
              · refine Ev.blk (pc' := 82) (lv' := [some (vr 12 0 80), some (vi q1.1), none]) (st' := [vi (ii 0)]) (h' := q1.2) 39 1 (Nat.le_of_ble_eq_true rfl) tk_R_readClause rfl rfl ⟨trivial, trivial⟩ ?_
                exact Ev.msk [true, true, false] (K2 _ (by first | rfl | simp only [if_neg hc15, if_neg hc16, if_pos hc17, if_neg hc24, if_neg hc25, if_pos hc26, if_pos hc27]))
              · refine Ev.blk (pc' := 82) (lv' := [some (vr 12 0 80), some (vi q1.1), none]) (st' := [vi (ii 1)]) (h' := q1.2) 37 2 (Nat.le_of_ble_eq_true rfl) tk_R_readClause rfl rfl ⟨trivial, trivial, trivial⟩ ?_
                exact Ev.msk [true, true, false] (K2 _ (by first | rfl | simp only [if_neg hc15, if_neg hc16, if_pos hc17, if_neg hc24, if_neg hc25, if_pos hc26, if_neg hc27]))
          · refine Ev.blk (pc' := 59) (lv' := [some (vr 12 0 80), some (vi q1.1), none]) (st' := [vi (ii 6), vi (q1.2.1 80 37)]) (h' := q1.2) 26 3 (Nat.le_of_ble_eq_true rfl) tk_R_readClause rfl rfl ⟨trivial, trivial, trivial, trivial⟩ ?_
            refine Ev.icmp_lt 29 77 tk_R_readClause rfl (by decide) (fun hc28 => ?_) (fun hc28 => ?_)
            · refine Ev.blk (pc' := 82) (lv' := [some (vr 12 0 80), some (vi q1.1), none]) (st' := [vi (ii 1)]) (h' := q1.2) 37 2 (Nat.le_of_ble_eq_true rfl) tk_R_readClause rfl rfl ⟨trivial, trivial, trivial⟩ ?_
              exact Ev.msk [true, true, false] (K2 _ (by first | rfl | simp only [if_neg hc15, if_neg hc16, if_pos hc17, if_neg hc24, if_pos hc25, if_pos hc28]))
            · refine Ev.blk (pc' := 65) (lv' := [some (vr 12 0 80), some (vi q1.1), none]) (st' := [vi (ii 102), vi q1.1]) (h' := q1.2) 30 2 (Nat.le_of_ble_eq_true rfl) tk_R_readClause rfl rfl ⟨trivial, trivial, trivial⟩ ?_
              refine Ev.icmp_ne 32 81 tk_R_readClause rfl (by decide) (fun hc29 => ?_) (fun hc29 => ?_)
              · refine Ev.blk (pc' := 82) (lv' := [some (vr 12 0 80), some (vi q1.1), none]) (st' := [vi (ii 0)]) (h' := q1.2) 39 1 (Nat.le_of_ble_eq_true rfl) tk_R_readClause rfl rfl ⟨trivial, trivial⟩ ?_
                exact Ev.msk [true, true, false] (K2 _ (by first | rfl | simp only [if_neg hc15, if_neg hc16, if_pos hc17, if_neg hc24, if_pos hc25, if_neg hc28, if_neg hc29]))
              · refine Ev.blk (pc' := 74) (lv' := [some (vr 12 0 80), some (vi q1.1), none]) (st' := [vi (ii 6), vi (q1.2.1 80 38)]) (h' := q1.2) 33 3 (Nat.le_of_ble_eq_true rfl) tk_R_readClause rfl rfl ⟨trivial, trivial, trivial, trivial⟩ ?_
                refine Ev.icmp_ge 36 81 tk_R_readClause rfl (by decide) (fun hc30 => ?_) (fun hc30 => ?_)
                · refine Ev.blk (pc' := 82) (lv' := [some (vr 12 0 80), some (vi q1.1), none]) (st' := [vi (ii 0)]) (h' := q1.2) 39 1 (Nat.le_of_ble_eq_true rfl) tk_R_readClause rfl rfl ⟨trivial, trivial⟩ ?_
                  exact Ev.msk [true, true, false] (K2 _ (by first | rfl | simp only [if_neg hc15, if_neg hc16, if_pos hc17, if_neg hc24, if_pos hc25, if_neg hc28, if_pos hc29, if_pos hc30]))
                · refine Ev.blk (pc' := 82) (lv' := [some (vr 12 0 80), some (vi q1.1), none]) (st' := [vi (ii 1)]) (h' := q1.2) 37 2 (Nat.le_of_ble_eq_true rfl) tk_R_readClause rfl rfl ⟨trivial, trivial, trivial⟩ ?_
                  exact Ev.msk [true, true, false] (K2 _ (by first | rfl | simp only [if_neg hc15, if_neg hc16, if_pos hc17, if_neg hc24, if_pos hc25, if_neg hc28, if_pos hc29, if_neg hc30]))
    · refine Ev.blk (pc' := 29) (lv' := [some (vr 12 0 80), some (vi q1.1), none]) (st' := [vi (ii 4), vi (q1.2.1 80 35)]) (h' := q1.2) 12 3 (Nat.le_of_ble_eq_true rfl) tk_R_readClause rfl rfl ⟨trivial, trivial, trivial, trivial⟩ ?_
      refine Ev.icmp_lt 15 77 tk_R_readClause rfl (by decide) (fun hc31 => ?_) (fun hc31 => ?_)
      · refine Ev.blk (pc' := 82) (lv' := [some (vr 12 0 80), some (vi q1.1), none]) (st' := [vi (ii 1)]) (h' := q1.2) 37 2 (Nat.le_of_ble_eq_true rfl) tk_R_readClause rfl rfl ⟨trivial, trivial, trivial⟩ ?_
        exact Ev.msk [true, true, false] (K2 _ (by first | rfl | simp only [if_neg hc15, if_pos hc16, if_pos hc31]))
      · refine Ev.blk (pc' := 35) (lv' := [some (vr 12 0 80), some (vi q1.1), none]) (st' := [vi (ii 105), vi q1.1]) (h' := q1.2) 16 2 (Nat.le_of_ble_eq_true rfl) tk_R_readClause rfl rfl ⟨trivial, trivial, trivial⟩ ?_
        refine Ev.icmp_ne 18 47 tk_R_readClause rfl (by decide) (fun hc32 => ?_) (fun hc32 => ?_)
        · refine Ev.blk (pc' := 50) (lv' := [some (vr 12 0 80), some (vi q1.1), none]) (st' := [vi (ii 107), vi q1.1]) (h' := q1.2) 23 2 (Nat.le_of_ble_eq_true rfl) tk_R_readClause rfl rfl ⟨trivial, trivial, trivial⟩ ?_
          refine Ev.icmp_ne 25 62 tk_R_readClause rfl (by decide) (fun hc33 => ?_) (fun hc33 => ?_)
          · refine Ev.blk (pc' := 65) (lv' := [some (vr 12 0 80), some (vi q1.1), none]) (st' := [vi (ii 102), vi q1.1]) (h' := q1.2) 30 2 (Nat.le_of_ble_eq_true rfl) tk_R_readClause rfl rfl ⟨trivial, trivial, trivial⟩ ?_
            refine Ev.icmp_ne 32 81 tk_R_readClause rfl (by decide) (fun hc34 => ?_) (fun hc34 => ?_)
            · refine Ev.blk (pc' := 82) (lv' := [some (vr 12 0 80), some (vi q1.1), none]) (st' := [vi (ii 0)]) (h' := q1.2) 39 1 (Nat.le_of_ble_eq_true rfl) tk_R_readClause rfl rfl ⟨trivial, trivial⟩ ?_
              exact Ev.msk [true, true, false] (K2 _ (by first | rfl | simp only [if_neg hc15, if_pos hc16, if_neg hc31, if_neg hc32, if_neg hc33, if_neg hc34]))
            · refine Ev.blk (pc' := 74) (lv' := [some (vr 12 0 80), some (vi q1.1), none]) (st' := [vi (ii 6), vi (q1.2.1 80 38)]) (h' := q1.2) 33 3 (Nat.le_of_ble_eq_true rfl) tk_R_readClause rfl rfl ⟨trivial, trivial, trivial, trivial⟩ ?_
              refine Ev.icmp_ge 36 81 tk_R_readClause rfl (by decide) (fun hc35 => ?_) (fun hc35 => ?_)
              · refine Ev.blk (pc' := 82) (lv' := [some (vr 12 0 80), some (vi q1.1), none]) (st' := [vi (ii 0)]) (h' := q1.2) 39 1 (Nat.le_of_ble_eq_true rfl) tk_R_readClause rfl rfl ⟨trivial, trivial⟩ ?_
                exact Ev.msk [true, true, false] (K2 _ (by first | rfl | simp only [if_neg hc15, if_pos hc16, if_neg hc31, if_neg hc32, if_neg hc33, if_pos hc34, if_pos hc35]))
              · refine Ev.blk (pc' := 82) (lv' := [some (vr 12 0 80), some (vi q1.1), none]) (st' := [vi (ii 1)]) (h' := q1.2) 37 2 (Nat.le_of_ble_eq_true rfl) tk_R_readClause rfl rfl ⟨trivial, trivial, trivial⟩ ?_
                exact Ev.msk [true, true, false] (K2 _ (by first | rfl | simp only [if_neg hc15, if_pos hc16, if_neg hc31, if_neg hc32, if_neg hc33, if_pos hc34, if_neg hc35]))
          · refine Ev.blk (pc' := 59) (lv' := [some (vr 12 0 80), some (vi q1.1), none]) (st' := [vi (ii 6), vi (q1.2.1 80 37)]) (h' := q1.2) 26 3 (Nat.le_of_ble_eq_true rfl) tk_R_readClause rfl rfl ⟨trivial, trivial, trivial, trivial⟩ ?_
            refine Ev.icmp_lt 29 77 tk_R_readClause rfl (by decide) (fun hc36 => ?_) (fun hc36 => ?_)
            · refine Ev.blk (pc' := 82) (lv' := [some (vr 12 0 80), some (vi q1.1), none]) (st' := [vi (ii 1)]) (h' := q1.2) 37 2 (Nat.le_of_ble_eq_true rfl) tk_R_readClause rfl rfl ⟨trivial, trivial, trivial⟩ ?_
              exact Ev.msk [true, true, false] (K2 _ (by first | rfl | simp only [if_neg hc15, if_pos hc16, if_neg hc31, if_neg hc32, if_pos hc33, if_pos hc36]))
            · refine Ev.blk (pc' := 65) (lv' := [some (vr 12 0 80), some (vi q1.1), none]) (st' := [vi (ii 102), vi q1.1]) (h' := q1.2) 30 2 (Nat.le_of_ble_eq_true rfl) tk_R_readClause rfl rfl ⟨trivial, trivial, trivial⟩ ?_
              refine Ev.icmp_ne 32 81 tk_R_readClause rfl (by decide) (fun hc37 => ?_) (fun hc37 => ?_)
              · refine Ev.blk (pc' := 82) (lv' := [some (vr 12 0 80), some (vi q1.1), none]) (st' := [vi (ii 0)]) (h' := q1.2) 39 1 (Nat.le_of_ble_eq_true rfl) tk_R_readClause rfl rfl ⟨trivial, trivial⟩ ?_
                exact Ev.msk [true, true, false] (K2 _ (by first | rfl | simp only [if_neg hc15, if_pos hc16, if_neg hc31, if_neg hc32, if_pos hc33, if_neg hc36, if_neg hc37]))
              · refine Ev.blk (pc' := 74) (lv' := [some (vr 12 0 80), some (vi q1.1), none]) (st' := [vi (ii 6), vi (q1.2.1 80 38)]) (h' := q1.2) 33 3 (Nat.le_of_ble_eq_true rfl) tk_R_readClause rfl rfl ⟨trivial, trivial, trivial, trivial⟩ ?_
                refine Ev.icmp_ge 36 81 tk_R_readClause rfl (by decide) (fun hc38 => ?_) (fun hc38 => ?_)
                · refine Ev.blk (pc' := 82) (lv' := [some (vr 12 0 80), some (vi q1.1), none]) (st' := [vi (ii 0)]) (h' := q1.2) 39 1 (Nat.le_of_ble_eq_true rfl) tk_R_readClause rfl rfl ⟨trivial, trivial⟩ ?_
                  exact Ev.msk [true, true, false] (K2 _ (by first | rfl | simp only [if_neg hc15, if_pos hc16, if_neg hc31, if_neg hc32, if_pos hc33, if_neg hc36, if_pos hc37, if_pos hc38]))
                · refine Ev.blk (pc' := 82) (lv' := [some (vr 12 0 80), some (vi q1.1), none]) (st' := [vi (ii 1)]) (h' := q1.2) 37 2 (Nat.le_of_ble_eq_true rfl) tk_R_readClause rfl rfl ⟨trivial, trivial, trivial⟩ ?_
                  exact Ev.msk [true, true, false] (K2 _ (by first | rfl | simp only [if_neg hc15, if_pos hc16, if_neg hc31, if_neg hc32, if_pos hc33, if_neg hc36, if_pos hc37, if_neg hc38]))
        · refine Ev.blk (pc' := 44) (lv' := [some (vr 12 0 80), some (vi q1.1), none]) (st' := [vi (ii 6), vi (q1.2.1 80 36)]) (h' := q1.2) 19 3 (Nat.le_of_ble_eq_true rfl) tk_R_readClause rfl rfl ⟨trivial, trivial, trivial, trivial⟩ ?_
          refine Ev.icmp_lt 22 77 tk_R_readClause rfl (by decide) (fun hc39 => ?_) (fun hc39 => ?_)
          · refine Ev.blk (pc' := 82) (lv' := [some (vr 12 0 80), some (vi q1.1), none]) (st' := [vi (ii 1)]) (h' := q1.2) 37 2 (Nat.le_of_ble_eq_true rfl) tk_R_readClause rfl rfl ⟨trivial, trivial, trivial⟩ ?_
            exact Ev.msk [true, true, false] (K2 _ (by first | rfl | simp only [if_neg hc15, if_pos hc16, if_neg hc31, if_pos hc32, if_pos hc39]))
          · refine Ev.blk (pc' := 50) (lv' := [some (vr 12 0 80), some (vi q1.1), none]) (st' := [vi (ii 107), vi q1.1]) (h' := q1.2) 23 2 (Nat.le_of_ble_eq_true rfl) tk_R_readClause rfl rfl ⟨trivial, trivial, trivial⟩ ?_
            refine Ev.icmp_ne 25 62 tk_R_readClause rfl (by decide) (fun hc40 => ?_) (fun hc40 => ?_)
            · refine Ev.blk (pc' := 65) (lv' := [some (vr 12 0 80), some (vi q1.1), none]) (st' := [vi (ii 102), vi q1.1]) (h' := q1.2) 30 2 (Nat.le_of_ble_eq_true rfl) tk_R_readClause rfl rfl ⟨trivial, trivial, trivial⟩ ?_
              refine Ev.icmp_ne 32 81 tk_R_readClause rfl (by decide) (fun hc41 => ?_) (fun hc41 => ?_)
              · refine Ev.blk (pc' := 82) (lv' := [some (vr 12 0 80), some (vi q1.1), none]) (st' := [vi (ii 0)]) (h' := q1.2) 39 1 (Nat.le_of_ble_eq_true rfl) tk_R_readClause rfl rfl ⟨trivial, trivial⟩ ?_
                exact Ev.msk [true, true, false] (K2 _ (by first | rfl | simp only [if_neg hc15, if_pos hc16, if_neg hc31, if_pos hc32, if_neg hc39, if_neg hc40, if_neg hc41]))
              · refine Ev.blk (pc' := 74) (lv' := [some (vr 12 0 80), some (vi q1.1), none]) (st' := [vi (ii 6), vi (q1.2.1 80 38)]) (h' := q1.2) 33 3 (Nat.le_of_ble_eq_true rfl) tk_R_readClause rfl rfl ⟨trivial, trivial, trivial, trivial⟩ ?_
                refine Ev.icmp_ge 36 81 tk_R_readClause rfl (by decide) (fun hc42 => ?_) (fun hc42 => ?_)
                · refine Ev.blk (pc' := 82) (lv' := [some (vr 12 0 80), some (vi q1.1), none]) (st' := [vi (ii 0)]) (h' := q1.2) 39 1 (Nat.le_of_ble_eq_true rfl) tk_R_readClause rfl rfl ⟨trivial, trivial⟩ ?_
                  exact Ev.msk [true, true, false] (K2 _ (by first | rfl | simp only [if_neg hc15, if_pos hc16, if_neg hc31, if_pos hc32, if_neg hc39, if_neg hc40, if_pos hc41, if_pos hc42]))
                · refine Ev.blk (pc' := 82) (lv' := [some (vr 12 0 80), some (vi q1.1), none]) (st' := [vi (ii 1)]) (h' := q1.2) 37 2 (Nat.le_of_ble_eq_true rfl) tk_R_readClause rfl rfl ⟨trivial, trivial, trivial⟩ ?_
                  exact Ev.msk [true, true, false] (K2 _ (by first | rfl | simp only [if_neg hc15, if_pos hc16, if_neg hc31, if_pos hc32, if_neg hc39, if_neg hc40, if_pos hc41, if_neg hc42]))
            · refine Ev.blk (pc' := 59) (lv' := [some (vr 12 0 80), some (vi q1.1), none]) (st' := [vi (ii 6), vi (q1.2.1 80 37)]) (h' := q1.2) 26 3 (Nat.le_of_ble_eq_true rfl) tk_R_readClause rfl rfl ⟨trivial, trivial, trivial, trivial⟩ ?_
              refine Ev.icmp_lt 29 77 tk_R_readClause rfl (by decide) (fun hc43 => ?_) (fun hc43 => ?_)
              · refine Ev.blk (pc' := 82) (lv' := [some (vr 12 0 80), some (vi q1.1), none]) (st' := [vi (ii 1)]) (h' := q1.2) 37 2 (Nat.le_of_ble_eq_true rfl) tk_R_readClause rfl rfl ⟨trivial, trivial, trivial⟩ ?_
                exact Ev.msk [true, true, false] (K2 _ (by first | rfl | simp only [if_neg hc15, if_pos hc16, if_neg hc31, if_pos hc32, if_neg hc39, if_pos hc40, if_pos hc43]))
              · refine Ev.blk (pc' := 65) (lv' := [some (vr 12 0 80), some (vi q1.1), none]) (st' := [vi (ii 102), vi q1.1]) (h' := q1.2) 30 2 (Nat.le_of_ble_eq_true rfl) tk_R_readClause rfl rfl ⟨trivial, trivial, trivial⟩ ?_
                refine Ev.icmp_ne 32 81 tk_R_readClause rfl (by decide) (fun hc44 => ?_) (fun hc44 => ?_)
                · refine Ev.blk (pc' := 82) (lv' := [some (vr 12 0 80), some (vi q1.1), none]) (st' := [vi (ii 0)]) (h' := q1.2) 39 1 (Nat.le_of_ble_eq_true rfl) tk_R_readClause rfl rfl ⟨trivial, trivial⟩ ?_
                  exact Ev.msk [true, true, false] (K2 _ (by first | rfl | simp only [if_neg hc15, if_pos hc16, if_neg hc31, if_pos hc32, if_neg hc39, if_pos hc40, if_neg hc43, if_neg hc44]))
                · refine Ev.blk (pc' := 74) (lv' := [some (vr 12 0 80), some (vi q1.1), none]) (st' := [vi (ii 6), vi (q1.2.1 80 38)]) (h' := q1.2) 33 3 (Nat.le_of_ble_eq_true rfl) tk_R_readClause rfl rfl ⟨trivial, trivial, trivial, trivial⟩ ?_
                  refine Ev.icmp_ge 36 81 tk_R_readClause rfl (by decide) (fun hc45 => ?_) (fun hc45 => ?_)
                  · refine Ev.blk (pc' := 82) (lv' := [some (vr 12 0 80), some (vi q1.1), none]) (st' := [vi (ii 0)]) (h' := q1.2) 39 1 (Nat.le_of_ble_eq_true rfl) tk_R_readClause rfl rfl ⟨trivial, trivial⟩ ?_
                    exact Ev.msk [true, true, false] (K2 _ (by first | rfl | simp only [if_neg hc15, if_pos hc16, if_neg hc31, if_pos hc32, if_neg hc39, if_pos hc40, if_neg hc43, if_pos hc44, if_pos hc45]))
                  · refine Ev.blk (pc' := 82) (lv' := [some (vr 12 0 80), some (vi q1.1), none]) (st' := [vi (ii 1)]) (h' := q1.2) 37 2 (Nat.le_of_ble_eq_true rfl) tk_R_readClause rfl rfl ⟨trivial, trivial, trivial⟩ ?_
                    exact Ev.msk [true, true, false] (K2 _ (by first | rfl | simp only [if_neg hc15, if_pos hc16, if_neg hc31, if_pos hc32, if_neg hc39, if_pos hc40, if_neg hc43, if_pos hc44, if_neg hc45]))
  · refine Ev.blk (pc' := 15) (lv' := [some (vr 12 0 80), some (vi q1.1), none]) (st' := [vi (q1.2.1 80 40)]) (h' := q1.2) 6 2 (Nat.le_of_ble_eq_true rfl) tk_R_readClause rfl rfl ⟨trivial, trivial, trivial⟩ ?_
    refine Ev.if_eq 8 77 tk_R_readClause rfl (by decide) (fun hc46 => ?_) (fun hc46 => ?_)
    · refine Ev.blk (pc' := 82) (lv' := [some (vr 12 0 80), some (vi q1.1), none]) (st' := [vi (ii 1)]) (h' := q1.2) 37 2 (Nat.le_of_ble_eq_true rfl) tk_R_readClause rfl rfl ⟨trivial, trivial, trivial⟩ ?_
      exact Ev.msk [true, true, false] (K2 _ (by first | rfl | simp only [if_pos hc15, if_pos hc46]))
    · refine Ev.blk (pc' := 21) (lv' := [some (vr 12 0 80), some (vi q1.1), none]) (st' := [vi (ii 118), vi q1.1]) (h' := q1.2) 9 2 (Nat.le_of_ble_eq_true rfl) tk_R_readClause rfl rfl ⟨trivial, trivial, trivial⟩ ?_
      refine Ev.icmp_ne 11 32 tk_R_readClause rfl (by decide) (fun hc47 => ?_) (fun hc47 => ?_)
      · refine Ev.blk (pc' := 35) (lv' := [some (vr 12 0 80), some (vi q1.1), none]) (st' := [vi (ii 105), vi q1.1]) (h' := q1.2) 16 2 (Nat.le_of_ble_eq_true rfl) tk_R_readClause rfl rfl ⟨trivial, trivial, trivial⟩ ?_
        refine Ev.icmp_ne 18 47 tk_R_readClause rfl (by decide) (fun hc48 => ?_) (fun hc48 => ?_)
        · refine Ev.blk (pc' := 50) (lv' := [some (vr 12 0 80), some (vi q1.1), none]) (st' := [vi (ii 107), vi q1.1]) (h' := q1.2) 23 2 (Nat.le_of_ble_eq_true rfl) tk_R_readClause rfl rfl ⟨trivial, trivial, trivial⟩ ?_
          refine Ev.icmp_ne 25 62 tk_R_readClause rfl (by decide) (fun hc49 => ?_) (fun hc49 => ?_)
          · refine Ev.blk (pc' := 65) (lv' := [some (vr 12 0 80), some (vi q1.1), none]) (st' := [vi (ii 102), vi q1.1]) (h' := q1.2) 30 2 (Nat.le_of_ble_eq_true rfl) tk_R_readClause rfl rfl ⟨trivial, trivial, trivial⟩ ?_
            refine Ev.icmp_ne 32 81 tk_R_readClause rfl (by decide) (fun hc50 => ?_) (fun hc50 => ?_)
            · refine Ev.blk (pc' := 82) (lv' := [some (vr 12 0 80), some (vi q1.1), none]) (st' := [vi (ii 0)]) (h' := q1.2) 39 1 (Nat.le_of_ble_eq_true rfl) tk_R_readClause rfl rfl ⟨trivial, trivial⟩ ?_
              exact Ev.msk [true, true, false] (K2 _ (by first | rfl | simp only [if_pos hc15, if_neg hc46, if_neg hc47, if_neg hc48, if_neg hc49, if_neg hc50]))
            · refine Ev.blk (pc' := 74) (lv' := [some (vr 12 0 80), some (vi q1.1), none]) (st' := [vi (ii 6), vi (q1.2.1 80 38)]) (h' := q1.2) 33 3 (Nat.le_of_ble_eq_true rfl) tk_R_readClause rfl rfl ⟨trivial, trivial, trivial, trivial⟩ ?_
              refine Ev.icmp_ge 36 81 tk_R_readClause rfl (by decide) (fun hc51 => ?_) (fun hc51 => ?_)
              · refine Ev.blk (pc' := 82) (lv' := [some (vr 12 0 80), some (vi q1.1), none]) (st' := [vi (ii 0)]) (h' := q1.2) 39 1 (Nat.le_of_ble_eq_true rfl) tk_R_readClause rfl rfl ⟨trivial, trivial⟩ ?_
                exact Ev.msk [true, true, false] (K2 _ (by first | rfl | simp only [if_pos hc15, if_neg hc46, if_neg hc47, if_neg hc48, if_neg hc49, if_pos hc50, if_pos hc51]))
              · refine Ev.blk (pc' := 82) (lv' := [some (vr 12 0 80), some (vi q1.1), none]) (st' := [vi (ii 1)]) (h' := q1.2) 37 2 (Nat.le_of_ble_eq_true rfl) tk_R_readClause rfl rfl ⟨trivial, trivial, trivial⟩ ?_
                exact Ev.msk [true, true, false] (K2 _ (by first | rfl | simp only [if_pos hc15, if_neg hc46, if_neg hc47, if_neg hc48, if_neg hc49, if_pos hc50, if_neg hc51]))
          · refine Ev.blk (pc' := 59) (lv' := [some (vr 12 0 80), some (vi q1.1), none]) (st' := [vi (ii 6), vi (q1.2.1 80 37)]) (h' := q1.2) 26 3 (Nat.le_of_ble_eq_true rfl) tk_R_readClause rfl rfl ⟨trivial, trivial, trivial, trivial⟩ ?_
            refine Ev.icmp_lt 29 77 tk_R_readClause rfl (by decide) (fun hc52 => ?_) (fun hc52 => ?_)
            · refine Ev.blk (pc' := 82) (lv' := [some (vr 12 0 80), some (vi q1.1), none]) (st' := [vi (ii 1)]) (h' := q1.2) 37 2 (Nat.le_of_ble_eq_true rfl) tk_R_readClause rfl rfl ⟨trivial, trivial, trivial⟩ ?_
              exact Ev.msk [true, true, false] (K2 _ (by first | rfl | simp only [if_pos hc15, if_neg hc46, if_neg hc47, if_neg hc48, if_pos hc49, if_pos hc52]))
            · refine Ev.blk (pc' := 65) (lv' := [some (vr 12 0 80), some (vi q1.1), none]) (st' := [vi (ii 102), vi q1.1]) (h' := q1.2) 30 2 (Nat.le_of_ble_eq_true rfl) tk_R_readClause rfl rfl ⟨trivial, trivial, trivial⟩ ?_
              refine Ev.icmp_ne 32 81 tk_R_readClause rfl (by decide) (fun hc53 => ?_) (fun hc53 => ?_)
              · refine Ev.blk (pc' := 82) (lv' := [some (vr 12 0 80), some (vi q1.1), none]) (st' := [vi (ii 0)]) (h' := q1.2) 39 1 (Nat.le_of_ble_eq_true rfl) tk_R_readClause rfl rfl ⟨trivial, trivial⟩ ?_
                exact Ev.msk [true, true, false] (K2 _ (by first | rfl | simp only [if_pos hc15, if_neg hc46, if_neg hc47, if_neg hc48, if_pos hc49, if_neg hc52, if_neg hc53]))
              · refine Ev.blk (pc' := 74) (lv' := [some (vr 12 0 80), some (vi q1.1), none]) (st' := [vi (ii 6), vi (q1.2.1 80 38)]) (h' := q1.2) 33 3 (Nat.le_of_ble_eq_true rfl) tk_R_readClause rfl rfl ⟨trivial, trivial, trivial, trivial⟩ ?_
                refine Ev.icmp_ge 36 81 tk_R_readClause rfl (by decide) (fun hc54 => ?_) (fun hc54 => ?_)
                · refine Ev.blk (pc' := 82) (lv' := [some (vr 12 0 80), some (vi q1.1), none]) (st' := [vi (ii 0)]) (h' := q1.2) 39 1 (Nat.le_of_ble_eq_true rfl) tk_R_readClause rfl rfl ⟨trivial, trivial⟩ ?_
                  exact Ev.msk [true, true, false] (K2 _ (by first | rfl | simp only [if_pos hc15, if_neg hc46, if_neg hc47, if_neg hc48, if_pos hc49, if_neg hc52, if_pos hc53, if_pos hc54]))
                · refine Ev.blk (pc' := 82) (lv' := [some (vr 12 0 80), some (vi q1.1), none]) (st' := [vi (ii 1)]) (h' := q1.2) 37 2 (Nat.le_of_ble_eq_true rfl) tk_R_readClause rfl rfl ⟨trivial, trivial, trivial⟩ ?_
                  exact Ev.msk [true, true, false] (K2 _ (by first | rfl | simp only [if_pos hc15, if_neg hc46, if_neg hc47, if_neg hc48, if_pos hc49, if_neg hc52, if_pos hc53, if_neg hc54]))
        · refine Ev.blk (pc' := 44) (lv' := [some (vr 12 0 80), some (vi q1.1), none]) (st' := [vi (ii 6), vi (q1.2.1 80 36)]) (h' := q1.2) 19 3 (Nat.le_of_ble_eq_true rfl) tk_R_readClause rfl rfl ⟨trivial, trivial, trivial, trivial⟩ ?_
          refine Ev.icmp_lt 22 77 tk_R_readClause rfl (by decide) (fun hc55 => ?_) (fun hc55 => ?_)
          · refine Ev.blk (pc' := 82) (lv' := [some (vr 12 0 80), some (vi q1.1), none]) (st' := [vi (ii 1)]) (h' := q1.2) 37 2 (Nat.le_of_ble_eq_true rfl) tk_R_readClause rfl rfl ⟨trivial, trivial, trivial⟩ ?_
            exact Ev.msk [true, true, false] (K2 _ (by first | rfl | simp only [if_pos hc15, if_neg hc46, if_neg hc47, if_pos hc48, if_pos hc55]))
          · refine Ev.blk (pc' := 50) (lv' := [some (vr 12 0 80), some (vi q1.1), none]) (st' := [vi (ii 107), vi q1.1]) (h' := q1.2) 23 2 (Nat.le_of_ble_eq_true rfl) tk_R_readClause rfl rfl ⟨trivial, trivial, trivial⟩ ?_
            refine Ev.icmp_ne 25 62 tk_R_readClause rfl (by decide) (fun hc56 => ?_) (fun hc56 => ?_)
            · refine Ev.blk (pc' := 65) (lv' := [some (vr 12 0 80), some (vi q1.1), none]) (st' := [vi (ii 102), vi q1.1]) (h' := q1.2) 30 2 (Nat.le_of_ble_eq_true rfl) tk_R_readClause rfl rfl ⟨trivial, trivial, trivial⟩ ?_
              refine Ev.icmp_ne 32 81 tk_R_readClause rfl (by decide) (fun hc57 => ?_) (fun hc57 => ?_)
              · refine Ev.blk (pc' := 82) (lv' := [some (vr 12 0 80), some (vi q1.1), none]) (st' := [vi (ii 0)]) (h' := q1.2) 39 1 (Nat.le_of_ble_eq_true rfl) tk_R_readClause rfl rfl ⟨trivial, trivial⟩ ?_
                exact Ev.msk [true, true, false] (K2 _ (by first | rfl | simp only [if_pos hc15, if_neg hc46, if_neg hc47, if_pos hc48, if_neg hc55, if_neg hc56, if_neg hc57]))
              · refine Ev.blk (pc' := 74) (lv' := [some (vr 12 0 80), some (vi q1.1), none]) (st' := [vi (ii 6), vi (q1.2.1 80 38)]) (h' := q1.2) 33 3 (Nat.le_of_ble_eq_true rfl) tk_R_readClause rfl rfl ⟨trivial, trivial, trivial, trivial⟩ ?_
                refine Ev.icmp_ge 36 81 tk_R_readClause rfl (by decide) (fun hc58 => ?_) (fun hc58 => ?_)
                · refine Ev.blk (pc' := 82) (lv' := [some (vr 12 0 80), some (vi q1.1), none]) (st' := [vi (ii 0)]) (h' := q1.2) 39 1 (Nat.le_of_ble_eq_true rfl) tk_R_readClause rfl rfl ⟨trivial, trivial⟩ ?_
                  exact Ev.msk [true, true, false] (K2 _ (by first | rfl | simp only [if_pos hc15, if_neg hc46, if_neg hc47, if_pos hc48, if_neg hc55, if_neg hc56, if_pos hc57, if_pos hc58]))
                · refine Ev.blk (pc' := 82) (lv' := [some (vr 12 0 80), some (vi q1.1), none]) (st' := [vi (ii 1)]) (h' := q1.2) 37 2 (Nat.le_of_ble_eq_true rfl) tk_R_readClause rfl rfl ⟨trivial, trivial, trivial⟩ ?_
                  exact Ev.msk [true, true, false] (K2 _ (by first | rfl | simp only [if_pos hc15, if_neg hc46, if_neg hc47, if_pos hc48, if_neg hc55, if_neg hc56, if_pos hc57, if_neg hc58]))
            · refine Ev.blk (pc' := 59) (lv' := [some (vr 12 0 80), some (vi q1.1), none]) (st' := [vi (ii 6), vi (q1.2.1 80 37)]) (h' := q1.2) 26 3 (Nat.le_of_ble_eq_true rfl) tk_R_readClause rfl rfl ⟨trivial, trivial, trivial, trivial⟩ ?_
              refine Ev.icmp_lt 29 77 tk_R_readClause rfl (by decide) (fun hc59 => ?_) (fun hc59 => ?_)
              · refine Ev.blk (pc' := 82) (lv' := [some (vr 12 0 80), some (vi q1.1), none]) (st' := [vi (ii 1)]) (h' := q1.2) 37 2 (Nat.le_of_ble_eq_true rfl) tk_R_readClause rfl rfl ⟨trivial, trivial, trivial⟩ ?_
                exact Ev.msk [true, true, false] (K2 _ (by first | rfl | simp only [if_pos hc15, if_neg hc46, if_neg hc47, if_pos hc48, if_neg hc55, if_pos hc56, if_pos hc59]))
              · refine Ev.blk (pc' := 65) (lv' := [some (vr 12 0 80), some (vi q1.1), none]) (st' := [vi (ii 102), vi q1.1]) (h' := q1.2) 30 2 (Nat.le_of_ble_eq_true rfl) tk_R_readClause rfl rfl ⟨trivial, trivial, trivial⟩ ?_
                refine Ev.icmp_ne 32 81 tk_R_readClause rfl (by decide) (fun hc60 => ?_) (fun hc60 => ?_)
                · refine Ev.blk (pc' := 82) (lv' := [some (vr 12 0 80), some (vi q1.1), none]) (st' := [vi (ii 0)]) (h' := q1.2) 39 1 (Nat.le_of_ble_eq_true rfl) tk_R_readClause rfl rfl ⟨trivial, trivial⟩ ?_
                  exact Ev.msk [true, true, false] (K2 _ (by first | rfl | simp only [if_pos hc15, if_neg hc46, if_neg hc47, if_pos hc48, if_neg hc55, if_pos hc56, if_neg hc59, if_neg hc60]))
                · refine Ev.blk (pc' := 74) (lv' := [some (vr 12 0 80), some (vi q1.1), none]) (st' := [vi (ii 6), vi (q1.2.1 80 38)]) (h' := q1.2) 33 3 (Nat.le_of_ble_eq_true rfl) tk_R_readClause rfl rfl ⟨trivial, trivial, trivial, trivial⟩ ?_
                  refine Ev.icmp_ge 36 81 tk_R_readClause rfl (by decide) (fun hc61 => ?_) (fun hc61 => ?_)
                  · refine Ev.blk (pc' := 82) (lv' := [some (vr 12 0 80), some (vi q1.1), none]) (st' := [vi (ii 0)]) (h' := q1.2) 39 1 (Nat.le_of_ble_eq_true rfl) tk_R_readClause rfl rfl ⟨trivial, trivial⟩ ?_
                    exact Ev.msk [true, true, false] (K2 _ (by first | rfl | simp only [if_pos hc15, if_neg hc46, if_neg hc47, if_pos hc48, if_neg hc55, if_pos hc56, if_neg hc59, if_pos hc60, if_pos hc61]))
                  · refine Ev.blk (pc' := 82) (lv' := [some (vr 12 0 80), some (vi q1.1), none]) (st' := [vi (ii 1)]) (h' := q1.2) 37 2 (Nat.le_of_ble_eq_true rfl) tk_R_readClause rfl rfl ⟨trivial, trivial, trivial⟩ ?_
                    exact Ev.msk [true, true, false] (K2 _ (by first | rfl | simp only [if_pos hc15, if_neg hc46, if_neg hc47, if_pos hc48, if_neg hc55, if_pos hc56, if_neg hc59, if_pos hc60, if_neg hc61]))
      · refine Ev.blk (pc' := 29) (lv' := [some (vr 12 0 80), some (vi q1.1), none]) (st' := [vi (ii 4), vi (q1.2.1 80 35)]) (h' := q1.2) 12 3 (Nat.le_of_ble_eq_true rfl) tk_R_readClause rfl rfl ⟨trivial, trivial, trivial, trivial⟩ ?_
        refine Ev.icmp_lt 15 77 tk_R_readClause rfl (by decide) (fun hc62 => ?_) (fun hc62 => ?_)
        · refine Ev.blk (pc' := 82) (lv' := [some (vr 12 0 80), some (vi q1.1), none]) (st' := [vi (ii 1)]) (h' := q1.2) 37 2 (Nat.le_of_ble_eq_true rfl) tk_R_readClause rfl rfl ⟨trivial, trivial, trivial⟩ ?_
          exact Ev.msk [true, true, false] (K2 _ (by first | rfl | simp only [if_pos hc15, if_neg hc46, if_pos hc47, if_pos hc62]))
        · refine Ev.blk (pc' := 35) (lv' := [some (vr 12 0 80), some (vi q1.1), none]) (st' := [vi (ii 105), vi q1.1]) (h' := q1.2) 16 2 (Nat.le_of_ble_eq_true rfl) tk_R_readClause rfl rfl ⟨trivial, trivial, trivial⟩ ?_
          refine Ev.icmp_ne 18 47 tk_R_readClause rfl (by decide) (fun hc63 => ?_) (fun hc63 => ?_)
          · refine Ev.blk (pc' := 50) (lv' := [some (vr 12 0 80), some (vi q1.1), none]) (st' := [vi (ii 107), vi q1.1]) (h' := q1.2) 23 2 (Nat.le_of_ble_eq_true rfl) tk_R_readClause rfl rfl ⟨trivial, trivial, trivial⟩ ?_
            refine Ev.icmp_ne 25 62 tk_R_readClause rfl (by decide) (fun hc64 => ?_) (fun hc64 => ?_)
            · refine Ev.blk (pc' := 65) (lv' := [some (vr 12 0 80), some (vi q1.1), none]) (st' := [vi (ii 102), vi q1.1]) (h' := q1.2) 30 2 (Nat.le_of_ble_eq_true rfl) tk_R_readClause rfl rfl ⟨trivial, trivial, trivial⟩ ?_
              refine Ev.icmp_ne 32 81 tk_R_readClause rfl (by decide) (fun hc65 => ?_) (fun hc65 => ?_)
              · refine Ev.blk (pc' := 82) (lv' := [some (vr 12 0 80), some (vi q1.1), none]) (st' := [vi (ii 0)]) (h' := q1.2) 39 1 (Nat.le_of_ble_eq_true rfl) tk_R_readClause rfl rfl ⟨trivial, trivial⟩ ?_
                exact Ev.msk [true, true, false] (K2 _ (by first | rfl | simp only [if_pos hc15, if_neg hc46, if_pos hc47, if_neg hc62, if_neg hc63, if_neg hc64, if_neg hc65]))
              · refine Ev.blk (pc' := 74) (lv' := [some (vr 12 0 80), some (vi q1.1), none]) (st' := [vi (ii 6), vi (q1.2.1 80 38)]) (h' := q1.2) 33 3 (Nat.le_of_ble_eq_true rfl) tk_R_readClause rfl rfl ⟨trivial, trivial, trivial, trivial⟩ ?_
                refine Ev.icmp_ge 36 81 tk_R_readClause rfl (by decide) (fun hc66 => ?_) (fun hc66 => ?_)
                · refine Ev.blk (pc' := 82) (lv' := [some (vr 12 0 80), some (vi q1.1), none]) (st' := [vi (ii 0)]) (h' := q1.2) 39 1 (Nat.le_of_ble_eq_true rfl) tk_R_readClause rfl rfl ⟨trivial, trivial⟩ ?_
                  exact Ev.msk [true, true, false] (K2 _ (by first | rfl | simp only [if_pos hc15, if_neg hc46, if_pos hc47, if_neg hc62, if_neg hc63, if_neg hc64, if_pos hc65, if_pos hc66]))
                · refine Ev.blk (pc' := 82) (lv' := [some (vr 12 0 80), some (vi q1.1), none]) (st' := [vi (ii 1)]) (h' := q1.2) 37 2 (Nat.le_of_ble_eq_true rfl) tk_R_readClause rfl rfl ⟨trivial, trivial, trivial⟩ ?_
                  exact Ev.msk [true, true, false] (K2 _ (by first | rfl | simp only [if_pos hc15, if_neg hc46, if_pos hc47, if_neg hc62, if_neg hc63, if_neg hc64, if_pos hc65, if_neg hc66]))
            · refine Ev.blk (pc' := 59) (lv' := [some (vr 12 0 80), some (vi q1.1), none]) (st' := [vi (ii 6), vi (q1.2.1 80 37)]) (h' := q1.2) 26 3 (Nat.le_of_ble_eq_true rfl) tk_R_readClause rfl rfl ⟨trivial, trivial, trivial, trivial⟩ ?_
              refine Ev.icmp_lt 29 77 tk_R_readClause rfl (by decide) (fun hc67 => ?_) (fun hc67 => ?_)
              · refine Ev.blk (pc' := 82) (lv' := [some (vr 12 0 80), some (vi q1.1), none]) (st' := [vi (ii 1)]) (h' := q1.2) 37 2 (Nat.le_of_ble_eq_true rfl) tk_R_readClause rfl rfl ⟨trivial, trivial, trivial⟩ ?_
                exact Ev.msk [true, true, false] (K2 _ (by first | rfl | simp only [if_pos hc15, if_neg hc46, if_pos hc47, if_neg hc62, if_neg hc63, if_pos hc64, if_pos hc67]))
              · refine Ev.blk (pc' := 65) (lv' := [some (vr 12 0 80), some (vi q1.1), none]) (st' := [vi (ii 102), vi q1.1]) (h' := q1.2) 30 2 (Nat.le_of_ble_eq_true rfl) tk_R_readClause rfl rfl ⟨trivial, trivial, trivial⟩ ?_
                refine Ev.icmp_ne 32 81 tk_R_readClause rfl (by decide) (fun hc68 => ?_) (fun hc68 => ?_)
                · refine Ev.blk (pc' := 82) (lv' := [some (vr 12 0 80), some (vi q1.1), none]) (st' := [vi (ii 0)]) (h' := q1.2) 39 1 (Nat.le_of_ble_eq_true rfl) tk_R_readClause rfl rfl ⟨trivial, trivial⟩ ?_
                  exact Ev.msk [true, true, false] (K2 _ (by first | rfl | simp only [if_pos hc15, if_neg hc46, if_pos hc47, if_neg hc62, if_neg hc63, if_pos hc64, if_neg hc67, if_neg hc68]))
                · refine Ev.blk (pc' := 74) (lv' := [some (vr 12 0 80), some (vi q1.1), none]) (st' := [vi (ii 6), vi (q1.2.1 80 38)]) (h' := q1.2) 33 3 (Nat.le_of_ble_eq_true rfl) tk_R_readClause rfl rfl ⟨trivial, trivial, trivial, trivial⟩ ?_
                  refine Ev.icmp_ge 36 81 tk_R_readClause rfl (by decide) (fun hc69 => ?_) (fun hc69 => ?_)
                  · refine Ev.blk (pc' := 82) (lv' := [some (vr 12 0 80), some (vi q1.1), none]) (st' := [vi (ii 0)]) (h' := q1.2) 39 1 (Nat.le_of_ble_eq_true rfl) tk_R_readClause rfl rfl ⟨trivial, trivial⟩ ?_
                    exact Ev.msk [true, true, false] (K2 _ (by first | rfl | simp only [if_pos hc15, if_neg hc46, if_pos hc47, if_neg hc62, if_neg hc63, if_pos hc64, if_neg hc67, if_pos hc68, if_pos hc69]))
                  · refine Ev.blk (pc' := 82) (lv' := [some (vr 12 0 80), some (vi q1.1), none]) (st' := [vi (ii 1)]) (h' := q1.2) 37 2 (Nat.le_of_ble_eq_true rfl) tk_R_readClause rfl rfl ⟨trivial, trivial, trivial⟩ ?_
                    exact Ev.msk [true, true, false] (K2 _ (by first | rfl | simp only [if_pos hc15, if_neg hc46, if_pos hc47, if_neg hc62, if_neg hc63, if_pos hc64, if_neg hc67, if_pos hc68, if_neg hc69]))
          · refine Ev.blk (pc' := 44) (lv' := [some (vr 12 0 80), some (vi q1.1), none]) (st' := [vi (ii 6), vi (q1.2.1 80 36)]) (h' := q1.2) 19 3 (Nat.le_of_ble_eq_true rfl) tk_R_readClause rfl rfl ⟨trivial, trivial, trivial, trivial⟩ ?_
            refine Ev.icmp_lt 22 77 tk_R_readClause rfl (by decide) (fun hc70 => ?_) (fun hc70 => ?_)
            · refine Ev.blk (pc' := 82) (lv' := [some (vr 12 0 80), some (vi q1.1), none]) (st' := [vi (ii 1)]) (h' := q1.2) 37 2 (Nat.le_of_ble_eq_true rfl) tk_R_readClause rfl rfl ⟨trivial, trivial, trivial⟩ ?_
              exact Ev.msk [true, true, false] (K2 _ (by first | rfl | simp only [if_pos hc15, if_neg hc46, if_pos hc47, if_neg hc62, if_pos hc63, if_pos hc70]))
            · refine Ev.blk (pc' := 50) (lv' := [some (vr 12 0 80), some (vi q1.1), none]) (st' := [vi (ii 107), vi q1.1]) (h' := q1.2) 23 2 (Nat.le_of_ble_eq_true rfl) tk_R_readClause rfl rfl ⟨trivial, trivial, trivial⟩ ?_
              refine Ev.icmp_ne 25 62 tk_R_readClause rfl (by decide) (fun hc71 => ?_) (fun hc71 => ?_)
              · refine Ev.blk (pc' := 65) (lv' := [some (vr 12 0 80), some (vi q1.1), none]) (st' := [vi (ii 102), vi q1.1]) (h' := q1.2) 30 2 (Nat.le_of_ble_eq_true rfl) tk_R_readClause rfl rfl ⟨trivial, trivial, trivial⟩ ?_
                refine Ev.icmp_ne 32 81 tk_R_readClause rfl (by decide) (fun hc72 => ?_) (fun hc72 => ?_)
                · refine Ev.blk (pc' := 82) (lv' := [some (vr 12 0 80), some (vi q1.1), none]) (st' := [vi (ii 0)]) (h' := q1.2) 39 1 (Nat.le_of_ble_eq_true rfl) tk_R_readClause rfl rfl ⟨trivial, trivial⟩ ?_
                  exact Ev.msk [true, true, false] (K2 _ (by first | rfl | simp only [if_pos hc15, if_neg hc46, if_pos hc47, if_neg hc62, if_pos hc63, if_neg hc70, if_neg hc71, if_neg hc72]))
                · refine Ev.blk (pc' := 74) (lv' := [some (vr 12 0 80), some (vi q1.1), none]) (st' := [vi (ii 6), vi (q1.2.1 80 38)]) (h' := q1.2) 33 3 (Nat.le_of_ble_eq_true rfl) tk_R_readClause rfl rfl ⟨trivial, trivial, trivial, trivial⟩ ?_
                  refine Ev.icmp_ge 36 81 tk_R_readClause rfl (by decide) (fun hc73 => ?_) (fun hc73 => ?_)
                  · refine Ev.blk (pc' := 82) (lv' := [some (vr 12 0 80), some (vi q1.1), none]) (st' := [vi (ii 0)]) (h' := q1.2) 39 1 (Nat.le_of_ble_eq_true rfl) tk_R_readClause rfl rfl ⟨trivial, trivial⟩ ?_
                    exact Ev.msk [true, true, false] (K2 _ (by first | rfl | simp only [if_pos hc15, if_neg hc46, if_pos hc47, if_neg hc62, if_pos hc63, if_neg hc70, if_neg hc71, if_pos hc72, if_pos hc73]))
                  · refine Ev.blk (pc' := 82) (lv' := [some (vr 12 0 80), some (vi q1.1), none]) (st' := [vi (ii 1)]) (h' := q1.2) 37 2 (Nat.le_of_ble_eq_true rfl) tk_R_readClause rfl rfl ⟨trivial, trivial, trivial⟩ ?_
                    exact Ev.msk [true, true, false] (K2 _ (by first | rfl | simp only [if_pos hc15, if_neg hc46, if_pos hc47, if_neg hc62, if_pos hc63, if_neg hc70, if_neg hc71, if_pos hc72, if_neg hc73]))
              · refine Ev.blk (pc' := 59) (lv' := [some (vr 12 0 80), some (vi q1.1), none]) (st' := [vi (ii 6), vi (q1.2.1 80 37)]) (h' := q1.2) 26 3 (Nat.le_of_ble_eq_true rfl) tk_R_readClause rfl rfl ⟨trivial, trivial, trivial, trivial⟩ ?_
                refine Ev.icmp_lt 29 77 tk_R_readClause rfl (by decide) (fun hc74 => ?_) (fun hc74 => ?_)
                · refine Ev.blk (pc' := 82) (lv' := [some (vr 12 0 80), some (vi q1.1), none]) (st' := [vi (ii 1)]) (h' := q1.2) 37 2 (Nat.le_of_ble_eq_true rfl) tk_R_readClause rfl rfl ⟨trivial, trivial, trivial⟩ ?_
                  exact Ev.msk [true, true, false] (K2 _ (by first | rfl | simp only [if_pos hc15, if_neg hc46, if_pos hc47, if_neg hc62, if_pos hc63, if_neg hc70, if_pos hc71, if_pos hc74]))
                · refine Ev.blk (pc' := 65) (lv' := [some (vr 12 0 80), some (vi q1.1), none]) (st' := [vi (ii 102), vi q1.1]) (h' := q1.2) 30 2 (Nat.le_of_ble_eq_true rfl) tk_R_readClause rfl rfl ⟨trivial, trivial, trivial⟩ ?_
                  refine Ev.icmp_ne 32 81 tk_R_readClause rfl (by decide) (fun hc75 => ?_) (fun hc75 => ?_)
                  · refine Ev.blk (pc' := 82) (lv' := [some (vr 12 0 80), some (vi q1.1), none]) (st' := [vi (ii 0)]) (h' := q1.2) 39 1 (Nat.le_of_ble_eq_true rfl) tk_R_readClause rfl rfl ⟨trivial, trivial⟩ ?_
                    exact Ev.msk [true, true, false] (K2 _ (by first | rfl | simp only [if_pos hc15, if_neg hc46, if_pos hc47, if_neg hc62, if_pos hc63, if_neg hc70, if_pos hc71, if_neg hc74, if_neg hc75]))
                  · refine Ev.blk (pc' := 74) (lv' := [some (vr 12 0 80), some (vi q1.1), none]) (st' := [vi (ii 6), vi (q1.2.1 80 38)]) (h' := q1.2) 33 3 (Nat.le_of_ble_eq_true rfl) tk_R_readClause rfl rfl ⟨trivial, trivial, trivial, trivial⟩ ?_
                    refine Ev.icmp_ge 36 81 tk_R_readClause rfl (by decide) (fun hc76 => ?_) (fun hc76 => ?_)
                    · refine Ev.blk (pc' := 82) (lv' := [some (vr 12 0 80), some (vi q1.1), none]) (st' := [vi (ii 0)]) (h' := q1.2) 39 1 (Nat.le_of_ble_eq_true rfl) tk_R_readClause rfl rfl ⟨trivial, trivial⟩ ?_
                      exact Ev.msk [true, true, false] (K2 _ (by first | rfl | simp only [if_pos hc15, if_neg hc46, if_pos hc47, if_neg hc62, if_pos hc63, if_neg hc70, if_pos hc71, if_neg hc74, if_pos hc75, if_pos hc76]))
                    · refine Ev.blk (pc' := 82) (lv' := [some (vr 12 0 80), some (vi q1.1), none]) (st' := [vi (ii 1)]) (h' := q1.2) 37 2 (Nat.le_of_ble_eq_true rfl) tk_R_readClause rfl rfl ⟨trivial, trivial, trivial⟩ ?_
                      exact Ev.msk [true, true, false] (K2 _ (by first | rfl | simp only [if_pos hc15, if_neg hc46, if_pos hc47, if_neg hc62, if_pos hc63, if_neg hc70, if_pos hc71, if_neg hc74, if_pos hc75, if_neg hc76]))
set_option maxRecDepth 4000 in
theorem s_R_beside (Γ : AG) (a0 : Int32) (a1 : Int32) (a2 : Int32) (a3 : Int32) (h : AH) (x : Int32) (hx : f_R_beside a0 a1 a2 a3 h = some x) : MetA Γ m_R_beside [vi a0, vi a1, vi a2, vi a3] h (some (vi x)) h := by
  refine Ev.met rfl rfl (Nat.le_of_ble_eq_true rfl) ?_
  show Ev Γ m_R_beside 0 [some (vi a0), some (vi a1), some (vi a2), some (vi a3), none, none] [] h _ _
  obtain ⟨r, hr⟩ : ∃ r : Option AV, r = some (vi x) := ⟨_, rfl⟩
  obtain ⟨h', hh⟩ : ∃ h' : AH, h' = h := ⟨_, rfl⟩
  have hP : r = some (vi x) ∧ h' = h := ⟨hr, hh⟩
  suffices hS : Ev Γ m_R_beside 0 [some (vi a0), some (vi a1), some (vi a2), some (vi a3), none, none] [] h r h' by rw [hr, hh] at hS; exact hS
  clear hr hh
  unfold f_R_beside at hx
  obtain ⟨hg1, hx⟩ := gd hx
  refine Ev.blk (pc' := 4) (lv' := [some (vi a0), some (vi a1), some (vi a2), some (vi a3), none, none]) (st' := [vi a1, vi (remI a0 a2)]) (h' := h) 0 4 (Nat.le_of_ble_eq_true rfl) tk_R_beside rfl rfl ⟨trivial, trivial, hg1, trivial, trivial⟩ ?_
  have K2 : ∀ v2_0 : Int32, v2_0 = (if a1 = 0 then (ii 1) else (if a1 = (ii 2) then (ii (-1)) else (ii 0))) → Ev Γ m_R_beside 21 [some (vi a0), some (vi a1), some (vi a2), some (vi a3), none, none] [vi v2_0, vi (remI a0 a2)] h r h' := by
    intro v2_0 e3
    subst e3
    obtain ⟨hg4, hx⟩ := gd hx
    refine Ev.blk (pc' := 29) (lv' := [some (vi a0), some (vi a1), some (vi a2), some (vi a3), some (vi ((remI a0 a2) + (if a1 = 0 then (ii 1) else (if a1 = (ii 2) then (ii (-1)) else (ii 0))))), none]) (st' := [vi (ii 1), vi a1, vi (a0 / a2)]) (h' := h) 13 7 (Nat.le_of_ble_eq_true rfl) tk_R_beside rfl rfl ⟨trivial, trivial, trivial, trivial, hg4, trivial, trivial, trivial⟩ ?_
    have K5 : ∀ v5_0 : Int32, v5_0 = (if a1 = (ii 1) then (ii 1) else (if a1 = (ii 3) then (ii (-1)) else (ii 0))) → Ev Γ m_R_beside 46 [none, none, some (vi a2), some (vi a3), some (vi ((remI a0 a2) + (if a1 = 0 then (ii 1) else (if a1 = (ii 2) then (ii (-1)) else (ii 0))))), none] [vi v5_0, vi (a0 / a2)] h r h' := by
      intro v5_0 e6
      subst e6
      refine Ev.blk (pc' := 51) (lv' := [none, none, some (vi a2), some (vi a3), some (vi ((remI a0 a2) + (if a1 = 0 then (ii 1) else (if a1 = (ii 2) then (ii (-1)) else (ii 0))))), some (vi ((a0 / a2) + (if a1 = (ii 1) then (ii 1) else (if a1 = (ii 3) then (ii (-1)) else (ii 0)))))]) (st' := [vi ((remI a0 a2) + (if a1 = 0 then (ii 1) else (if a1 = (ii 2) then (ii (-1)) else (ii 0))))]) (h' := h) 29 3 (Nat.le_of_ble_eq_true rfl) tk_R_beside rfl rfl ⟨trivial, trivial, trivial, trivial⟩ ?_
      refine Ev.if_lt 32 71 tk_R_beside rfl (by decide) (fun hc7 => ?_) (fun hc7 => ?_)
      · replace hx := ip hc7 hx
        refine Ev.blk (pc' := 82) (lv' := [none, none, some (vi a2), some (vi a3), some (vi ((remI a0 a2) + (if a1 = 0 then (ii 1) else (if a1 = (ii 2) then (ii (-1)) else (ii 0))))), some (vi ((a0 / a2) + (if a1 = (ii 1) then (ii 1) else (if a1 = (ii 3) then (ii (-1)) else (ii 0)))))]) (st' := [vi (ii (-1))]) (h' := h) 41 2 (Nat.le_of_ble_eq_true rfl) tk_R_beside rfl rfl ⟨trivial, trivial, trivial⟩ ?_
        obtain rfl := Option.some.inj hx
        obtain ⟨rfl, rfl⟩ := hP
        exact Ev.iret 48 tk_R_beside rfl rfl
      · replace hx := ia hc7 hx
        refine Ev.blk (pc' := 57) (lv' := [none, none, some (vi a2), some (vi a3), some (vi ((remI a0 a2) + (if a1 = 0 then (ii 1) else (if a1 = (ii 2) then (ii (-1)) else (ii 0))))), some (vi ((a0 / a2) + (if a1 = (ii 1) then (ii 1) else (if a1 = (ii 3) then (ii (-1)) else (ii 0)))))]) (st' := [vi a2, vi ((remI a0 a2) + (if a1 = 0 then (ii 1) else (if a1 = (ii 2) then (ii (-1)) else (ii 0))))]) (h' := h) 33 2 (Nat.le_of_ble_eq_true rfl) tk_R_beside rfl rfl ⟨trivial, trivial, trivial⟩ ?_
        refine Ev.icmp_ge 35 71 tk_R_beside rfl (by decide) (fun hc8 => ?_) (fun hc8 => ?_)
        · replace hx := ip hc8 hx
          refine Ev.blk (pc' := 82) (lv' := [none, none, some (vi a2), some (vi a3), some (vi ((remI a0 a2) + (if a1 = 0 then (ii 1) else (if a1 = (ii 2) then (ii (-1)) else (ii 0))))), some (vi ((a0 / a2) + (if a1 = (ii 1) then (ii 1) else (if a1 = (ii 3) then (ii (-1)) else (ii 0)))))]) (st' := [vi (ii (-1))]) (h' := h) 41 2 (Nat.le_of_ble_eq_true rfl) tk_R_beside rfl rfl ⟨trivial, trivial, trivial⟩ ?_
          obtain rfl := Option.some.inj hx
          obtain ⟨rfl, rfl⟩ := hP
          exact Ev.iret 48 tk_R_beside rfl rfl
        · replace hx := ia hc8 hx
          refine Ev.blk (pc' := 62) (lv' := [none, none, some (vi a2), some (vi a3), some (vi ((remI a0 a2) + (if a1 = 0 then (ii 1) else (if a1 = (ii 2) then (ii (-1)) else (ii 0))))), some (vi ((a0 / a2) + (if a1 = (ii 1) then (ii 1) else (if a1 = (ii 3) then (ii (-1)) else (ii 0)))))]) (st' := [vi ((a0 / a2) + (if a1 = (ii 1) then (ii 1) else (if a1 = (ii 3) then (ii (-1)) else (ii 0))))]) (h' := h) 36 1 (Nat.le_of_ble_eq_true rfl) tk_R_beside rfl rfl ⟨trivial, trivial⟩ ?_
          refine Ev.if_lt 37 71 tk_R_beside rfl (by decide) (fun hc9 => ?_) (fun hc9 => ?_)
          · replace hx := ip hc9 hx
            refine Ev.blk (pc' := 82) (lv' := [none, none, some (vi a2), some (vi a3), some (vi ((remI a0 a2) + (if a1 = 0 then (ii 1) else (if a1 = (ii 2) then (ii (-1)) else (ii 0))))), some (vi ((a0 / a2) + (if a1 = (ii 1) then (ii 1) else (if a1 = (ii 3) then (ii (-1)) else (ii 0)))))]) (st' := [vi (ii (-1))]) (h' := h) 41 2 (Nat.le_of_ble_eq_true rfl) tk_R_beside rfl rfl ⟨trivial, trivial, trivial⟩ ?_
            obtain rfl := Option.some.inj hx
            obtain ⟨rfl, rfl⟩ := hP
            exact Ev.iret 48 tk_R_beside rfl rfl
          · replace hx := ia hc9 hx
            refine Ev.blk (pc' := 68) (lv' := [none, none, some (vi a2), some (vi a3), some (vi ((remI a0 a2) + (if a1 = 0 then (ii 1) else (if a1 = (ii 2) then (ii (-1)) else (ii 0))))), some (vi ((a0 / a2) + (if a1 = (ii 1) then (ii 1) else (if a1 = (ii 3) then (ii (-1)) else (ii 0)))))]) (st' := [vi a3, vi ((a0 / a2) + (if a1 = (ii 1) then (ii 1) else (if a1 = (ii 3) then (ii (-1)) else (ii 0))))]) (h' := h) 38 2 (Nat.le_of_ble_eq_true rfl) tk_R_beside rfl rfl ⟨trivial, trivial, trivial⟩ ?_
            refine Ev.icmp_lt 40 75 tk_R_beside rfl (by decide) (fun hc10 => ?_) (fun hc10 => ?_)
            · replace hx := ip hc10 hx
              refine Ev.blk (pc' := 82) (lv' := [none, none, some (vi a2), some (vi a3), some (vi ((remI a0 a2) + (if a1 = 0 then (ii 1) else (if a1 = (ii 2) then (ii (-1)) else (ii 0))))), some (vi ((a0 / a2) + (if a1 = (ii 1) then (ii 1) else (if a1 = (ii 3) then (ii (-1)) else (ii 0)))))]) (st' := [vi ((((a0 / a2) + (if a1 = (ii 1) then (ii 1) else (if a1 = (ii 3) then (ii (-1)) else (ii 0)))) * a2) + ((remI a0 a2) + (if a1 = 0 then (ii 1) else (if a1 = (ii 2) then (ii (-1)) else (ii 0)))))]) (h' := h) 43 5 (Nat.le_of_ble_eq_true rfl) tk_R_beside rfl rfl ⟨trivial, trivial, trivial, trivial, trivial, trivial⟩ ?_
              obtain rfl := Option.some.inj hx
              obtain ⟨rfl, rfl⟩ := hP
              exact Ev.iret 48 tk_R_beside rfl rfl
            · replace hx := ia hc10 hx
              refine Ev.blk (pc' := 82) (lv' := [none, none, some (vi a2), some (vi a3), some (vi ((remI a0 a2) + (if a1 = 0 then (ii 1) else (if a1 = (ii 2) then (ii (-1)) else (ii 0))))), some (vi ((a0 / a2) + (if a1 = (ii 1) then (ii 1) else (if a1 = (ii 3) then (ii (-1)) else (ii 0)))))]) (st' := [vi (ii (-1))]) (h' := h) 41 2 (Nat.le_of_ble_eq_true rfl) tk_R_beside rfl rfl ⟨trivial, trivial, trivial⟩ ?_
              obtain rfl := Option.some.inj hx
              obtain ⟨rfl, rfl⟩ := hP
              exact Ev.iret 48 tk_R_beside rfl rfl
    refine Ev.icmp_ne 20 36 tk_R_beside rfl (by decide) (fun hc11 => ?_) (fun hc11 => ?_)
    · refine Ev.blk (pc' := 38) (lv' := [some (vi a0), some (vi a1), some (vi a2), some (vi a3), some (vi ((remI a0 a2) + (if a1 = 0 then (ii 1) else (if a1 = (ii 2) then (ii (-1)) else (ii 0))))), none]) (st' := [vi (ii 3), vi a1, vi (a0 / a2)]) (h' := h) 23 2 (Nat.le_of_ble_eq_true rfl) tk_R_beside rfl rfl ⟨trivial, trivial, trivial⟩ ?_
      refine Ev.icmp_ne 25 45 tk_R_beside rfl (by decide) (fun hc12 => ?_) (fun hc12 => ?_)
      · refine Ev.blk (pc' := 46) (lv' := [some (vi a0), some (vi a1), some (vi a2), some (vi a3), some (vi ((remI a0 a2) + (if a1 = 0 then (ii 1) else (if a1 = (ii 2) then (ii (-1)) else (ii 0))))), none]) (st' := [vi (ii 0), vi (a0 / a2)]) (h' := h) 28 1 (Nat.le_of_ble_eq_true rfl) tk_R_beside rfl rfl ⟨trivial, trivial⟩ ?_
        exact Ev.msk [false, false, true, true, true, false] (K5 _ (by first | rfl | simp only [if_neg hc11, if_neg hc12]))
      · refine Ev.blk (pc' := 46) (lv' := [some (vi a0), some (vi a1), some (vi a2), some (vi a3), some (vi ((remI a0 a2) + (if a1 = 0 then (ii 1) else (if a1 = (ii 2) then (ii (-1)) else (ii 0))))), none]) (st' := [vi (ii (-1)), vi (a0 / a2)]) (h' := h) 26 2 (Nat.le_of_ble_eq_true rfl) tk_R_beside rfl rfl ⟨trivial, trivial, trivial⟩ ?_
        exact Ev.msk [false, false, true, true, true, false] (K5 _ (by first | rfl | simp only [if_neg hc11, if_pos hc12]))
    · refine Ev.blk (pc' := 46) (lv' := [some (vi a0), some (vi a1), some (vi a2), some (vi a3), some (vi ((remI a0 a2) + (if a1 = 0 then (ii 1) else (if a1 = (ii 2) then (ii (-1)) else (ii 0))))), none]) (st' := [vi (ii 1), vi (a0 / a2)]) (h' := h) 21 2 (Nat.le_of_ble_eq_true rfl) tk_R_beside rfl rfl ⟨trivial, trivial, trivial⟩ ?_
      exact Ev.msk [false, false, true, true, true, false] (K5 _ (by first | rfl | simp only [if_pos hc11]))
  refine Ev.if_ne 4 11 tk_R_beside rfl (by decide) (fun hc13 => ?_) (fun hc13 => ?_)
  · refine Ev.blk (pc' := 13) (lv' := [some (vi a0), some (vi a1), some (vi a2), some (vi a3), none, none]) (st' := [vi (ii 2), vi a1, vi (remI a0 a2)]) (h' := h) 7 2 (Nat.le_of_ble_eq_true rfl) tk_R_beside rfl rfl ⟨trivial, trivial, trivial⟩ ?_
    refine Ev.icmp_ne 9 20 tk_R_beside rfl (by decide) (fun hc14 => ?_) (fun hc14 => ?_)
    · refine Ev.blk (pc' := 21) (lv' := [some (vi a0), some (vi a1), some (vi a2), some (vi a3), none, none]) (st' := [vi (ii 0), vi (remI a0 a2)]) (h' := h) 12 1 (Nat.le_of_ble_eq_true rfl) tk_R_beside rfl rfl ⟨trivial, trivial⟩ ?_
      exact Ev.msk [true, true, true, true, false, false] (K2 _ (by first | rfl | simp only [if_neg hc13, if_neg hc14]))
    · refine Ev.blk (pc' := 21) (lv' := [some (vi a0), some (vi a1), some (vi a2), some (vi a3), none, none]) (st' := [vi (ii (-1)), vi (remI a0 a2)]) (h' := h) 10 2 (Nat.le_of_ble_eq_true rfl) tk_R_beside rfl rfl ⟨trivial, trivial, trivial⟩ ?_
      exact Ev.msk [true, true, true, true, false, false] (K2 _ (by first | rfl | simp only [if_neg hc13, if_pos hc14]))
  · refine Ev.blk (pc' := 21) (lv' := [some (vi a0), some (vi a1), some (vi a2), some (vi a3), none, none]) (st' := [vi (ii 1), vi (remI a0 a2)]) (h' := h) 5 2 (Nat.le_of_ble_eq_true rfl) tk_R_beside rfl rfl ⟨trivial, trivial, trivial⟩ ?_
    exact Ev.msk [true, true, true, true, false, false] (K2 _ (by first | rfl | simp only [if_pos hc13]))
set_option maxRecDepth 4000 in
theorem l_R_areApart_L24 (Γ : AG) : ∀ (n : Nat) (n1 : Nat) (o1 : Nat) (v2 : Int32) (v3 : Int32) (v4 : Int32) (v5 : Int32) (h : AH) (x : (Int32) ⊕ (Unit)), R_areApart_L24 n n1 o1 v2 v3 v4 v5 h = some x → ∀ (r : Option AV) (h' : AH), (∀ z, x = .inl z → r = some (vi z) ∧ h' = h) → (∀ z, x = .inr z → Ev Γ m_R_areApart 54 [none, some (vr 20 n1 o1), some (vi v2), some (vi v3), some (vi v4), none] [] h r h') → Ev Γ m_R_areApart 24 [none, some (vr 20 n1 o1), some (vi v2), some (vi v3), some (vi v4), some (vi v5)] [] h r h' := by
  intro n
  induction n with
  | zero => intro n1 o1 v2 v3 v4 v5 h x hx; cases hx
  | succ n ih =>
    intro n1 o1 v2 v3 v4 v5 h x hx r h' hI hP
    replace hx : R_areApart_L24_b (R_areApart_L24 n) n1 o1 v2 v3 v4 v5 h = some x := hx
    unfold R_areApart_L24_b at hx
    refine Ev.blk (pc' := 28) (lv' := [none, some (vr 20 n1 o1), some (vi v2), some (vi v3), some (vi v4), some (vi v5)]) (st' := [vi v4, vi v5]) (h' := h) 16 2 (Nat.le_of_ble_eq_true rfl) tk_R_areApart rfl rfl ⟨trivial, trivial, trivial⟩ ?_
    refine Ev.icmp_ge 18 54 tk_R_areApart rfl (by decide) (fun hc1 => ?_) (fun hc1 => ?_)
    · replace hx := ip hc1 hx
      obtain rfl := Option.some.inj hx
      exact Ev.msk [false, true, true, true, true, false] (hP _ rfl)
    · replace hx := ia hc1 hx
      obtain ⟨hg2, hx⟩ := gd hx
      obtain ⟨hg3, hx⟩ := gd hx
      refine Ev.blk (pc' := 43) (lv' := [none, some (vr 20 n1 o1), some (vi v2), some (vi v3), some (vi v4), some (vi v5)]) (st' := [vi (h.1 o1 ((ii 2) * v4).toNatClampNeg), vi (h.1 o1 ((ii 2) * v5).toNatClampNeg)]) (h' := h) 19 10 (Nat.le_of_ble_eq_true rfl) tk_R_areApart rfl rfl ⟨trivial, trivial, trivial, trivial, hg2, trivial, trivial, trivial, trivial, hg3, trivial⟩ ?_
      refine Ev.icmp_ne 29 48 tk_R_areApart rfl (by decide) (fun hc4 => ?_) (fun hc4 => ?_)
      · replace hx := ia hc4 hx
        refine Ev.blk (pc' := 24) (lv' := [none, some (vr 20 n1 o1), some (vi v2), some (vi v3), some (vi v4), some (vi (v5 + ii 1))]) (st' := []) (h' := h) 32 2 (Nat.le_of_ble_eq_true rfl) tk_R_areApart rfl rfl ⟨trivial, trivial, trivial⟩ ?_
        exact Ev.msk [false, true, true, true, true, true] (ih n1 o1 v2 v3 v4 (v5 + ii 1) h _ hx r h' hI hP)
      · replace hx := ip hc4 hx
        refine Ev.blk (pc' := 47) (lv' := [none, some (vr 20 n1 o1), some (vi v2), some (vi v3), some (vi v4), some (vi v5)]) (st' := [vi (ii 0)]) (h' := h) 30 1 (Nat.le_of_ble_eq_true rfl) tk_R_areApart rfl rfl ⟨trivial, trivial⟩ ?_
        obtain rfl := Option.some.inj hx
        obtain ⟨rfl, rfl⟩ := hI _ rfl
        exact Ev.zret 31 tk_R_areApart rfl rfl rfl
set_option maxRecDepth 4000 in
theorem l_R_areApart_L3 (Γ : AG) : ∀ (n : Nat) (n1 : Nat) (o1 : Nat) (v2 : Int32) (v3 : Int32) (v4 : Int32) (h : AH) (x : Int32), R_areApart_L3 n n1 o1 v2 v3 v4 h = some x → ∀ (r : Option AV) (h' : AH), r = some (vi x) ∧ h' = h → Ev Γ m_R_areApart 3 [none, some (vr 20 n1 o1), some (vi v2), some (vi v3), some (vi v4), none] [] h r h' := by
  intro n
  induction n with
  | zero => intro n1 o1 v2 v3 v4 h x hx; cases hx
  | succ n ih =>
    intro n1 o1 v2 v3 v4 h x hx r h' hP
    replace hx : R_areApart_L3_b (R_areApart_L3 n) n1 o1 v2 v3 v4 h = some x := hx
    unfold R_areApart_L3_b at hx
    refine Ev.blk (pc' := 6) (lv' := [none, some (vr 20 n1 o1), some (vi v2), some (vi v3), some (vi v4), none]) (st' := [vi v2, vi v4]) (h' := h) 2 2 (Nat.le_of_ble_eq_true rfl) tk_R_areApart rfl rfl ⟨trivial, trivial, trivial⟩ ?_
    refine Ev.icmp_ge 4 60 tk_R_areApart rfl (by decide) (fun hc1 => ?_) (fun hc1 => ?_)
    · replace hx := ip hc1 hx
      refine Ev.blk (pc' := 61) (lv' := [none, some (vr 20 n1 o1), some (vi v2), some (vi v3), some (vi v4), none]) (st' := [vi (ii 1)]) (h' := h) 36 1 (Nat.le_of_ble_eq_true rfl) tk_R_areApart rfl rfl ⟨trivial, trivial⟩ ?_
      obtain rfl := Option.some.inj hx
      obtain ⟨rfl, rfl⟩ := hP
      exact Ev.zret 37 tk_R_areApart rfl rfl rfl
    · replace hx := ia hc1 hx
      obtain ⟨hg2, hx⟩ := gd hx
      refine Ev.blk (pc' := 16) (lv' := [none, some (vr 20 n1 o1), some (vi v2), some (vi v3), some (vi v4), none]) (st' := [vi v3, vi (h.1 o1 ((ii 2) * v4).toNatClampNeg)]) (h' := h) 5 6 (Nat.le_of_ble_eq_true rfl) tk_R_areApart rfl rfl ⟨trivial, trivial, trivial, trivial, hg2, trivial, trivial⟩ ?_
      refine Ev.icmp_lt 11 21 tk_R_areApart rfl (by decide) (fun hc3 => ?_) (fun hc3 => ?_)
      · replace hx := ip hc3 hx
        refine Ev.blk (pc' := 24) (lv' := [none, some (vr 20 n1 o1), some (vi v2), some (vi v3), some (vi v4), some (vi (ii 0))]) (st' := []) (h' := h) 14 2 (Nat.le_of_ble_eq_true rfl) tk_R_areApart rfl rfl ⟨trivial, trivial, trivial⟩ ?_
        obtain ⟨q1, hq4, hx⟩ := bd hx
        rcases q1 with w | q1
        · cases hx
          refine Ev.msk [false, true, true, true, true, true] ?_
          show Ev Γ m_R_areApart 24 [none, some (vr 20 n1 o1), some (vi v2), some (vi v3), some (vi v4), some (vi (ii 0))] [] h r h'
          exact l_R_areApart_L24 Γ FU n1 o1 v2 v3 v4 (ii 0) h _ hq4 r h' (fun z hz => by cases hz; exact hP) (fun z hz => by cases hz)
        · refine Ev.msk [false, true, true, true, true, true] ?_
          show Ev Γ m_R_areApart 24 [none, some (vr 20 n1 o1), some (vi v2), some (vi v3), some (vi v4), some (vi (ii 0))] [] h r h'
          refine l_R_areApart_L24 Γ FU n1 o1 v2 v3 v4 (ii 0) h _ hq4 r h' (fun z hz => by cases hz) (fun z hz => ?_)
          cases hz
          replace hx := smr hx
          show Ev Γ m_R_areApart 54 [none, some (vr 20 n1 o1), some (vi v2), some (vi v3), some (vi v4), none] [] h r h'
          refine Ev.blk (pc' := 3) (lv' := [none, some (vr 20 n1 o1), some (vi v2), some (vi v3), some (vi (v4 + ii 1)), none]) (st' := []) (h' := h) 34 2 (Nat.le_of_ble_eq_true rfl) tk_R_areApart rfl rfl ⟨trivial, trivial, trivial⟩ ?_
          exact Ev.msk [false, true, true, true, true, false] (ih n1 o1 v2 v3 (v4 + ii 1) h _ hx r h' hP)
      · replace hx := ia hc3 hx
        refine Ev.blk (pc' := 20) (lv' := [none, some (vr 20 n1 o1), some (vi v2), some (vi v3), some (vi v4), none]) (st' := [vi (ii 0)]) (h' := h) 12 1 (Nat.le_of_ble_eq_true rfl) tk_R_areApart rfl rfl ⟨trivial, trivial⟩ ?_
        obtain rfl := Option.some.inj hx
        obtain ⟨rfl, rfl⟩ := hP
        exact Ev.zret 13 tk_R_areApart rfl rfl rfl
set_option maxRecDepth 4000 in
theorem s_R_areApart (Γ : AG) (n1 : Nat) (o1 : Nat) (a2 : Int32) (a3 : Int32) (h : AH) (x : Int32) (hx : f_R_areApart n1 o1 a2 a3 h = some x) : MetA Γ m_R_areApart [vr 12 0 80, vr 20 n1 o1, vi a2, vi a3] h (some (vi x)) h := by
  refine Ev.met rfl rfl (Nat.le_of_ble_eq_true rfl) ?_
  show Ev Γ m_R_areApart 0 [some (vr 12 0 80), some (vr 20 n1 o1), some (vi a2), some (vi a3), none, none] [] h _ _
  obtain ⟨r, hr⟩ : ∃ r : Option AV, r = some (vi x) := ⟨_, rfl⟩
  obtain ⟨h', hh⟩ : ∃ h' : AH, h' = h := ⟨_, rfl⟩
  have hP : r = some (vi x) ∧ h' = h := ⟨hr, hh⟩
  suffices hS : Ev Γ m_R_areApart 0 [some (vr 12 0 80), some (vr 20 n1 o1), some (vi a2), some (vi a3), none, none] [] h r h' by rw [hr, hh] at hS; exact hS
  clear hr hh
  unfold f_R_areApart at hx
  refine Ev.blk (pc' := 3) (lv' := [some (vr 12 0 80), some (vr 20 n1 o1), some (vi a2), some (vi a3), some (vi (ii 0)), none]) (st' := []) (h' := h) 0 2 (Nat.le_of_ble_eq_true rfl) tk_R_areApart rfl rfl ⟨trivial, trivial, trivial⟩ ?_
  refine Ev.msk [false, true, true, true, true, false] ?_
  show Ev Γ m_R_areApart 3 [none, some (vr 20 n1 o1), some (vi a2), some (vi a3), some (vi (ii 0)), none] [] h r h'
  exact l_R_areApart_L3 Γ FU n1 o1 a2 a3 (ii 0) h _ hx r h' hP
set_option maxRecDepth 4000 in
theorem l_R_isWhole_L117 (Γ : AG) : ∀ (n : Nat) (v1 : Int32) (v2 : Int32) (h : AH) (x : Int32), R_isWhole_L117 n v1 v2 h = some x → ∀ (r : Option AV) (h' : AH), r = some (vi x) ∧ h' = h → Ev Γ m_R_isWhole 117 [some (vr 12 0 80), some (vi v1), some (vi v2), none, none] [] h r h' := by
  intro n
  induction n with
  | zero => intro v1 v2 h x hx; cases hx
  | succ n ih =>
    intro v1 v2 h x hx r h' hP
    replace hx : R_isWhole_L117_b (R_isWhole_L117 n) v1 v2 h = some x := hx
    unfold R_isWhole_L117_b at hx
    refine Ev.blk (pc' := 122) (lv' := [some (vr 12 0 80), some (vi v1), some (vi v2), none, none]) (st' := [vi (h.1 80 38), vi v2]) (h' := h) 75 3 (Nat.le_of_ble_eq_true rfl) tk_R_isWhole rfl rfl ⟨trivial, trivial, trivial, trivial⟩ ?_
    refine Ev.icmp_ge 78 146 tk_R_isWhole rfl (by decide) (fun hc1 => ?_) (fun hc1 => ?_)
    · replace hx := ip hc1 hx
      refine Ev.blk (pc' := 150) (lv' := [some (vr 12 0 80), some (vi v1), some (vi v2), none, none]) (st' := [vi (h.1 80 38)]) (h' := h) 91 2 (Nat.le_of_ble_eq_true rfl) tk_R_isWhole rfl rfl ⟨trivial, trivial, trivial⟩ ?_
      refine Ev.if_le 93 189 tk_R_isWhole rfl (by decide) (fun hc2 => ?_) (fun hc2 => ?_)
      · replace hx := ip hc2 hx
        refine Ev.blk (pc' := 190) (lv' := [some (vr 12 0 80), some (vi v1), some (vi v2), none, none]) (st' := [vi (ii 0)]) (h' := h) 112 1 (Nat.le_of_ble_eq_true rfl) tk_R_isWhole rfl rfl ⟨trivial, trivial⟩ ?_
        obtain rfl := Option.some.inj hx
        obtain ⟨rfl, rfl⟩ := hP
        exact Ev.zret 113 tk_R_isWhole rfl rfl rfl
      · replace hx := ia hc2 hx
        refine Ev.blk (pc' := 163) (lv' := [some (vr 12 0 80), some (vi v1), some (vi v2), none, none]) (st' := [vi v1, vi (h.1 80 36), vr 20 12 90, vr 12 0 80]) (h' := h) 94 6 (Nat.le_of_ble_eq_true rfl) tk_R_isWhole rfl rfl ⟨trivial, trivial, trivial, trivial, trivial, trivial, trivial⟩ ?_
        obtain ⟨q1, hq3, hx⟩ := bd hx
        refine Ev.callV (ν := m_R_areApart) (av := [vr 20 12 90, vi (h.1 80 36), vi v1]) (rest := []) (r1 := some (vi q1)) (h1 := h) (ci := 12) (nn := 0) (o := 80) 100 3 tk_R_isWhole rfl bb_R_areApart vv_R_areApart lk_12_290 (by decide) rfl rfl (Or.inl rfl) (Nat.le_of_ble_eq_true rfl) (s_R_areApart Γ 12 90 (h.1 80 36) v1 h _ hq3) ?_
        show Ev Γ m_R_isWhole 166 [some (vr 12 0 80), some (vi v1), some (vi v2), none, none] [vi q1] h r h'
        refine Ev.if_eq 101 189 tk_R_isWhole rfl (by decide) (fun hc4 => ?_) (fun hc4 => ?_)
        · replace hx := ip hc4 hx
          refine Ev.blk (pc' := 190) (lv' := [some (vr 12 0 80), some (vi v1), some (vi v2), none, none]) (st' := [vi (ii 0)]) (h' := h) 112 1 (Nat.le_of_ble_eq_true rfl) tk_R_isWhole rfl rfl ⟨trivial, trivial⟩ ?_
          obtain rfl := Option.some.inj hx
          obtain ⟨rfl, rfl⟩ := hP
          exact Ev.zret 113 tk_R_isWhole rfl rfl rfl
        · replace hx := ia hc4 hx
          refine Ev.blk (pc' := 179) (lv' := [some (vr 12 0 80), some (vi v1), some (vi v2), none, none]) (st' := [vi v1, vi (h.1 80 37), vr 20 12 92, vr 12 0 80]) (h' := h) 102 6 (Nat.le_of_ble_eq_true rfl) tk_R_isWhole rfl rfl ⟨trivial, trivial, trivial, trivial, trivial, trivial, trivial⟩ ?_
          obtain ⟨q2, hq5, hx⟩ := bd hx
          refine Ev.callV (ν := m_R_areApart) (av := [vr 20 12 92, vi (h.1 80 37), vi v1]) (rest := []) (r1 := some (vi q2)) (h1 := h) (ci := 12) (nn := 0) (o := 80) 108 3 tk_R_isWhole rfl bb_R_areApart vv_R_areApart lk_12_290 (by decide) rfl rfl (Or.inl rfl) (Nat.le_of_ble_eq_true rfl) (s_R_areApart Γ 12 92 (h.1 80 37) v1 h _ hq5) ?_
          show Ev Γ m_R_isWhole 182 [some (vr 12 0 80), some (vi v1), some (vi v2), none, none] [vi q2] h r h'
          refine Ev.if_eq 109 189 tk_R_isWhole rfl (by decide) (fun hc6 => ?_) (fun hc6 => ?_)
          · replace hx := ip hc6 hx
            refine Ev.blk (pc' := 190) (lv' := [some (vr 12 0 80), some (vi v1), some (vi v2), none, none]) (st' := [vi (ii 0)]) (h' := h) 112 1 (Nat.le_of_ble_eq_true rfl) tk_R_isWhole rfl rfl ⟨trivial, trivial⟩ ?_
            obtain rfl := Option.some.inj hx
            obtain ⟨rfl, rfl⟩ := hP
            exact Ev.zret 113 tk_R_isWhole rfl rfl rfl
          · replace hx := ia hc6 hx
            refine Ev.blk (pc' := 190) (lv' := [some (vr 12 0 80), some (vi v1), some (vi v2), none, none]) (st' := [vi (ii 1)]) (h' := h) 110 2 (Nat.le_of_ble_eq_true rfl) tk_R_isWhole rfl rfl ⟨trivial, trivial, trivial⟩ ?_
            obtain rfl := Option.some.inj hx
            obtain ⟨rfl, rfl⟩ := hP
            exact Ev.zret 113 tk_R_isWhole rfl rfl rfl
    · replace hx := ia hc1 hx
      obtain ⟨hg7, hx⟩ := gd hx
      refine Ev.blk (pc' := 135) (lv' := [some (vr 12 0 80), some (vi v1), some (vi v2), none, none]) (st' := [vi v1, vi (h.1 94 ((ii 6) * v2).toNatClampNeg)]) (h' := h) 79 7 (Nat.le_of_ble_eq_true rfl) tk_R_isWhole rfl rfl ⟨trivial, trivial, trivial, trivial, trivial, hg7, trivial, trivial⟩ ?_
      refine Ev.icmp_lt 86 140 tk_R_isWhole rfl (by decide) (fun hc8 => ?_) (fun hc8 => ?_)
      · replace hx := ip hc8 hx
        refine Ev.blk (pc' := 117) (lv' := [some (vr 12 0 80), some (vi v1), some (vi (v2 + ii 1)), none, none]) (st' := []) (h' := h) 89 2 (Nat.le_of_ble_eq_true rfl) tk_R_isWhole rfl rfl ⟨trivial, trivial, trivial⟩ ?_
        exact Ev.msk [true, true, true, false, false] (ih v1 (v2 + ii 1) h _ hx r h' hP)
      · replace hx := ia hc8 hx
        refine Ev.blk (pc' := 139) (lv' := [some (vr 12 0 80), some (vi v1), some (vi v2), none, none]) (st' := [vi (ii 0)]) (h' := h) 87 1 (Nat.le_of_ble_eq_true rfl) tk_R_isWhole rfl rfl ⟨trivial, trivial⟩ ?_
        obtain rfl := Option.some.inj hx
        obtain ⟨rfl, rfl⟩ := hP
        exact Ev.zret 88 tk_R_isWhole rfl rfl rfl
set_option maxRecDepth 4000 in
theorem l_R_isWhole_L44 (Γ : AG) : ∀ (n : Nat) (v1 : Int32) (v2 : Int32) (v3 : Int32) (v4 : Int32) (h : AH) (x : Int32), R_isWhole_L44 n v1 v2 v3 v4 h = some x → ∀ (r : Option AV) (h' : AH), Ev Γ m_R_isWhole 102 [some (vr 12 0 80), some (vi v1), some (vi v2), some (vi x), none] [] h r h' → Ev Γ m_R_isWhole 44 [some (vr 12 0 80), some (vi v1), some (vi v2), some (vi v3), some (vi v4)] [] h r h' := by
  intro n
  induction n with
  | zero => intro v1 v2 v3 v4 h x hx; cases hx
  | succ n ih =>
    intro v1 v2 v3 v4 h x hx r h' hP
    replace hx : R_isWhole_L44_b (R_isWhole_L44 n) v1 v2 v3 v4 h = some x := hx
    unfold R_isWhole_L44_b at hx
    obtain ⟨hg1, hx⟩ := gd hx
    refine Ev.blk (pc' := 57) (lv' := [some (vr 12 0 80), some (vi v1), some (vi v2), some (vi v3), some (vi v4)]) (st' := [vi (h.1 88 (((ii 13) * v2) + (ii 3)).toNatClampNeg), vi v4]) (h' := h) 30 9 (Nat.le_of_ble_eq_true rfl) tk_R_isWhole rfl rfl ⟨trivial, trivial, trivial, trivial, trivial, trivial, trivial, trivial, hg1, trivial⟩ ?_
    refine Ev.icmp_ge 39 102 tk_R_isWhole rfl (by decide) (fun hc2 => ?_) (fun hc2 => ?_)
    · replace hx := ip hc2 hx
      obtain rfl := Option.some.inj hx
      exact Ev.msk [true, true, true, true, false] hP
    · replace hx := ia hc2 hx
      refine Ev.blk (pc' := 62) (lv' := [some (vr 12 0 80), some (vi v1), some (vi v2), some (vi v3), some (vi v4)]) (st' := [vi (ii (-1)), vi v3]) (h' := h) 40 2 (Nat.le_of_ble_eq_true rfl) tk_R_isWhole rfl rfl ⟨trivial, trivial, trivial⟩ ?_
      refine Ev.icmp_eq 42 102 tk_R_isWhole rfl (by decide) (fun hc3 => ?_) (fun hc3 => ?_)
      · replace hx := ip hc3 hx
        obtain rfl := Option.some.inj hx
        exact Ev.msk [true, true, true, true, false] hP
      · replace hx := ia hc3 hx
        obtain ⟨hg4, hx⟩ := gd hx
        obtain ⟨hg5, hx⟩ := gd hx
        obtain ⟨hg6, hx⟩ := gd hx
        refine Ev.blk (pc' := 92) (lv' := [some (vr 12 0 80), some (vi v1), some (vi v2), some (vi v3), some (vi v4)]) (st' := [vi (h.1 86 (ii 1).toNatClampNeg), vi (h.1 86 (ii 0).toNatClampNeg), vi (h.1 88 ((((ii 13) * v2) + (ii 4)) + v4).toNatClampNeg), vi v3]) (h' := h) 43 19 (Nat.le_of_ble_eq_true rfl) tk_R_isWhole rfl rfl ⟨trivial, trivial, trivial, trivial, trivial, trivial, trivial, trivial, trivial, trivial, hg4, trivial, trivial, trivial, hg5, trivial, trivial, trivial, hg6, trivial⟩ ?_
        obtain ⟨q1, hq7, hx⟩ := bd hx
        refine Ev.callS (ν := m_R_beside) (av := [vi v3, vi (h.1 88 ((((ii 13) * v2) + (ii 4)) + v4).toNatClampNeg), vi (h.1 86 (ii 0).toNatClampNeg), vi (h.1 86 (ii 1).toNatClampNeg)]) (rest := []) (r1 := some (vi q1)) (h1 := h) 62 4 tk_R_isWhole rfl bb_R_beside vv_R_beside lk_12_286 (by decide) rfl rfl (Nat.le_of_ble_eq_true rfl) (s_R_beside Γ v3 (h.1 88 ((((ii 13) * v2) + (ii 4)) + v4).toNatClampNeg) (h.1 86 (ii 0).toNatClampNeg) (h.1 86 (ii 1).toNatClampNeg) h _ hq7) ?_
        show Ev Γ m_R_isWhole 95 [some (vr 12 0 80), some (vi v1), some (vi v2), some (vi v3), some (vi v4)] [vi q1] h r h'
        refine Ev.blk (pc' := 44) (lv' := [some (vr 12 0 80), some (vi v1), some (vi v2), some (vi q1), some (vi (v4 + ii 1))]) (st' := []) (h' := h) 63 3 (Nat.le_of_ble_eq_true rfl) tk_R_isWhole rfl rfl ⟨trivial, trivial, trivial, trivial⟩ ?_
        exact Ev.msk [true, true, true, true, true] (ih v1 v2 q1 (v4 + ii 1) h _ hx r h' hP)
set_option maxRecDepth 4000 in
theorem l_R_isWhole_L16 (Γ : AG) : ∀ (n : Nat) (v1 : Int32) (v2 : Int32) (h : AH) (x : (Int32) ⊕ (Unit)), R_isWhole_L16 n v1 v2 h = some x → ∀ (r : Option AV) (h' : AH), (∀ z, x = .inl z → r = some (vi z) ∧ h' = h) → (∀ z, x = .inr z → Ev Γ m_R_isWhole 115 [some (vr 12 0 80), some (vi v1), none, none, none] [] h r h') → Ev Γ m_R_isWhole 16 [some (vr 12 0 80), some (vi v1), some (vi v2), none, none] [] h r h' := by
  intro n
  induction n with
  | zero => intro v1 v2 h x hx; cases hx
  | succ n ih =>
    intro v1 v2 h x hx r h' hI hP
    replace hx : R_isWhole_L16_b (R_isWhole_L16 n) v1 v2 h = some x := hx
    unfold R_isWhole_L16_b at hx
    refine Ev.blk (pc' := 21) (lv' := [some (vr 12 0 80), some (vi v1), some (vi v2), none, none]) (st' := [vi (h.1 80 35), vi v2]) (h' := h) 12 3 (Nat.le_of_ble_eq_true rfl) tk_R_isWhole rfl rfl ⟨trivial, trivial, trivial, trivial⟩ ?_
    refine Ev.icmp_ge 15 115 tk_R_isWhole rfl (by decide) (fun hc1 => ?_) (fun hc1 => ?_)
    · replace hx := ip hc1 hx
      obtain rfl := Option.some.inj hx
      exact Ev.msk [true, true, false, false, false] (hP _ rfl)
    · replace hx := ia hc1 hx
      obtain ⟨hg2, hx⟩ := gd hx
      refine Ev.blk (pc' := 36) (lv' := [some (vr 12 0 80), some (vi v1), some (vi v2), some (vi (h.1 88 ((ii 13) * v2).toNatClampNeg)), none]) (st' := [vi v1, vi (h.1 88 ((ii 13) * v2).toNatClampNeg)]) (h' := h) 16 9 (Nat.le_of_ble_eq_true rfl) tk_R_isWhole rfl rfl ⟨trivial, trivial, trivial, trivial, trivial, hg2, trivial, trivial, trivial, trivial⟩ ?_
      refine Ev.icmp_lt 25 41 tk_R_isWhole rfl (by decide) (fun hc3 => ?_) (fun hc3 => ?_)
      · replace hx := ip hc3 hx
        refine Ev.blk (pc' := 44) (lv' := [some (vr 12 0 80), some (vi v1), some (vi v2), some (vi (h.1 88 ((ii 13) * v2).toNatClampNeg)), some (vi (ii 0))]) (st' := []) (h' := h) 28 2 (Nat.le_of_ble_eq_true rfl) tk_R_isWhole rfl rfl ⟨trivial, trivial, trivial⟩ ?_
        obtain ⟨q1, hq4, hx⟩ := bd hx
        refine Ev.msk [true, true, true, true, true] ?_
        show Ev Γ m_R_isWhole 44 [some (vr 12 0 80), some (vi v1), some (vi v2), some (vi (h.1 88 ((ii 13) * v2).toNatClampNeg)), some (vi (ii 0))] [] h r h'
        refine l_R_isWhole_L44 Γ FU v1 v2 (h.1 88 ((ii 13) * v2).toNatClampNeg) (ii 0) h _ hq4 r h' ?_
        show Ev Γ m_R_isWhole 102 [some (vr 12 0 80), some (vi v1), some (vi v2), some (vi q1), none] [] h r h'
        refine Ev.blk (pc' := 104) (lv' := [some (vr 12 0 80), some (vi v1), some (vi v2), some (vi q1), none]) (st' := [vi (ii (-1)), vi q1]) (h' := h) 66 2 (Nat.le_of_ble_eq_true rfl) tk_R_isWhole rfl rfl ⟨trivial, trivial, trivial⟩ ?_
        refine Ev.icmp_ne 68 109 tk_R_isWhole rfl (by decide) (fun hc5 => ?_) (fun hc5 => ?_)
        · replace hx := ia hc5 hx
          refine Ev.blk (pc' := 16) (lv' := [some (vr 12 0 80), some (vi v1), some (vi (v2 + ii 1)), some (vi q1), none]) (st' := []) (h' := h) 71 2 (Nat.le_of_ble_eq_true rfl) tk_R_isWhole rfl rfl ⟨trivial, trivial, trivial⟩ ?_
          exact Ev.msk [true, true, true, false, false] (ih v1 (v2 + ii 1) h _ hx r h' hI hP)
        · replace hx := ip hc5 hx
          refine Ev.blk (pc' := 108) (lv' := [some (vr 12 0 80), some (vi v1), some (vi v2), some (vi q1), none]) (st' := [vi (ii 0)]) (h' := h) 69 1 (Nat.le_of_ble_eq_true rfl) tk_R_isWhole rfl rfl ⟨trivial, trivial⟩ ?_
          obtain rfl := Option.some.inj hx
          obtain ⟨rfl, rfl⟩ := hI _ rfl
          exact Ev.zret 70 tk_R_isWhole rfl rfl rfl
      · replace hx := ia hc3 hx
        refine Ev.blk (pc' := 40) (lv' := [some (vr 12 0 80), some (vi v1), some (vi v2), some (vi (h.1 88 ((ii 13) * v2).toNatClampNeg)), none]) (st' := [vi (ii 0)]) (h' := h) 26 1 (Nat.le_of_ble_eq_true rfl) tk_R_isWhole rfl rfl ⟨trivial, trivial⟩ ?_
        obtain rfl := Option.some.inj hx
        obtain ⟨rfl, rfl⟩ := hI _ rfl
        exact Ev.zret 27 tk_R_isWhole rfl rfl rfl
set_option maxRecDepth 4000 in
theorem s_R_isWhole (Γ : AG) (h : AH) (x : Int32) (hx : f_R_isWhole  h = some x) : MetA Γ m_R_isWhole [vr 12 0 80] h (some (vi x)) h := by
  refine Ev.met rfl rfl (Nat.le_of_ble_eq_true rfl) ?_
  show Ev Γ m_R_isWhole 0 [some (vr 12 0 80), none, none, none, none] [] h _ _
  obtain ⟨r, hr⟩ : ∃ r : Option AV, r = some (vi x) := ⟨_, rfl⟩
  obtain ⟨h', hh⟩ : ∃ h' : AH, h' = h := ⟨_, rfl⟩
  have hP : r = some (vi x) ∧ h' = h := ⟨hr, hh⟩
  suffices hS : Ev Γ m_R_isWhole 0 [some (vr 12 0 80), none, none, none, none] [] h r h' by rw [hr, hh] at hS; exact hS
  clear hr hh
  unfold f_R_isWhole at hx
  obtain ⟨hg1, hx⟩ := gd hx
  obtain ⟨hg2, hx⟩ := gd hx
  refine Ev.blk (pc' := 16) (lv' := [some (vr 12 0 80), some (vi ((h.1 86 (ii 0).toNatClampNeg) * (h.1 86 (ii 1).toNatClampNeg))), some (vi (ii 0)), none, none]) (st' := []) (h' := h) 0 12 (Nat.le_of_ble_eq_true rfl) tk_R_isWhole rfl rfl ⟨trivial, trivial, trivial, hg1, trivial, trivial, trivial, hg2, trivial, trivial, trivial, trivial, trivial⟩ ?_
  obtain ⟨q1, hq3, hx⟩ := bd hx
  rcases q1 with w | q1
  · cases hx
    refine Ev.msk [true, true, true, false, false] ?_
    show Ev Γ m_R_isWhole 16 [some (vr 12 0 80), some (vi ((h.1 86 (ii 0).toNatClampNeg) * (h.1 86 (ii 1).toNatClampNeg))), some (vi (ii 0)), none, none] [] h r h'
    exact l_R_isWhole_L16 Γ FU ((h.1 86 (ii 0).toNatClampNeg) * (h.1 86 (ii 1).toNatClampNeg)) (ii 0) h _ hq3 r h' (fun z hz => by cases hz; exact hP) (fun z hz => by cases hz)
  · refine Ev.msk [true, true, true, false, false] ?_
    show Ev Γ m_R_isWhole 16 [some (vr 12 0 80), some (vi ((h.1 86 (ii 0).toNatClampNeg) * (h.1 86 (ii 1).toNatClampNeg))), some (vi (ii 0)), none, none] [] h r h'
    refine l_R_isWhole_L16 Γ FU ((h.1 86 (ii 0).toNatClampNeg) * (h.1 86 (ii 1).toNatClampNeg)) (ii 0) h _ hq3 r h' (fun z hz => by cases hz) (fun z hz => ?_)
    cases hz
    replace hx := smr hx
    show Ev Γ m_R_isWhole 115 [some (vr 12 0 80), some (vi ((h.1 86 (ii 0).toNatClampNeg) * (h.1 86 (ii 1).toNatClampNeg))), none, none, none] [] h r h'
    refine Ev.blk (pc' := 117) (lv' := [some (vr 12 0 80), some (vi ((h.1 86 (ii 0).toNatClampNeg) * (h.1 86 (ii 1).toNatClampNeg))), some (vi (ii 0)), none, none]) (st' := []) (h' := h) 73 2 (Nat.le_of_ble_eq_true rfl) tk_R_isWhole rfl rfl ⟨trivial, trivial, trivial⟩ ?_
    refine Ev.msk [true, true, true, false, false] ?_
    show Ev Γ m_R_isWhole 117 [some (vr 12 0 80), some (vi ((h.1 86 (ii 0).toNatClampNeg) * (h.1 86 (ii 1).toNatClampNeg))), some (vi (ii 0)), none, none] [] h r h'
    exact l_R_isWhole_L117 Γ FU ((h.1 86 (ii 0).toNatClampNeg) * (h.1 86 (ii 1).toNatClampNeg)) (ii 0) h _ hx r h' hP
set_option maxRecDepth 4000 in
theorem l_R_readHeath_L40 (Γ : AG) : ∀ (n : Nat) (v1 : Int32) (h : AH) (x : AH), R_readHeath_L40 n v1 h = some x → ∀ (r : Option AV) (h' : AH), Ev Γ m_R_readHeath 63 [some (vr 12 0 80), none] [] x r h' → Ev Γ m_R_readHeath 40 [some (vr 12 0 80), some (vi v1)] [] h r h' := by
  intro n
  induction n with
  | zero => intro v1 h x hx; cases hx
  | succ n ih =>
    intro v1 h x hx r h' hP
    replace hx : R_readHeath_L40_b (R_readHeath_L40 n) v1 h = some x := hx
    unfold R_readHeath_L40_b at hx
    refine Ev.blk (pc' := 42) (lv' := [some (vr 12 0 80), some (vi v1)]) (st' := [vi (ii 4), vi v1]) (h' := h) 24 2 (Nat.le_of_ble_eq_true rfl) tk_R_readHeath rfl rfl ⟨trivial, trivial, trivial⟩ ?_
    refine Ev.icmp_ge 26 63 tk_R_readHeath rfl (by decide) (fun hc1 => ?_) (fun hc1 => ?_)
    · replace hx := ip hc1 hx
      obtain rfl := Option.some.inj hx
      exact Ev.msk [true, false] hP
    · replace hx := ia hc1 hx
      refine Ev.blk (pc' := 53) (lv' := [some (vr 12 0 80), some (vi v1)]) (st' := [vi v1, vi (ii 115), vi v1, vr 20 4 86]) (h' := h) 27 5 (Nat.le_of_ble_eq_true rfl) tk_R_readHeath rfl rfl ⟨trivial, trivial, trivial, trivial, trivial, trivial⟩ ?_
      refine Ev.callS (ν := m_R_usual) (av := [vi (ii 115), vi v1]) (rest := [vi v1, vr 20 4 86]) (r1 := some (vi (p_R_usual (ii 115) v1))) (h1 := h) 32 2 tk_R_readHeath rfl bb_R_usual vv_R_usual lk_12_227 (by decide) rfl rfl (Nat.le_of_ble_eq_true rfl) (s_R_usual Γ (ii 115) v1 h) ?_
      show Ev Γ m_R_readHeath 56 [some (vr 12 0 80), some (vi v1)] [vi (p_R_usual (ii 115) v1), vi v1, vr 20 4 86] h r h'
      obtain ⟨hg2, hx⟩ := gd hx
      refine Ev.blk (pc' := 40) (lv' := [some (vr 12 0 80), some (vi (v1 + ii 1))]) (st' := []) (h' := (wI h 86 v1.toNatClampNeg (p_R_usual (ii 115) v1))) 33 3 (Nat.le_of_ble_eq_true rfl) tk_R_readHeath rfl rfl ⟨hg2, trivial, trivial, trivial⟩ ?_
      exact Ev.msk [true, true] (ih (v1 + ii 1) (wI h 86 v1.toNatClampNeg (p_R_usual (ii 115) v1)) _ hx r h' hP)
set_option maxRecDepth 4000 in
theorem l_R_readHeath_L65 (Γ : AG) : ∀ (n : Nat) (v1 : Int32) (h : AH) (x : AH), R_readHeath_L65 n v1 h = some x → ∀ (r : Option AV) (h' : AH), r = none ∧ h' = x → Ev Γ m_R_readHeath 65 [some (vr 12 0 80), some (vi v1)] [] h r h' := by
  intro n
  induction n with
  | zero => intro v1 h x hx; cases hx
  | succ n ih =>
    intro v1 h x hx r h' hP
    replace hx : R_readHeath_L65_b (R_readHeath_L65 n) v1 h = some x := hx
    unfold R_readHeath_L65_b at hx
    refine Ev.blk (pc' := 66) (lv' := [some (vr 12 0 80), some (vi v1)]) (st' := [vi v1]) (h' := h) 38 1 (Nat.le_of_ble_eq_true rfl) tk_R_readHeath rfl rfl ⟨trivial, trivial⟩ ?_
    refine Ev.if_eq 39 121 tk_R_readHeath rfl (by decide) (fun hc1 => ?_) (fun hc1 => ?_)
    · replace hx := ip hc1 hx
      refine Ev.blk (pc' := 126) (lv' := [some (vr 12 0 80), some (vi v1)]) (st' := [vi (ii (-1)), vi (h.1 80 11)]) (h' := h) 67 3 (Nat.le_of_ble_eq_true rfl) tk_R_readHeath rfl rfl ⟨trivial, trivial, trivial, trivial⟩ ?_
      refine Ev.icmp_ne 70 149 tk_R_readHeath rfl (by decide) (fun hc2 => ?_) (fun hc2 => ?_)
      · replace hx := ia hc2 hx
        obtain rfl := Option.some.inj hx
        obtain ⟨rfl, rfl⟩ := hP
        exact Ev.vret 81 tk_R_readHeath rfl rfl
      · replace hx := ip hc2 hx
        refine Ev.blk (pc' := 130) (lv' := [some (vr 12 0 80), some (vi v1)]) (st' := [vr 12 0 80]) (h' := h) 71 1 (Nat.le_of_ble_eq_true rfl) tk_R_readHeath rfl rfl ⟨trivial, trivial⟩ ?_
        obtain ⟨q1, hq3, hx⟩ := bd hx
        refine Ev.callV (ν := m_R_look) (av := []) (rest := []) (r1 := some (vi q1.1)) (h1 := q1.2) (ci := 12) (nn := 0) (o := 80) 72 0 tk_R_readHeath rfl bb_R_look vv_R_look lk_12_144 (by decide) rfl rfl (Or.inl rfl) (Nat.le_of_ble_eq_true rfl) (s_R_look Γ h _ hq3) ?_
        show Ev Γ m_R_readHeath 133 [some (vr 12 0 80), some (vi v1)] [vi q1.1] q1.2 r h'
        refine Ev.blk (pc' := 134) (lv' := [some (vr 12 0 80), some (vi v1)]) (st' := [vi (ii (-1)), vi q1.1]) (h' := q1.2) 73 1 (Nat.le_of_ble_eq_true rfl) tk_R_readHeath rfl rfl ⟨trivial, trivial⟩ ?_
        refine Ev.icmp_ne 74 144 tk_R_readHeath rfl (by decide) (fun hc4 => ?_) (fun hc4 => ?_)
        · replace hx := ia hc4 hx
          refine Ev.blk (pc' := 145) (lv' := [some (vr 12 0 80), some (vi v1)]) (st' := [vr 12 0 80]) (h' := q1.2) 78 1 (Nat.le_of_ble_eq_true rfl) tk_R_readHeath rfl rfl ⟨trivial, trivial⟩ ?_
          obtain ⟨q2, hq5, hx⟩ := bd hx
          refine Ev.callV (ν := m_R_fails) (av := []) (rest := []) (r1 := some (vi q2.1)) (h1 := q2.2) (ci := 12) (nn := 0) (o := 80) 79 0 tk_R_readHeath rfl bb_R_fails vv_R_fails lk_12_140 (by decide) rfl rfl (Or.inl rfl) (Nat.le_of_ble_eq_true rfl) (s_R_fails Γ q1.2 _ hq5) ?_
          show Ev Γ m_R_readHeath 148 [some (vr 12 0 80), some (vi v1)] [vi q2.1] q2.2 r h'
          refine Ev.blk (pc' := 149) (lv' := [some (vr 12 0 80), some (vi v1)]) (st' := []) (h' := q2.2) 80 1 (Nat.le_of_ble_eq_true rfl) tk_R_readHeath rfl rfl ⟨trivial, trivial⟩ ?_
          obtain rfl := Option.some.inj hx
          obtain ⟨rfl, rfl⟩ := hP
          exact Ev.vret 81 tk_R_readHeath rfl rfl
        · replace hx := ip hc4 hx
          refine Ev.blk (pc' := 138) (lv' := [some (vr 12 0 80), some (vi v1)]) (st' := [vr 12 0 80]) (h' := q1.2) 75 1 (Nat.le_of_ble_eq_true rfl) tk_R_readHeath rfl rfl ⟨trivial, trivial⟩ ?_
          obtain ⟨q3, hq6, hx⟩ := bd hx
          refine Ev.callV (ν := m_R_isWhole) (av := []) (rest := []) (r1 := some (vi q3)) (h1 := q1.2) (ci := 12) (nn := 0) (o := 80) 76 0 tk_R_readHeath rfl bb_R_isWhole vv_R_isWhole lk_12_297 (by decide) rfl rfl (Or.inl rfl) (Nat.le_of_ble_eq_true rfl) (s_R_isWhole Γ q1.2 _ hq6) ?_
          show Ev Γ m_R_readHeath 141 [some (vr 12 0 80), some (vi v1)] [vi q3] q1.2 r h'
          refine Ev.if_ne 77 149 tk_R_readHeath rfl (by decide) (fun hc7 => ?_) (fun hc7 => ?_)
          · replace hx := ia hc7 hx
            obtain rfl := Option.some.inj hx
            obtain ⟨rfl, rfl⟩ := hP
            exact Ev.vret 81 tk_R_readHeath rfl rfl
          · replace hx := ip hc7 hx
            refine Ev.blk (pc' := 145) (lv' := [some (vr 12 0 80), some (vi v1)]) (st' := [vr 12 0 80]) (h' := q1.2) 78 1 (Nat.le_of_ble_eq_true rfl) tk_R_readHeath rfl rfl ⟨trivial, trivial⟩ ?_
            obtain ⟨q4, hq8, hx⟩ := bd hx
            refine Ev.callV (ν := m_R_fails) (av := []) (rest := []) (r1 := some (vi q4.1)) (h1 := q4.2) (ci := 12) (nn := 0) (o := 80) 79 0 tk_R_readHeath rfl bb_R_fails vv_R_fails lk_12_140 (by decide) rfl rfl (Or.inl rfl) (Nat.le_of_ble_eq_true rfl) (s_R_fails Γ q1.2 _ hq8) ?_
            show Ev Γ m_R_readHeath 148 [some (vr 12 0 80), some (vi v1)] [vi q4.1] q4.2 r h'
            refine Ev.blk (pc' := 149) (lv' := [some (vr 12 0 80), some (vi v1)]) (st' := []) (h' := q4.2) 80 1 (Nat.le_of_ble_eq_true rfl) tk_R_readHeath rfl rfl ⟨trivial, trivial⟩ ?_
            obtain rfl := Option.some.inj hx
            obtain ⟨rfl, rfl⟩ := hP
            exact Ev.vret 81 tk_R_readHeath rfl rfl
    · replace hx := ia hc1 hx
      refine Ev.blk (pc' := 74) (lv' := [some (vr 12 0 80), some (vi v1)]) (st' := [vi (ii (-1)), vi (h.1 80 11)]) (h' := h) 40 3 (Nat.le_of_ble_eq_true rfl) tk_R_readHeath rfl rfl ⟨trivial, trivial, trivial, trivial⟩ ?_
      refine Ev.icmp_ne 43 121 tk_R_readHeath rfl (by decide) (fun hc9 => ?_) (fun hc9 => ?_)
      · replace hx := ia hc9 hx
        refine Ev.blk (pc' := 126) (lv' := [some (vr 12 0 80), some (vi v1)]) (st' := [vi (ii (-1)), vi (h.1 80 11)]) (h' := h) 67 3 (Nat.le_of_ble_eq_true rfl) tk_R_readHeath rfl rfl ⟨trivial, trivial, trivial, trivial⟩ ?_
        refine Ev.icmp_ne 70 149 tk_R_readHeath rfl (by decide) (fun hc10 => ?_) (fun hc10 => ?_)
        · replace hx := ia hc10 hx
          obtain rfl := Option.some.inj hx
          obtain ⟨rfl, rfl⟩ := hP
          exact Ev.vret 81 tk_R_readHeath rfl rfl
        · replace hx := ip hc10 hx
          refine Ev.blk (pc' := 130) (lv' := [some (vr 12 0 80), some (vi v1)]) (st' := [vr 12 0 80]) (h' := h) 71 1 (Nat.le_of_ble_eq_true rfl) tk_R_readHeath rfl rfl ⟨trivial, trivial⟩ ?_
          obtain ⟨q5, hq11, hx⟩ := bd hx
          refine Ev.callV (ν := m_R_look) (av := []) (rest := []) (r1 := some (vi q5.1)) (h1 := q5.2) (ci := 12) (nn := 0) (o := 80) 72 0 tk_R_readHeath rfl bb_R_look vv_R_look lk_12_144 (by decide) rfl rfl (Or.inl rfl) (Nat.le_of_ble_eq_true rfl) (s_R_look Γ h _ hq11) ?_
          show Ev Γ m_R_readHeath 133 [some (vr 12 0 80), some (vi v1)] [vi q5.1] q5.2 r h'
          refine Ev.blk (pc' := 134) (lv' := [some (vr 12 0 80), some (vi v1)]) (st' := [vi (ii (-1)), vi q5.1]) (h' := q5.2) 73 1 (Nat.le_of_ble_eq_true rfl) tk_R_readHeath rfl rfl ⟨trivial, trivial⟩ ?_
          refine Ev.icmp_ne 74 144 tk_R_readHeath rfl (by decide) (fun hc12 => ?_) (fun hc12 => ?_)
          · replace hx := ia hc12 hx
            refine Ev.blk (pc' := 145) (lv' := [some (vr 12 0 80), some (vi v1)]) (st' := [vr 12 0 80]) (h' := q5.2) 78 1 (Nat.le_of_ble_eq_true rfl) tk_R_readHeath rfl rfl ⟨trivial, trivial⟩ ?_
            obtain ⟨q6, hq13, hx⟩ := bd hx
            refine Ev.callV (ν := m_R_fails) (av := []) (rest := []) (r1 := some (vi q6.1)) (h1 := q6.2) (ci := 12) (nn := 0) (o := 80) 79 0 tk_R_readHeath rfl bb_R_fails vv_R_fails lk_12_140 (by decide) rfl rfl (Or.inl rfl) (Nat.le_of_ble_eq_true rfl) (s_R_fails Γ q5.2 _ hq13) ?_
            show Ev Γ m_R_readHeath 148 [some (vr 12 0 80), some (vi v1)] [vi q6.1] q6.2 r h'
            refine Ev.blk (pc' := 149) (lv' := [some (vr 12 0 80), some (vi v1)]) (st' := []) (h' := q6.2) 80 1 (Nat.le_of_ble_eq_true rfl) tk_R_readHeath rfl rfl ⟨trivial, trivial⟩ ?_
            obtain rfl := Option.some.inj hx
            obtain ⟨rfl, rfl⟩ := hP
            exact Ev.vret 81 tk_R_readHeath rfl rfl
          · replace hx := ip hc12 hx
            refine Ev.blk (pc' := 138) (lv' := [some (vr 12 0 80), some (vi v1)]) (st' := [vr 12 0 80]) (h' := q5.2) 75 1 (Nat.le_of_ble_eq_true rfl) tk_R_readHeath rfl rfl ⟨trivial, trivial⟩ ?_
            obtain ⟨q7, hq14, hx⟩ := bd hx
            refine Ev.callV (ν := m_R_isWhole) (av := []) (rest := []) (r1 := some (vi q7)) (h1 := q5.2) (ci := 12) (nn := 0) (o := 80) 76 0 tk_R_readHeath rfl bb_R_isWhole vv_R_isWhole lk_12_297 (by decide) rfl rfl (Or.inl rfl) (Nat.le_of_ble_eq_true rfl) (s_R_isWhole Γ q5.2 _ hq14) ?_
            show Ev Γ m_R_readHeath 141 [some (vr 12 0 80), some (vi v1)] [vi q7] q5.2 r h'
            refine Ev.if_ne 77 149 tk_R_readHeath rfl (by decide) (fun hc15 => ?_) (fun hc15 => ?_)
            · replace hx := ia hc15 hx
              obtain rfl := Option.some.inj hx
              obtain ⟨rfl, rfl⟩ := hP
              exact Ev.vret 81 tk_R_readHeath rfl rfl
            · replace hx := ip hc15 hx
              refine Ev.blk (pc' := 145) (lv' := [some (vr 12 0 80), some (vi v1)]) (st' := [vr 12 0 80]) (h' := q5.2) 78 1 (Nat.le_of_ble_eq_true rfl) tk_R_readHeath rfl rfl ⟨trivial, trivial⟩ ?_
              obtain ⟨q8, hq16, hx⟩ := bd hx
              refine Ev.callV (ν := m_R_fails) (av := []) (rest := []) (r1 := some (vi q8.1)) (h1 := q8.2) (ci := 12) (nn := 0) (o := 80) 79 0 tk_R_readHeath rfl bb_R_fails vv_R_fails lk_12_140 (by decide) rfl rfl (Or.inl rfl) (Nat.le_of_ble_eq_true rfl) (s_R_fails Γ q5.2 _ hq16) ?_
              show Ev Γ m_R_readHeath 148 [some (vr 12 0 80), some (vi v1)] [vi q8.1] q8.2 r h'
              refine Ev.blk (pc' := 149) (lv' := [some (vr 12 0 80), some (vi v1)]) (st' := []) (h' := q8.2) 80 1 (Nat.le_of_ble_eq_true rfl) tk_R_readHeath rfl rfl ⟨trivial, trivial⟩ ?_
              obtain rfl := Option.some.inj hx
              obtain ⟨rfl, rfl⟩ := hP
              exact Ev.vret 81 tk_R_readHeath rfl rfl
      · replace hx := ip hc9 hx
        refine Ev.blk (pc' := 78) (lv' := [some (vr 12 0 80), some (vi v1)]) (st' := [vr 12 0 80]) (h' := h) 44 1 (Nat.le_of_ble_eq_true rfl) tk_R_readHeath rfl rfl ⟨trivial, trivial⟩ ?_
        obtain ⟨q9, hq17, hx⟩ := bd hx
        refine Ev.callV (ν := m_R_readClause) (av := []) (rest := []) (r1 := none) (h1 := q9) (ci := 12) (nn := 0) (o := 80) 45 0 tk_R_readHeath rfl bb_R_readClause vv_R_readClause lk_12_294 (by decide) rfl rfl (Or.inl rfl) (Nat.le_of_ble_eq_true rfl) (s_R_readClause Γ h _ hq17) ?_
        show Ev Γ m_R_readHeath 81 [some (vr 12 0 80), some (vi v1)] [] q9 r h'
        refine Ev.blk (pc' := 86) (lv' := [some (vr 12 0 80), some (vi v1)]) (st' := [vi (ii (-1)), vi (q9.1 80 11)]) (h' := q9) 46 3 (Nat.le_of_ble_eq_true rfl) tk_R_readHeath rfl rfl ⟨trivial, trivial, trivial, trivial⟩ ?_
        obtain ⟨q11, hq18, hx⟩ := bd hx
        have K19 : Ev Γ m_R_readHeath 103 [some (vr 12 0 80), none] [vi q11.1] q11.2 r h' := by
          refine Ev.blk (pc' := 105) (lv' := [some (vr 12 0 80), some (vi q11.1)]) (st' := [vi q11.1]) (h' := q11.2) 57 2 (Nat.le_of_ble_eq_true rfl) tk_R_readHeath rfl rfl ⟨trivial, trivial, trivial⟩ ?_
          refine Ev.if_eq 59 65 tk_R_readHeath rfl (by decide) (fun hc20 => ?_) (fun hc20 => ?_)
          · replace hx := ip hc20 hx
            exact Ev.msk [true, true] (ih q11.1 q11.2 _ hx r h' hP)
          · replace hx := ia hc20 hx
            refine Ev.blk (pc' := 65) (lv' := [some (vr 12 0 80), some (vi q11.1)]) (st' := []) (h' := (wI q11.2 80 10 ((q11.2.1 80 10) + (ii 1)))) 60 7 (Nat.le_of_ble_eq_true rfl) tk_R_readHeath rfl rfl ⟨trivial, trivial, trivial, trivial, trivial, trivial, trivial, trivial⟩ ?_
            exact Ev.msk [true, true] (ih q11.1 (wI q11.2 80 10 ((q11.2.1 80 10) + (ii 1))) _ hx r h' hP)
        clear hx
        refine Ev.icmp_ne 49 102 tk_R_readHeath rfl (by decide) (fun hc21 => ?_) (fun hc21 => ?_)
        · replace hq18 := ia hc21 hq18
          refine Ev.blk (pc' := 103) (lv' := [some (vr 12 0 80), some (vi v1)]) (st' := [vi (ii 0)]) (h' := q9) 56 1 (Nat.le_of_ble_eq_true rfl) tk_R_readHeath rfl rfl ⟨trivial, trivial⟩ ?_
          obtain rfl := Option.some.inj hq18
          exact Ev.msk [true, false] K19
        · replace hq18 := ip hc21 hq18
          refine Ev.blk (pc' := 90) (lv' := [some (vr 12 0 80), some (vi v1)]) (st' := [vr 12 0 80]) (h' := q9) 50 1 (Nat.le_of_ble_eq_true rfl) tk_R_readHeath rfl rfl ⟨trivial, trivial⟩ ?_
          obtain ⟨q10, hq22, hq18⟩ := bd hq18
          refine Ev.callV (ν := m_R_look) (av := []) (rest := []) (r1 := some (vi q10.1)) (h1 := q10.2) (ci := 12) (nn := 0) (o := 80) 51 0 tk_R_readHeath rfl bb_R_look vv_R_look lk_12_144 (by decide) rfl rfl (Or.inl rfl) (Nat.le_of_ble_eq_true rfl) (s_R_look Γ q9 _ hq22) ?_
          show Ev Γ m_R_readHeath 93 [some (vr 12 0 80), some (vi v1)] [vi q10.1] q10.2 r h'
          refine Ev.blk (pc' := 95) (lv' := [some (vr 12 0 80), some (vi v1)]) (st' := [vi (ii 59), vi q10.1]) (h' := q10.2) 52 1 (Nat.le_of_ble_eq_true rfl) tk_R_readHeath rfl rfl ⟨trivial, trivial⟩ ?_
          refine Ev.icmp_ne 53 102 tk_R_readHeath rfl (by decide) (fun hc23 => ?_) (fun hc23 => ?_)
          · replace hq18 := ia hc23 hq18
            refine Ev.blk (pc' := 103) (lv' := [some (vr 12 0 80), some (vi v1)]) (st' := [vi (ii 0)]) (h' := q10.2) 56 1 (Nat.le_of_ble_eq_true rfl) tk_R_readHeath rfl rfl ⟨trivial, trivial⟩ ?_
            obtain rfl := Option.some.inj hq18
            exact Ev.msk [true, false] K19
          · replace hq18 := ip hc23 hq18
            refine Ev.blk (pc' := 103) (lv' := [some (vr 12 0 80), some (vi v1)]) (st' := [vi (ii 1)]) (h' := q10.2) 54 2 (Nat.le_of_ble_eq_true rfl) tk_R_readHeath rfl rfl ⟨trivial, trivial, trivial⟩ ?_
            obtain rfl := Option.some.inj hq18
            exact Ev.msk [true, false] K19
set_option maxRecDepth 4000 in
theorem s_R_readHeath (Γ : AG) (h : AH) (x : AH) (hx : f_R_readHeath  h = some x) : MetA Γ m_R_readHeath [vr 12 0 80] h (none) x := by
  refine Ev.met rfl rfl (Nat.le_of_ble_eq_true rfl) ?_
  show Ev Γ m_R_readHeath 0 [some (vr 12 0 80), none] [] h _ _
  obtain ⟨r, hr⟩ : ∃ r : Option AV, r = none := ⟨_, rfl⟩
  obtain ⟨h', hh⟩ : ∃ h' : AH, h' = x := ⟨_, rfl⟩
  have hP : r = none ∧ h' = x := ⟨hr, hh⟩
  suffices hS : Ev Γ m_R_readHeath 0 [some (vr 12 0 80), none] [] h r h' by rw [hr, hh] at hS; exact hS
  clear hr hh
  unfold f_R_readHeath at hx
  refine Ev.blk (pc' := 10) (lv' := [some (vr 12 0 80), none]) (st' := [vi (h.1 80 6), vi (ii 0), vr 21 240 81, vr 12 0 80]) (h' := h) 0 6 (Nat.le_of_ble_eq_true rfl) tk_R_readHeath rfl rfl ⟨trivial, trivial, trivial, trivial, trivial, trivial, trivial⟩ ?_
  obtain ⟨q1, hq1, hx⟩ := bd hx
  refine Ev.callV (ν := m_R_starts) (av := [vr 21 240 81, vi (ii 0), vi (h.1 80 6)]) (rest := []) (r1 := none) (h1 := q1) (ci := 12) (nn := 0) (o := 80) 6 3 tk_R_readHeath rfl bb_R_starts vv_R_starts lk_12_213 (by decide) rfl rfl (Or.inl rfl) (Nat.le_of_ble_eq_true rfl) (s_R_starts Γ 240 81 (ii 0) (h.1 80 6) h _ hq1) ?_
  show Ev Γ m_R_readHeath 13 [some (vr 12 0 80), none] [] q1 r h'
  refine Ev.blk (pc' := 40) (lv' := [some (vr 12 0 80), some (vi (ii 0))]) (st' := []) (h' := (wI (wI (wI (wI (wI q1 80 35 (ii 0)) 80 36 (ii 0)) 80 37 (ii 0)) 80 38 (ii 0)) 80 40 (ii 0))) 7 17 (Nat.le_of_ble_eq_true rfl) tk_R_readHeath rfl rfl ⟨trivial, trivial, trivial, trivial, trivial, trivial, trivial, trivial, trivial, trivial, trivial, trivial, trivial, trivial, (by decide), trivial, trivial, trivial⟩ ?_
  obtain ⟨q2, hq2, hx⟩ := bd hx
  refine Ev.msk [true, true] ?_
  show Ev Γ m_R_readHeath 40 [some (vr 12 0 80), some (vi (ii 0))] [] (wI (wI (wI (wI (wI q1 80 35 (ii 0)) 80 36 (ii 0)) 80 37 (ii 0)) 80 38 (ii 0)) 80 40 (ii 0)) r h'
  refine l_R_readHeath_L40 Γ FU (ii 0) (wI (wI (wI (wI (wI q1 80 35 (ii 0)) 80 36 (ii 0)) 80 37 (ii 0)) 80 38 (ii 0)) 80 40 (ii 0)) _ hq2 r h' ?_
  show Ev Γ m_R_readHeath 63 [some (vr 12 0 80), none] [] q2 r h'
  refine Ev.blk (pc' := 65) (lv' := [some (vr 12 0 80), some (vi (ii 1))]) (st' := []) (h' := q2) 36 2 (Nat.le_of_ble_eq_true rfl) tk_R_readHeath rfl rfl ⟨trivial, trivial, trivial⟩ ?_
  refine Ev.msk [true, true] ?_
  show Ev Γ m_R_readHeath 65 [some (vr 12 0 80), some (vi (ii 1))] [] q2 r h'
  exact l_R_readHeath_L65 Γ FU (ii 1) q2 _ hx r h' hP
set_option maxRecDepth 4000 in
theorem l_R_isAmong_L2 (Γ : AG) : ∀ (n : Nat) (o0 : Nat) (v1 : Int32) (v2 : Int32) (h : AH) (x : Int32), R_isAmong_L2 n o0 v1 v2 h = some x → ∀ (r : Option AV) (h' : AH), r = some (vi x) ∧ h' = h → Ev Γ m_R_isAmong 2 [some (vr 31 0 o0), some (vi v1), some (vi v2)] [] h r h' := by
  intro n
  induction n with
  | zero => intro o0 v1 v2 h x hx; cases hx
  | succ n ih =>
    intro o0 v1 v2 h x hx r h' hP
    replace hx : R_isAmong_L2_b (R_isAmong_L2 n) o0 v1 v2 h = some x := hx
    unfold R_isAmong_L2_b at hx
    refine Ev.blk (pc' := 4) (lv' := [some (vr 31 0 o0), some (vi v1), some (vi v2)]) (st' := [vr 31 0 o0, vi v2]) (h' := h) 2 2 (Nat.le_of_ble_eq_true rfl) tk_R_isAmong rfl rfl ⟨trivial, trivial, trivial⟩ ?_
    refine Ev.callV (ν := m_Str_length) (av := []) (rest := [vi v2]) (r1 := some (vi (p_Str_length o0))) (h1 := h) (ci := 31) (nn := 0) (o := o0) 4 0 tk_R_isAmong rfl bb_Str_length vv_Str_length lk_12_105 (by decide) rfl rfl (Or.inr ⟨rfl, rfl⟩) (Nat.le_of_ble_eq_true rfl) (s_Str_length Γ o0 h) ?_
    show Ev Γ m_R_isAmong 7 [some (vr 31 0 o0), some (vi v1), some (vi v2)] [vi (p_Str_length o0), vi v2] h r h'
    refine Ev.icmp_ge 5 27 tk_R_isAmong rfl (by decide) (fun hc1 => ?_) (fun hc1 => ?_)
    · replace hx := ip hc1 hx
      refine Ev.blk (pc' := 28) (lv' := [some (vr 31 0 o0), some (vi v1), some (vi v2)]) (st' := [vi (ii 0)]) (h' := h) 15 1 (Nat.le_of_ble_eq_true rfl) tk_R_isAmong rfl rfl ⟨trivial, trivial⟩ ?_
      obtain rfl := Option.some.inj hx
      obtain ⟨rfl, rfl⟩ := hP
      exact Ev.zret 16 tk_R_isAmong rfl rfl rfl
    · replace hx := ia hc1 hx
      refine Ev.blk (pc' := 12) (lv' := [some (vr 31 0 o0), some (vi v1), some (vi v2)]) (st' := [vi v2, vr 31 0 o0]) (h' := h) 6 2 (Nat.le_of_ble_eq_true rfl) tk_R_isAmong rfl rfl ⟨trivial, trivial, trivial⟩ ?_
      obtain ⟨q1, hq2, hx⟩ := bd hx
      refine Ev.callV (ν := m_Str_charAt) (av := [vi v2]) (rest := []) (r1 := some (vi q1)) (h1 := h) (ci := 31) (nn := 0) (o := o0) 8 1 tk_R_isAmong rfl bb_Str_charAt vv_Str_charAt lk_12_111 (by decide) rfl rfl (Or.inr ⟨rfl, rfl⟩) (Nat.le_of_ble_eq_true rfl) (s_Str_charAt Γ o0 v2 h _ hq2) ?_
      show Ev Γ m_R_isAmong 15 [some (vr 31 0 o0), some (vi v1), some (vi v2)] [vi q1] h r h'
      refine Ev.blk (pc' := 16) (lv' := [some (vr 31 0 o0), some (vi v1), some (vi v2)]) (st' := [vi v1, vi q1]) (h' := h) 9 1 (Nat.le_of_ble_eq_true rfl) tk_R_isAmong rfl rfl ⟨trivial, trivial⟩ ?_
      refine Ev.icmp_ne 10 21 tk_R_isAmong rfl (by decide) (fun hc3 => ?_) (fun hc3 => ?_)
      · replace hx := ia hc3 hx
        refine Ev.blk (pc' := 2) (lv' := [some (vr 31 0 o0), some (vi v1), some (vi (v2 + ii 1))]) (st' := []) (h' := h) 13 2 (Nat.le_of_ble_eq_true rfl) tk_R_isAmong rfl rfl ⟨trivial, trivial, trivial⟩ ?_
        exact Ev.msk [true, true, true] (ih o0 v1 (v2 + ii 1) h _ hx r h' hP)
      · replace hx := ip hc3 hx
        refine Ev.blk (pc' := 20) (lv' := [some (vr 31 0 o0), some (vi v1), some (vi v2)]) (st' := [vi (ii 1)]) (h' := h) 11 1 (Nat.le_of_ble_eq_true rfl) tk_R_isAmong rfl rfl ⟨trivial, trivial⟩ ?_
        obtain rfl := Option.some.inj hx
        obtain ⟨rfl, rfl⟩ := hP
        exact Ev.zret 12 tk_R_isAmong rfl rfl rfl
set_option maxRecDepth 4000 in
theorem s_R_isAmong (Γ : AG) (o0 : Nat) (a1 : Int32) (h : AH) (x : Int32) (hx : f_R_isAmong o0 a1 h = some x) : MetA Γ m_R_isAmong [vr 31 0 o0, vi a1] h (some (vi x)) h := by
  refine Ev.met rfl rfl (Nat.le_of_ble_eq_true rfl) ?_
  show Ev Γ m_R_isAmong 0 [some (vr 31 0 o0), some (vi a1), none] [] h _ _
  obtain ⟨r, hr⟩ : ∃ r : Option AV, r = some (vi x) := ⟨_, rfl⟩
  obtain ⟨h', hh⟩ : ∃ h' : AH, h' = h := ⟨_, rfl⟩
  have hP : r = some (vi x) ∧ h' = h := ⟨hr, hh⟩
  suffices hS : Ev Γ m_R_isAmong 0 [some (vr 31 0 o0), some (vi a1), none] [] h r h' by rw [hr, hh] at hS; exact hS
  clear hr hh
  unfold f_R_isAmong at hx
  refine Ev.blk (pc' := 2) (lv' := [some (vr 31 0 o0), some (vi a1), some (vi (ii 0))]) (st' := []) (h' := h) 0 2 (Nat.le_of_ble_eq_true rfl) tk_R_isAmong rfl rfl ⟨trivial, trivial, trivial⟩ ?_
  refine Ev.msk [true, true, true] ?_
  show Ev Γ m_R_isAmong 2 [some (vr 31 0 o0), some (vi a1), some (vi (ii 0))] [] h r h'
  exact l_R_isAmong_L2 Γ FU o0 a1 (ii 0) h _ hx r h' hP
set_option maxRecDepth 4000 in
theorem s_R_takes (Γ : AG) (a1 : Int32) (h : AH) (x : Int32 × AH) (hx : f_R_takes a1 h = some x) : MetA Γ m_R_takes [vr 12 0 80, vi a1] h (some (vi x.1)) x.2 := by
  refine Ev.met rfl rfl (Nat.le_of_ble_eq_true rfl) ?_
  show Ev Γ m_R_takes 0 [some (vr 12 0 80), some (vi a1)] [] h _ _
  obtain ⟨r, hr⟩ : ∃ r : Option AV, r = some (vi x.1) := ⟨_, rfl⟩
  obtain ⟨h', hh⟩ : ∃ h' : AH, h' = x.2 := ⟨_, rfl⟩
  have hP : r = some (vi x.1) ∧ h' = x.2 := ⟨hr, hh⟩
  suffices hS : Ev Γ m_R_takes 0 [some (vr 12 0 80), some (vi a1)] [] h r h' by rw [hr, hh] at hS; exact hS
  clear hr hh
  unfold f_R_takes at hx
  refine Ev.blk (pc' := 5) (lv' := [some (vr 12 0 80), some (vi a1)]) (st' := [vi (ii (-1)), vi (h.1 80 11)]) (h' := h) 0 3 (Nat.le_of_ble_eq_true rfl) tk_R_takes rfl rfl ⟨trivial, trivial, trivial, trivial⟩ ?_
  refine Ev.icmp_ne 3 16 tk_R_takes rfl (by decide) (fun hc1 => ?_) (fun hc1 => ?_)
  · replace hx := ia hc1 hx
    refine Ev.blk (pc' := 17) (lv' := [some (vr 12 0 80), some (vi a1)]) (st' := [vr 12 0 80]) (h' := h) 8 1 (Nat.le_of_ble_eq_true rfl) tk_R_takes rfl rfl ⟨trivial, trivial⟩ ?_
    obtain ⟨q1, hq2, hx⟩ := bd hx
    refine Ev.callV (ν := m_R_fails) (av := []) (rest := []) (r1 := some (vi q1.1)) (h1 := q1.2) (ci := 12) (nn := 0) (o := 80) 9 0 tk_R_takes rfl bb_R_fails vv_R_fails lk_12_140 (by decide) rfl rfl (Or.inl rfl) (Nat.le_of_ble_eq_true rfl) (s_R_fails Γ h _ hq2) ?_
    show Ev Γ m_R_takes 20 [some (vr 12 0 80), some (vi a1)] [vi q1.1] q1.2 r h'
    obtain ⟨hg3, hx⟩ := gd hx
    obtain rfl := Option.some.inj hx
    obtain ⟨rfl, rfl⟩ := hP
    exact Ev.zret 10 tk_R_takes rfl rfl (nbool hg3)
  · replace hx := ip hc1 hx
    refine Ev.blk (pc' := 9) (lv' := [some (vr 12 0 80), some (vi a1)]) (st' := [vr 12 0 80]) (h' := h) 4 1 (Nat.le_of_ble_eq_true rfl) tk_R_takes rfl rfl ⟨trivial, trivial⟩ ?_
    obtain ⟨q2, hq4, hx⟩ := bd hx
    refine Ev.callV (ν := m_R_look) (av := []) (rest := []) (r1 := some (vi q2.1)) (h1 := q2.2) (ci := 12) (nn := 0) (o := 80) 5 0 tk_R_takes rfl bb_R_look vv_R_look lk_12_144 (by decide) rfl rfl (Or.inl rfl) (Nat.le_of_ble_eq_true rfl) (s_R_look Γ h _ hq4) ?_
    show Ev Γ m_R_takes 12 [some (vr 12 0 80), some (vi a1)] [vi q2.1] q2.2 r h'
    refine Ev.blk (pc' := 13) (lv' := [some (vr 12 0 80), some (vi a1)]) (st' := [vi a1, vi q2.1]) (h' := q2.2) 6 1 (Nat.le_of_ble_eq_true rfl) tk_R_takes rfl rfl ⟨trivial, trivial⟩ ?_
    refine Ev.icmp_eq 7 21 tk_R_takes rfl (by decide) (fun hc5 => ?_) (fun hc5 => ?_)
    · replace hx := ip hc5 hx
      refine Ev.blk (pc' := 32) (lv' := [some (vr 12 0 80), some (vi a1)]) (st' := [vi (ii 1)]) (h' := (wI q2.2 80 10 ((q2.2.1 80 10) + (ii 1)))) 11 7 (Nat.le_of_ble_eq_true rfl) tk_R_takes rfl rfl ⟨trivial, trivial, trivial, trivial, trivial, trivial, trivial, trivial⟩ ?_
      obtain rfl := Option.some.inj hx
      obtain ⟨rfl, rfl⟩ := hP
      exact Ev.zret 18 tk_R_takes rfl rfl rfl
    · replace hx := ia hc5 hx
      refine Ev.blk (pc' := 17) (lv' := [some (vr 12 0 80), some (vi a1)]) (st' := [vr 12 0 80]) (h' := q2.2) 8 1 (Nat.le_of_ble_eq_true rfl) tk_R_takes rfl rfl ⟨trivial, trivial⟩ ?_
      obtain ⟨q3, hq6, hx⟩ := bd hx
      refine Ev.callV (ν := m_R_fails) (av := []) (rest := []) (r1 := some (vi q3.1)) (h1 := q3.2) (ci := 12) (nn := 0) (o := 80) 9 0 tk_R_takes rfl bb_R_fails vv_R_fails lk_12_140 (by decide) rfl rfl (Or.inl rfl) (Nat.le_of_ble_eq_true rfl) (s_R_fails Γ q2.2 _ hq6) ?_
      show Ev Γ m_R_takes 20 [some (vr 12 0 80), some (vi a1)] [vi q3.1] q3.2 r h'
      obtain ⟨hg7, hx⟩ := gd hx
      obtain rfl := Option.some.inj hx
      obtain ⟨rfl, rfl⟩ := hP
      exact Ev.zret 10 tk_R_takes rfl rfl (nbool hg7)
