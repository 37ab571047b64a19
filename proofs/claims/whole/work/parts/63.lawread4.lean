/-! the class reads a law: clauses, the whole -/
/-- a clause goes on by two more than its code -/
def okQ (bs : List Int) (p : Nat) (r : PR) : Prop := match r with
  | .inl e => e ≤ bs.length
  | .inr (q, C) => p < q ∧ q ≤ bs.length ∧ C.length + p + 2 ≤ q
theorem j10 : ¬ (ii 1 = ii 0) := by decide
section LR4
variable {bs : List Int} {h0 : AH} {o : Nat}
theorem okQ_cl {p : Nat} (hp : p ≤ bs.length) : okQ bs p (pCl bs p) := by
  have hk := sk_lo hp
  unfold pCl tkP
  by_cases q1 : ch bs (sk bs p) = 121
  · rw [if_pos q1, andP_r]
    simp only
    have hl1 := ch_lt (bs := bs) (p := sk bs p) (by omega)
    have hk2 := sk_lo (bs := bs) (p := sk bs p + 1) (by omega)
    by_cases q2 : ch bs (sk bs (sk bs p + 1)) = 58
    · rw [if_pos q2, andP_r]
      simp only
      have hl2 := ch_lt (bs := bs) (p := sk bs (sk bs p + 1)) (by omega)
      obtain ⟨r, hr⟩ : ∃ r, r = sk bs (sk bs p + 1) + 1 := ⟨_, rfl⟩
      rw [← hr]
      have hk3 := sk_lo (bs := bs) (p := r) (by omega)
      have tail : ∀ (s : Nat) (C : List Int), sk bs r < s → s ≤ bs.length → C.length + sk bs r ≤ s → okQ bs p (andP (if ch bs (sk bs s) = 63 then .inr (sk bs s + 1, C) else .inl (sk bs s)) (fun t C => andP (pSm bs 6 t) (fun u C' => .inr (u, C ++ [-17] ++ C')))) := by
        intro s C h1 h2 h3
        have hk4 := sk_lo h2
        by_cases q3 : ch bs (sk bs s) = 63
        · rw [if_pos q3, andP_r]
          have hl3 := ch_lt (bs := bs) (p := sk bs s) (by omega)
          have h4 := okA_pSm (bs := bs) 6 (sk bs s + 1) (by omega)
          simp only
          revert h4
          cases pSm bs 6 (sk bs s + 1) with
          | inl e => intro h4; exact h4
          | inr v =>
            intro h4
            obtain ⟨t1, t2, t3⟩ := h4
            refine ⟨by omega, t2, ?_⟩
            simp only [List.length_append, List.length_cons, List.length_nil]
            omega
        · rw [if_neg q3, andP_l]
          exact hk4.2
      by_cases q3 : ch bs (sk bs r) = 33 ∨ ch bs (sk bs r) = 40
      · rw [if_pos q3]
        have h4 := okP_sm (bs := bs) (mc := mcC) (ac := acC) rfl rfl (okA_pUn 6) (okA_pUn 6 (sk bs r) hk3.2)
        revert h4
        cases smG bs mcC acC (pUn bs 6) (pUn bs 6 (sk bs r)) with
        | inl e => intro h4; exact h4
        | inr v =>
          intro h4
          obtain ⟨t1, t2, t3⟩ := h4
          rw [andP_r]
          exact tail v.1 v.2 t1 t2 t3
      · rw [if_neg q3]
        have h4 := okA_pSm (bs := bs) 6 (sk bs r) hk3.2
        revert h4
        cases pSm bs 6 (sk bs r) with
        | inl e => intro h4; exact h4
        | inr v =>
          intro h4
          obtain ⟨t1, t2, t3⟩ := h4
          rw [andP_r]
          have hk5 := sk_lo t2
          by_cases q4 : cmM (ch bs (sk bs v.1)) = -1
          · rw [if_pos q4]
            exact ⟨by omega, hk5.2, by omega⟩
          · rw [if_neg q4]
            have h5 := okP_sm (bs := bs) (mc := mcC) (ac := acC) rfl rfl (okA_pUn 6) (okP_cm (k := 6) t1 t2 t3)
            revert h5
            cases smG bs mcC acC (pUn bs 6) (cm2 bs 6 v.1 v.2) with
            | inl e => intro h5; exact h5
            | inr w =>
              intro h5
              obtain ⟨s1, s2, s3⟩ := h5
              rw [andP_r]
              exact tail w.1 w.2 s1 s2 s3
    · rw [if_neg q2, andP_l]
      exact hk2.2
  · rw [if_neg q1, andP_l]
    exact hk.2
theorem L_tail (X : LX bs h0 o) {s : Nat} {C E : List Int} (hs : s ≤ bs.length) (hC : (C ++ E).length ≤ s) : CRs h0 o C ((f_Tape_take (ii 63) (LH h0 o s (C ++ E))).bind fun q5 => if q5.1 = ii 0 then some (ii 0, q5.2) else (f_Law_emit (q5.2.2.2 8 0) (ii (-17)) q5.2).bind fun q6 => (g0 40 0 (ii 0) q6).bind fun q7 => if q7.1 = ii 0 ∨ q7.1 = 1 then some (q7.1, q7.2) else none) (andP (tkP bs 63 s E) (fun t C => andP (pSm bs 6 t) (fun u C' => .inr (u, C ++ [-17] ++ C')))) := by
  have hl := X.2.1.1
  have hk := sk_lo hs
  have e8 : ∀ q D, (LH h0 o q D).2.2 8 0 = o := fun q D => LH_22 X
  unfold tkP
  by_cases q : ch bs (sk bs s) = 63
  · rw [if_pos q, andP_r, bind_eq (L_tkT X hs (c := 63) (by omega) (by omega) q)]
    have hlt := ch_lt (bs := bs) (p := sk bs s) (by omega)
    have hem := LH_emit X (p := sk bs s + 1) (C := C ++ E) (by omega) (-17)
    have h1 := L_sum X (k := 6) (dp := 0) (by omega) (p := sk bs s + 1) (C := C ++ E ++ [-17]) (by omega) (by simp only [List.length_append, List.length_cons, List.length_nil] at hC ⊢; omega)
    have h1b := CRs_b h1
    simp only
    rw [if_neg j10, LH_2]
    have e8' : h0.2.2 8 0 = o := X.2.2.1
    rw [e8', bind_eq hem]
    have h1c : CRs h0 o (C ++ E ++ [-17]) ((g0 40 0 (ii 0) (LH h0 o (sk bs s + 1) (C ++ E ++ [-17]))).bind fun q => if q.1 = ii 0 ∨ q.1 = 1 then some (q.1, q.2) else none) (pSm bs 6 (sk bs s + 1)) := h1b
    revert h1c
    cases pSm bs 6 (sk bs s + 1) with
    | inl e => intro h; exact h
    | inr v =>
      intro h
      rw [andP_r]
      have h' : ((g0 40 0 (ii 0) (LH h0 o (sk bs s + 1) (C ++ E ++ [-17]))).bind fun q => if q.1 = ii 0 ∨ q.1 = 1 then some (q.1, q.2) else none) = some (ii 1, LH h0 o v.1 (C ++ E ++ [-17] ++ v.2)) := h
      show _ = some (ii 1, LH h0 o v.1 (C ++ (E ++ [-17] ++ v.2)))
      rw [h']
      simp only [List.append_assoc]
  · rw [if_neg q, andP_l, bind_eq (L_tkF X hs (c := 63) (by omega) (by omega) q)]
    simp only [if_true]
    exact ⟨_, rfl⟩
theorem L_cl (X : LX bs h0 o) {p : Nat} {C : List Int} (hp : p ≤ bs.length) (hC : C.length ≤ p) : CRs h0 o C (f_LR_readClause (LH h0 o p C)) (pCl bs p) := by
  have hl := X.2.1.1
  have hk := sk_lo hp
  unfold f_LR_readClause pCl
  simp only [z0]
  have et : ∀ (c : Int) (q : Nat), tkP bs c q [] = if ch bs (sk bs q) = c then .inr (sk bs q + 1, []) else .inl (sk bs q) := fun _ _ => rfl
  by_cases q1 : ch bs (sk bs p) = 121
  · rw [et, if_pos q1, andP_r, bind_eq (L_tkT X hp (c := 121) (by omega) (by omega) q1)]
    have hl1 := ch_lt (bs := bs) (p := sk bs p) (by omega)
    have hk2 := sk_lo (bs := bs) (p := sk bs p + 1) (by omega)
    simp only
    rw [if_neg j10]
    by_cases q2 : ch bs (sk bs (sk bs p + 1)) = 58
    · rw [et, if_pos q2, andP_r, bind_eq (L_tkT X (p := sk bs p + 1) (by omega) (c := 58) (by omega) (by omega) q2)]
      have hl2 := ch_lt (bs := bs) (p := sk bs (sk bs p + 1)) (by omega)
      obtain ⟨r, hr⟩ : ∃ r, r = sk bs (sk bs p + 1) + 1 := ⟨_, rfl⟩
      rw [← hr]
      have hk3 := sk_lo (bs := bs) (p := r) (by omega)
      have hc := ch_lo X.2.1 (sk bs r)
      simp only
      rw [if_neg j10, bind_eq (L_pk X C (p := r) (by omega))]
      by_cases q3 : ch bs (sk bs r) = 33 ∨ ch bs (sk bs r) = 40
      · rw [if_pos q3]
        have ecz : (if ii (ch bs (sk bs r)) = ii 33 then ii 0 else if ii (ch bs (sk bs r)) = ii 40 then ii 0 else ii 1) = ii 0 := by
          rcases q3 with q3 | q3 <;> rw [q3] <;> rfl
        simp only [ecz, if_true]
        have h1 := L_con X (p := sk bs r) (C := C) hk3.2 (by omega)
        have h2 := okP_sm (bs := bs) (mc := mcC) (ac := acC) rfl rfl (okA_pUn 6) (okA_pUn 6 (sk bs r) hk3.2)
        revert h1 h2
        unfold pCo
        cases smG bs mcC acC (pUn bs 6) (pUn bs 6 (sk bs r)) with
        | inl e =>
          rintro ⟨C', h1⟩ _
          rw [bind_eq h1]
          exact ⟨C', by simp only [if_true]⟩
        | inr v =>
          intro h1 h2
          obtain ⟨t1, t2, t3⟩ := h2
          have h1' : g1 40 0 (ii 0) (ii 0) (LH h0 o (sk bs r) C) = some (ii 1, LH h0 o v.1 (C ++ v.2)) := h1
          rw [bind_eq h1', andP_r]
          simp only
          rw [if_neg j10]
          exact L_tail X t2 (by simp only [List.length_append]; omega)
      · rw [if_neg q3]
        have ecz : (if ii (ch bs (sk bs r)) = ii 33 then ii 0 else if ii (ch bs (sk bs r)) = ii 40 then ii 0 else ii 1) = ii 1 := by
          rw [if_neg (by rw [ii_eq (by omega) (by omega) (by omega) (by omega)]; omega), if_neg (by rw [ii_eq (by omega) (by omega) (by omega) (by omega)]; omega)]
        have e10 : ¬ ii 1 = ii 0 := j10
        simp only [ecz, e10, if_false]
        have h1 := L_sum X (k := 6) (dp := 0) (by omega) (p := sk bs r) (C := C) hk3.2 (by omega)
        have h2 := okA_pSm (bs := bs) 6 (sk bs r) hk3.2
        revert h1 h2
        cases pSm bs 6 (sk bs r) with
        | inl e =>
          rintro ⟨C', h1⟩ _
          have h1' : g0 40 0 (ii 0) (LH h0 o (sk bs r) C) = some (ii 0, LH h0 o e C') := h1
          rw [bind_eq h1']
          exact ⟨C', by simp only [if_true]⟩
        | inr v =>
          intro h1 h2
          obtain ⟨t1, t2, t3⟩ := h2
          have h1' : g0 40 0 (ii 0) (LH h0 o (sk bs r) C) = some (ii 1, LH h0 o v.1 (C ++ v.2)) := h1
          rw [bind_eq h1', andP_r]
          have hk5 := sk_lo t2
          have hc5 := ch_lo X.2.1 (sk bs v.1)
          have hcm := cm_lo (ch bs (sk bs v.1))
          simp only
          rw [if_neg j10, bind_eq (L_pk X (C ++ v.2) t2)]
          simp only [L_comp hc5]
          by_cases q4 : cmM (ch bs (sk bs v.1)) = -1
          · rw [if_pos q4, if_pos (by rw [q4])]
            rfl
          · rw [if_neg q4, if_neg (by rw [ii_eq (by omega) (by omega) (by omega) (by omega)]; exact q4)]
            have h3 := L_con1 X (q := sk bs v.1) (C := C) (D := v.2) hk5.2 (by simp only [List.length_append]; omega) (by omega)
            have ecm : cm2 bs 6 (sk bs v.1) v.2 = cm2 bs 6 v.1 v.2 := by unfold cm2; rw [sk_sk]
            rw [ecm] at h3
            have h5 := okP_sm (bs := bs) (mc := mcC) (ac := acC) rfl rfl (okA_pUn 6) (okP_cm (k := 6) t1 t2 t3)
            revert h3 h5
            cases smG bs mcC acC (pUn bs 6) (cm2 bs 6 v.1 v.2) with
            | inl e =>
              rintro ⟨C', h3⟩ _
              rw [bind_eq h3]
              exact ⟨C', by simp only [if_true]⟩
            | inr w =>
              intro h3 h5
              obtain ⟨s1, s2, s3⟩ := h5
              have h3' : g1 40 0 (ii 0) (ii 1) (LH h0 o (sk bs v.1) (C ++ v.2)) = some (ii 1, LH h0 o w.1 (C ++ w.2)) := h3
              rw [bind_eq h3', andP_r]
              simp only
              rw [if_neg j10]
              exact L_tail X s2 (by simp only [List.length_append]; omega)
    · rw [et, if_neg q2, andP_l, bind_eq (L_tkF X (p := sk bs p + 1) (by omega) (c := 58) (by omega) (by omega) q2)]
      simp only [if_true]
      exact ⟨_, rfl⟩
  · rw [et, if_neg q1, andP_l, bind_eq (L_tkF X hp (c := 121) (by omega) (by omega) q1)]
    simp only [if_true]
    exact ⟨_, rfl⟩
/-- how the reading of a whole law came out -/
def CLs (h0 : AH) (o : Nat) (x : Option (Int32 × AH)) (r : Nat ⊕ List Int) : Prop := match r with
  | .inl e => ∃ C', x = some (ii e, LH h0 o e C')
  | .inr C => C.length ≤ 240 ∧ ∃ q, x = some (ii (-1), LH h0 o q C)
theorem L_lw (X : LX bs h0 o) : ∀ (m p i n f : Nat) (C : List Int), bs.length - p ≤ m → p ≤ bs.length → m < n → i + m ≤ 240 → m < f → C.length ≤ p → CLs h0 o (LR_faultOf_L15 n (ii i) (LH h0 o p C)) (lwF bs f p C) := by
  have hl := X.2.1.1
  have e8 : ∀ q D, (LH h0 o q D).2.2 8 0 = o := fun q D => LH_22 X
  intro m
  induction m with
  | zero =>
    intro p i n f C hm hp hn hi hf hC
    obtain ⟨n, rfl⟩ : ∃ z, n = z + 1 := ⟨n - 1, by omega⟩
    obtain ⟨f, rfl⟩ : ∃ z, f = z + 1 := ⟨f - 1, by omega⟩
    have h1 := L_cl X hp hC
    have h2 := okQ_cl (bs := bs) hp
    unfold lwF
    revert h1 h2
    cases pCl bs p with
    | inl e =>
      rintro ⟨C', h1⟩ _
      simp (disch := omega) only [Option.bind_some, if_true, if_false, not_true_eq_false, not_false_eq_true, z0, ii_add, ii_sub, ii_mul, ifLeT, ifLeF, ifLtT, ifLtF, ifEqT, ifEqF, ifNeT, ifNeF, ifIn, nixZ, ii_i64, o0, o1, isInT, isInF, tn14, tn12, tn2, tn21, tn47, tn48, tn49, tn471, tn472, Int.reduceToNat, Int.toNat_natCast, Int.reduceAdd, Int.reduceSub, Int.reduceMul, Int.reduceNeg, Nat.reduceAdd, Nat.reduceSub, Nat.reduceMul, LR_faultOf_L15, LR_faultOf_L15_b, h1, LH_at]
      exact ⟨C', rfl⟩
    | inr v =>
      intro _ h2
      obtain ⟨t1, t2, t3⟩ := h2
      omega
  | succ m ih =>
    intro p i n f C hm hp hn hi hf hC
    obtain ⟨n, rfl⟩ : ∃ z, n = z + 1 := ⟨n - 1, by omega⟩
    obtain ⟨f, rfl⟩ : ∃ z, f = z + 1 := ⟨f - 1, by omega⟩
    have h1 := L_cl X hp hC
    have h2 := okQ_cl (bs := bs) hp
    unfold lwF
    revert h1 h2
    cases pCl bs p with
    | inl e =>
      rintro ⟨C', h1⟩ _
      simp (disch := omega) only [Option.bind_some, if_true, if_false, not_true_eq_false, not_false_eq_true, z0, ii_add, ii_sub, ii_mul, ifLeT, ifLeF, ifLtT, ifLtF, ifEqT, ifEqF, ifNeT, ifNeF, ifIn, nixZ, ii_i64, o0, o1, isInT, isInF, tn14, tn12, tn2, tn21, tn47, tn48, tn49, tn471, tn472, Int.reduceToNat, Int.toNat_natCast, Int.reduceAdd, Int.reduceSub, Int.reduceMul, Int.reduceNeg, Nat.reduceAdd, Nat.reduceSub, Nat.reduceMul, LR_faultOf_L15, LR_faultOf_L15_b, h1, LH_at]
      exact ⟨C', rfl⟩
    | inr v =>
      intro h1 h2
      obtain ⟨t1, t2, t3⟩ := h2
      have h1' : f_LR_readClause (LH h0 o p C) = some (ii 1, LH h0 o v.1 (C ++ v.2)) := h1
      have hk := sk_lo t2
      have hc := ch_lo X.2.1 (sk bs v.1)
      have hlen : (C ++ v.2).length + 2 ≤ v.1 := by simp only [List.length_append]; omega
      have hem := LH_emit X (p := v.1) (C := C ++ v.2) (by omega) (-18)
      have hlen2 : (C ++ v.2 ++ [-18]).length + 1 ≤ v.1 := by simp only [List.length_append, List.length_cons, List.length_nil] at hlen ⊢; omega
      simp only
      by_cases q1 : ch bs (sk bs v.1) = -1
      · rw [if_pos q1]
        simp (disch := omega) only [Option.bind_some, if_true, if_false, not_true_eq_false, not_false_eq_true, z0, ii_add, ii_sub, ii_mul, ifLeT, ifLeF, ifLtT, ifLtF, ifEqT, ifEqF, ifNeT, ifNeF, ifIn, nixZ, ii_i64, o0, o1, isInT, isInF, tn14, tn12, tn2, tn21, tn47, tn48, tn49, tn471, tn472, Int.reduceToNat, Int.toNat_natCast, Int.reduceAdd, Int.reduceSub, Int.reduceMul, Int.reduceNeg, Nat.reduceAdd, Nat.reduceSub, Nat.reduceMul, LR_faultOf_L15, LR_faultOf_L15_b, h1', e8, hem, L_pk X _ t2, q1]
        exact ⟨by omega, _, rfl⟩
      · rw [if_neg q1]
        by_cases q2 : ch bs (sk bs v.1) = 59
        · rw [if_pos q2]
          have hlt := ch_lt (bs := bs) (p := sk bs v.1) q1
          have q2' : ch bs (sk bs (sk bs v.1)) = 59 := by rw [sk_sk]; exact q2
          have htk := L_tkT X (p := sk bs v.1) (C := C ++ v.2 ++ [-18]) hk.2 (c := 59) (by omega) (by omega) q2'
          rw [sk_sk] at htk
          have hih := ih (sk bs v.1 + 1) (i + 1) n f (C ++ v.2 ++ [-18]) (by omega) (by omega) (by omega) (by omega) (by omega) (by omega)
          simp (disch := omega) only [Option.bind_some, if_true, if_false, not_true_eq_false, not_false_eq_true, z0, ii_add, ii_sub, ii_mul, ifLeT, ifLeF, ifLtT, ifLtF, ifEqT, ifEqF, ifNeT, ifNeF, ifIn, nixZ, ii_i64, o0, o1, isInT, isInF, tn14, tn12, tn2, tn21, tn47, tn48, tn49, tn471, tn472, Int.reduceToNat, Int.toNat_natCast, Int.reduceAdd, Int.reduceSub, Int.reduceMul, Int.reduceNeg, Nat.reduceAdd, Nat.reduceSub, Nat.reduceMul, LR_faultOf_L15, LR_faultOf_L15_b, h1', e8, hem, L_pk X _ t2, q2, htk]
          exact hih
        · rw [if_neg q2]
          have q2' : ch bs (sk bs (sk bs v.1)) ≠ 59 := by rw [sk_sk]; exact q2
          have htk := L_tkF X (p := sk bs v.1) (C := C ++ v.2 ++ [-18]) hk.2 (c := 59) (by omega) (by omega) q2'
          rw [sk_sk] at htk
          simp (disch := omega) only [Option.bind_some, if_true, if_false, not_true_eq_false, not_false_eq_true, z0, ii_add, ii_sub, ii_mul, ifLeT, ifLeF, ifLtT, ifLtF, ifEqT, ifEqF, ifNeT, ifNeF, ifIn, nixZ, ii_i64, o0, o1, isInT, isInF, tn14, tn12, tn2, tn21, tn47, tn48, tn49, tn471, tn472, Int.reduceToNat, Int.toNat_natCast, Int.reduceAdd, Int.reduceSub, Int.reduceMul, Int.reduceNeg, Nat.reduceAdd, Nat.reduceSub, Nat.reduceMul, LR_faultOf_L15, LR_faultOf_L15_b, h1', e8, hem, L_pk X _ t2, htk, LH_at]
          exact ⟨_, rfl⟩
theorem L_law (X : LX bs h0 o) : CLs h0 o (f_LR_faultOf h0) (pLaw bs) := by
  have hl := X.2.1.1
  obtain ⟨o1', o2, o3, o4, o5⟩ := X.ne
  have e0 : wI (wI h0 1 2 (ii 0)) ((wI h0 1 2 (ii 0)).2.2 8 0) 2 (ii 0) = LH h0 o 0 [] := by
    rw [show (wI h0 1 2 (ii 0)).2.2 8 0 = o from X.2.2.1]
    apply heap_ext
    · intro x
      by_cases e : x = o
      · subst e
        rw [wI_self, wI_ne o1', LH_o o1']
        rfl
      · rw [wI_ne e]
        by_cases e1 : x = 1
        · subst e1; rw [wI_self, LH_1]; rfl
        · rw [wI_ne e1]
          by_cases e2 : x = o + 1
          · subst e2; rw [LH_o1 (by omega)]; rfl
          · rw [LH_n e1 e e2]
    · rfl
  unfold f_LR_faultOf pLaw
  rw [e0]
  have hFU : 1000 < FU := by unfold FU; omega
  generalize FU = F at *
  have h250 : 240 < 250 := by omega
  generalize (250 : Nat) = G at *
  exact L_lw X bs.length 0 0 F G [] (by omega) (by omega) (by omega) (by omega) (by omega) (by simp)
end LR4
