/-! the class reads a law: sums, conditions, clauses -/
section LR2
variable {bs : List Int} {h0 : AH} {o : Nat}
theorem L_g0 (X : LX bs h0 o) : ∀ (k dp j : Nat), dp + k = 6 → (∀ p C, p ≤ bs.length → C.length ≤ p → CRs h0 o C (g0 (2 * k + 1 + j) 1 (ii dp) (LH h0 o p C)) (pAt bs k p)) ∧ (∀ p C, p ≤ bs.length → C.length ≤ p → CRs h0 o C (g0 (2 * k + 2 + j) 0 (ii dp) (LH h0 o p C)) (pSm bs k p)) := by
  have step : ∀ k dp : Nat, dp + k = 6 → (∀ j p C, p ≤ bs.length → C.length ≤ p → CRs h0 o C (g0 (2 * k + 1 + j) 1 (ii dp) (LH h0 o p C)) (pAt bs k p)) → (∀ j p C, p ≤ bs.length → C.length ≤ p → CRs h0 o C (g0 (2 * k + 2 + j) 0 (ii dp) (LH h0 o p C)) (pSm bs k p)) := by
    intro k dp hdk hA j p C hp hC
    have e : g0 (2 * k + 2 + j) 0 (ii dp) (LH h0 o p C) = u_LR_readSum (g0 (2 * k + 1 + j)) (ii dp) (LH h0 o p C) := by
      rw [show 2 * k + 2 + j = (2 * k + 1 + j) + 1 by omega]; rfl
    rw [e]
    exact L_su X (okA_pAt k) (hA j) hp hC
  have all : ∀ k dp : Nat, dp + k = 6 → (∀ j p C, p ≤ bs.length → C.length ≤ p → CRs h0 o C (g0 (2 * k + 1 + j) 1 (ii dp) (LH h0 o p C)) (pAt bs k p)) := by
    intro k
    induction k with
    | zero =>
      intro dp hdk j p C hp hC
      have e : g0 (2 * 0 + 1 + j) 1 (ii dp) (LH h0 o p C) = u_LR_readAtom (g0 j) (ii dp) (LH h0 o p C) := by
        rw [show 2 * 0 + 1 + j = j + 1 by omega]; rfl
      rw [e]
      exact L_at X (sub := none) (by omega) (fun _ => by omega) (fun f z => by cases z) hp hC
    | succ k ih =>
      intro dp hdk j p C hp hC
      have e : g0 (2 * (k + 1) + 1 + j) 1 (ii dp) (LH h0 o p C) = u_LR_readAtom (g0 (2 * k + 2 + j)) (ii dp) (LH h0 o p C) := by
        rw [show 2 * (k + 1) + 1 + j = (2 * k + 2 + j) + 1 by omega]; rfl
      rw [e]
      exact L_at X (sub := some (pSm bs k)) (by omega) (fun z => by cases z) (fun f z => by
        cases z
        exact ⟨by omega, okA_pSm k, step k (dp + 1) (by omega) (ih (dp + 1) (by omega)) j⟩) hp hC
  intro k dp j hdk
  exact ⟨all k dp hdk j, step k dp hdk (all k dp hdk) j⟩
theorem L_sum (X : LX bs h0 o) {k dp : Nat} (h : dp + k = 6) {p : Nat} {C : List Int} (hp : p ≤ bs.length) (hC : C.length ≤ p) : CRs h0 o C (g0 40 0 (ii dp) (LH h0 o p C)) (pSm bs k p) := by
  have := (L_g0 X k dp (40 - (2 * k + 2)) h).2 p C hp hC
  rwa [show 2 * k + 2 + (40 - (2 * k + 2)) = 40 by omega] at this
/-- a comparison, as the reader of units does it behind its first look -/
def cmF (a2 : Int32) (a3 : Int32) (h : AH) : Option (Int32 × AH) := if a3 = 0 then (g0 40 0 a2 h).bind fun q4 => if q4.1 = 0 then some ((ii 0), q4.2) else (f_Tape_peek q4.2).bind fun q5 => if (p_LR_comparing q5.1) = (ii (-1)) then some ((ii 0), q5.2) else (g0 40 0 a2 (wI q5.2 1 2 ((q5.2.1 1 2) + (ii 1)))).bind fun q6 => if q6.1 = 0 then some ((ii 0), q6.2) else (f_Law_emit (q6.2.2.2 8 0) (p_LR_comparing q5.1) q6.2).bind fun q7 => some ((ii 1), q7) else (f_Tape_peek h).bind fun q1 => if (p_LR_comparing q1.1) = (ii (-1)) then some ((ii 0), q1.2) else (g0 40 0 a2 (wI q1.2 1 2 ((q1.2.1 1 2) + (ii 1)))).bind fun q2 => if q2.1 = 0 then some ((ii 0), q2.2) else (f_Law_emit (q2.2.2.2 8 0) (p_LR_comparing q1.1) q2.2).bind fun q3 => some ((ii 1), q3)
theorem un_form (rc : Nat → Int32 → Int32 → AH → Option (Int32 × AH)) (a2 a3 : Int32) (h : AH) : u_LR_readUnit rc a2 a3 h = (f_Tape_peek h).bind fun q1 => if a3 = 0 then (if q1.1 = (ii 33) then (rc 2 a2 q1.1 q1.2).bind fun q9 => if q9.1 = 0 ∨ q9.1 = 1 then some (q9.1, q9.2) else none else if q1.1 = (ii 40) then (rc 2 a2 q1.1 q1.2).bind fun q17 => if q17.1 = 0 ∨ q17.1 = 1 then some (q17.1, q17.2) else none else cmF a2 a3 q1.2) else cmF a2 a3 q1.2 := rfl
theorem L_cm1 (X : LX bs h0 o) {k dp : Nat} (h : dp + k = 6) {q : Nat} {C D : List Int} (hq : q ≤ bs.length) (hC : (C ++ D).length ≤ q) : CRs h0 o C (cmF (ii dp) (ii 1) (LH h0 o q (C ++ D))) (cm2 bs k q D) := by
  have hl := X.2.1.1
  have hk := sk_lo hq
  have hc := ch_lo X.2.1 (sk bs q)
  have e8 : ∀ q D, (LH h0 o q D).2.2 8 0 = o := fun q D => LH_22 X
  have ec := L_comp hc
  have hcm := cm_lo (ch bs (sk bs q))
  unfold cmF cm2
  by_cases q1 : cmM (ch bs (sk bs q)) = -1
  · rw [if_pos q1]
    simp (disch := omega) only [Option.bind_some, if_true, if_false, not_true_eq_false, not_false_eq_true, z0, ii_add, ii_sub, ii_mul, ifLeT, ifLeF, ifLtT, ifLtF, ifEqT, ifEqF, ifNeT, ifNeF, ifIn, nixZ, ii_i64, o0, o1, isInT, isInF, tn14, tn12, tn2, tn21, tn47, tn48, tn49, tn471, tn472, Int.reduceToNat, Int.toNat_natCast, Int.reduceAdd, Int.reduceSub, Int.reduceMul, Int.reduceNeg, Nat.reduceAdd, Nat.reduceSub, Nat.reduceMul, L_pk X _ hq, ec, q1]
    exact ⟨_, rfl⟩
  · rw [if_neg q1]
    have hlt := ch_lt (bs := bs) (p := sk bs q) (by intro z; rw [z] at q1; exact q1 (by decide))
    have h1 := L_sum X h (p := sk bs q + 1) (C := C ++ D) (by omega) (by omega)
    have h2 := okA_pSm (bs := bs) k (sk bs q + 1) (by omega)
    simp (disch := omega) only [Option.bind_some, if_true, if_false, not_true_eq_false, not_false_eq_true, z0, ii_add, ii_sub, ii_mul, ifLeT, ifLeF, ifLtT, ifLtF, ifEqT, ifEqF, ifNeT, ifNeF, ifIn, nixZ, ii_i64, o0, o1, isInT, isInF, tn14, tn12, tn2, tn21, tn47, tn48, tn49, tn471, tn472, Int.reduceToNat, Int.toNat_natCast, Int.reduceAdd, Int.reduceSub, Int.reduceMul, Int.reduceNeg, Nat.reduceAdd, Nat.reduceSub, Nat.reduceMul, L_pk X _ hq, ec, LH_at, LH_inc]
    revert h1 h2
    cases pSm bs k (sk bs q + 1) with
    | inl e =>
      rintro ⟨C', h1⟩ _
      simp (disch := omega) only [Option.bind_some, if_true, if_false, not_true_eq_false, not_false_eq_true, z0, ii_add, ii_sub, ii_mul, ifLeT, ifLeF, ifLtT, ifLtF, ifEqT, ifEqF, ifNeT, ifNeF, ifIn, nixZ, ii_i64, o0, o1, isInT, isInF, tn14, tn12, tn2, tn21, tn47, tn48, tn49, tn471, tn472, Int.reduceToNat, Int.toNat_natCast, Int.reduceAdd, Int.reduceSub, Int.reduceMul, Int.reduceNeg, Nat.reduceAdd, Nat.reduceSub, Nat.reduceMul, h1]
      exact ⟨C', rfl⟩
    | inr u =>
      intro h1 h2
      obtain ⟨t1, t2, t3⟩ := h2
      have h1' : g0 40 0 (ii dp) (LH h0 o (sk bs q + 1) (C ++ D)) = some (ii 1, LH h0 o u.1 (C ++ D ++ u.2)) := h1
      have hem := LH_emit X (p := u.1) (C := C ++ D ++ u.2) (by simp only [List.length_append] at hC ⊢; omega) (cmM (ch bs (sk bs q)))
      simp (disch := omega) only [Option.bind_some, if_true, if_false, not_true_eq_false, not_false_eq_true, z0, ii_add, ii_sub, ii_mul, ifLeT, ifLeF, ifLtT, ifLtF, ifEqT, ifEqF, ifNeT, ifNeF, ifIn, nixZ, ii_i64, o0, o1, isInT, isInF, tn14, tn12, tn2, tn21, tn47, tn48, tn49, tn471, tn472, Int.reduceToNat, Int.toNat_natCast, Int.reduceAdd, Int.reduceSub, Int.reduceMul, Int.reduceNeg, Nat.reduceAdd, Nat.reduceSub, Nat.reduceMul, h1', e8, hem]
      show _ = some (ii 1, LH h0 o u.1 (C ++ (D ++ u.2 ++ [cmM (ch bs (sk bs q))])))
      simp only [List.append_assoc]
theorem L_cm0 (X : LX bs h0 o) {k dp : Nat} (h : dp + k = 6) {p : Nat} {C : List Int} (hp : p ≤ bs.length) (hC : C.length ≤ p) : CRs h0 o C (cmF (ii dp) (ii 0) (LH h0 o p C)) (andP (pSm bs k p) (cm2 bs k)) := by
  have h1 := L_sum X h hp hC
  have h2 := okA_pSm (bs := bs) k p hp
  revert h1 h2
  cases pSm bs k p with
  | inl e =>
    rintro ⟨C', h1⟩ _
    unfold cmF
    simp (disch := omega) only [Option.bind_some, if_true, if_false, not_true_eq_false, not_false_eq_true, z0, ii_add, ii_sub, ii_mul, ifLeT, ifLeF, ifLtT, ifLtF, ifEqT, ifEqF, ifNeT, ifNeF, ifIn, nixZ, ii_i64, o0, o1, isInT, isInF, tn14, tn12, tn2, tn21, tn47, tn48, tn49, tn471, tn472, Int.reduceToNat, Int.toNat_natCast, Int.reduceAdd, Int.reduceSub, Int.reduceMul, Int.reduceNeg, Nat.reduceAdd, Nat.reduceSub, Nat.reduceMul, h1]
    exact ⟨C', rfl⟩
  | inr u =>
    intro h1 h2
    obtain ⟨t1, t2, t3⟩ := h2
    have h1' : g0 40 0 (ii dp) (LH h0 o p C) = some (ii 1, LH h0 o u.1 (C ++ u.2)) := h1
    have h3 := L_cm1 X h (q := u.1) (C := C) (D := u.2) t2 (by simp only [List.length_append]; omega)
    rw [andP_r]
    unfold cmF at h3 ⊢
    simp only [z0, if_true, h1', Option.bind_some] at h3 ⊢
    have e10 : ¬ ii 1 = ii 0 := i10
    simp only [e10, if_false] at h3 ⊢
    exact h3
theorem CRs_b {h0 : AH} {o : Nat} {C : List Int} {x : Option (Int32 × AH)} {r : PR} (h : CRs h0 o C x r) : CRs h0 o C (x.bind fun q => if q.1 = ii 0 ∨ q.1 = 1 then some (q.1, q.2) else none) r := by
  cases r with
  | inl e =>
    obtain ⟨C', h⟩ := h
    rw [bind_eq h]
    exact ⟨C', by rw [if_pos (Or.inl rfl)]⟩
  | inr v =>
    have h' : x = some (ii 1, LH h0 o v.1 (C ++ v.2)) := h
    rw [bind_eq h']
    show (if ii 1 = ii 0 ∨ ii 1 = 1 then some (ii 1, LH h0 o v.1 (C ++ v.2)) else none) = some (ii 1, LH h0 o v.1 (C ++ v.2))
    rw [if_pos (Or.inr (by decide))]
/-- what stands behind ! or ( -/
def neB (bs : List Int) (su : Option ((Nat → PR) × (Nat → PR))) (c : Int) (q : Nat) : PR := match su with
  | none => .inl q
  | some f => if c = 33 then andP (f.1 (q + 1)) (fun r C => .inr (r, C ++ [-16])) else andP (f.2 (q + 1)) (tkP bs 41)
theorem L_ne {rc : Nat → Int32 → Int32 → AH → Option (Int32 × AH)} (X : LX bs h0 o) {dp : Nat} {su : Option ((Nat → PR) × (Nat → PR))} (hn : su = none → dp = 6) (hs : ∀ f, su = some f → dp < 6 ∧ (okA bs f.1 ∧ ∀ p C, p ≤ bs.length → C.length ≤ p → CRs h0 o C (rc 1 (ii (dp + 1 : Nat)) (ii 0) (LH h0 o p C)) (f.1 p)) ∧ okA bs f.2 ∧ ∀ p C, p ≤ bs.length → C.length ≤ p → CRs h0 o C (rc 0 (ii (dp + 1 : Nat)) (ii 0) (LH h0 o p C)) (f.2 p)) {c : Int} (hc : c = 33 ∨ c = 40) {q : Nat} {C : List Int} (hq : q < bs.length) (hC : C.length ≤ q) : CRs h0 o C (u_LR_readNested rc (ii dp) (ii c) (LH h0 o q C)) (neB bs su c q) := by
  have hl := X.2.1.1
  have e8 : ∀ q D, (LH h0 o q D).2.2 8 0 = o := fun q D => LH_22 X
  unfold u_LR_readNested neB
  cases su with
  | none =>
    have := hn rfl
    simp (disch := omega) only [Option.bind_some, if_true, if_false, not_true_eq_false, not_false_eq_true, z0, ii_add, ii_sub, ii_mul, ifLeT, ifLeF, ifLtT, ifLtF, ifEqT, ifEqF, ifNeT, ifNeF, ifIn, nixZ, ii_i64, o0, o1, isInT, isInF, tn14, tn12, tn2, tn21, tn47, tn48, tn49, tn471, tn472, Int.reduceToNat, Int.toNat_natCast, Int.reduceAdd, Int.reduceSub, Int.reduceMul, Int.reduceNeg, Nat.reduceAdd, Nat.reduceSub, Nat.reduceMul]
    exact ⟨C, rfl⟩
  | some f =>
    obtain ⟨s1, ⟨s2, s3⟩, s5, s6⟩ := hs f rfl
    have ed : ((dp + 1 : Nat) : Int) = (dp : Int) + 1 := by omega
    simp only
    rcases hc with hc | hc
    · rw [if_pos hc]
      have s4 := s3 (q + 1) C (by omega) (by omega)
      have s7 := s2 (q + 1) (by omega)
      rw [ed] at s4
      subst hc
      simp (disch := omega) only [Option.bind_some, if_true, if_false, not_true_eq_false, not_false_eq_true, z0, ii_add, ii_sub, ii_mul, ifLeT, ifLeF, ifLtT, ifLtF, ifEqT, ifEqF, ifNeT, ifNeF, ifIn, nixZ, ii_i64, o0, o1, isInT, isInF, tn14, tn12, tn2, tn21, tn47, tn48, tn49, tn471, tn472, Int.reduceToNat, Int.toNat_natCast, Int.reduceAdd, Int.reduceSub, Int.reduceMul, Int.reduceNeg, Nat.reduceAdd, Nat.reduceSub, Nat.reduceMul, LH_at, LH_inc]
      revert s4 s7
      cases f.1 (q + 1) with
      | inl e =>
        rintro ⟨C', s4⟩ _
        simp (disch := omega) only [Option.bind_some, if_true, if_false, not_true_eq_false, not_false_eq_true, z0, ii_add, ii_sub, ii_mul, ifLeT, ifLeF, ifLtT, ifLtF, ifEqT, ifEqF, ifNeT, ifNeF, ifIn, nixZ, ii_i64, o0, o1, isInT, isInF, tn14, tn12, tn2, tn21, tn47, tn48, tn49, tn471, tn472, Int.reduceToNat, Int.toNat_natCast, Int.reduceAdd, Int.reduceSub, Int.reduceMul, Int.reduceNeg, Nat.reduceAdd, Nat.reduceSub, Nat.reduceMul, s4]
        exact ⟨C', rfl⟩
      | inr v =>
        intro s4 s7
        obtain ⟨t1, t2, t3⟩ := s7
        have s4' : rc 1 (ii ((dp : Int) + 1)) (ii 0) (LH h0 o (q + 1) C) = some (ii 1, LH h0 o v.1 (C ++ v.2)) := s4
        have hem := LH_emit X (p := v.1) (C := C ++ v.2) (by simp only [List.length_append]; omega) (-16)
        simp (disch := omega) only [Option.bind_some, if_true, if_false, not_true_eq_false, not_false_eq_true, z0, ii_add, ii_sub, ii_mul, ifLeT, ifLeF, ifLtT, ifLtF, ifEqT, ifEqF, ifNeT, ifNeF, ifIn, nixZ, ii_i64, o0, o1, isInT, isInF, tn14, tn12, tn2, tn21, tn47, tn48, tn49, tn471, tn472, Int.reduceToNat, Int.toNat_natCast, Int.reduceAdd, Int.reduceSub, Int.reduceMul, Int.reduceNeg, Nat.reduceAdd, Nat.reduceSub, Nat.reduceMul, s4', e8, hem]
        show _ = some (ii 1, LH h0 o v.1 (C ++ (v.2 ++ [-16])))
        rw [List.append_assoc]
    · rw [if_neg (show ¬ c = 33 by omega)]
      have s4 := s6 (q + 1) C (by omega) (by omega)
      have s7 := s5 (q + 1) (by omega)
      rw [ed] at s4
      subst hc
      simp (disch := omega) only [Option.bind_some, if_true, if_false, not_true_eq_false, not_false_eq_true, z0, ii_add, ii_sub, ii_mul, ifLeT, ifLeF, ifLtT, ifLtF, ifEqT, ifEqF, ifNeT, ifNeF, ifIn, nixZ, ii_i64, o0, o1, isInT, isInF, tn14, tn12, tn2, tn21, tn47, tn48, tn49, tn471, tn472, Int.reduceToNat, Int.toNat_natCast, Int.reduceAdd, Int.reduceSub, Int.reduceMul, Int.reduceNeg, Nat.reduceAdd, Nat.reduceSub, Nat.reduceMul, LH_at, LH_inc]
      revert s4 s7
      cases f.2 (q + 1) with
      | inl e =>
        rintro ⟨C', s4⟩ _
        simp (disch := omega) only [Option.bind_some, if_true, if_false, not_true_eq_false, not_false_eq_true, z0, ii_add, ii_sub, ii_mul, ifLeT, ifLeF, ifLtT, ifLtF, ifEqT, ifEqF, ifNeT, ifNeF, ifIn, nixZ, ii_i64, o0, o1, isInT, isInF, tn14, tn12, tn2, tn21, tn47, tn48, tn49, tn471, tn472, Int.reduceToNat, Int.toNat_natCast, Int.reduceAdd, Int.reduceSub, Int.reduceMul, Int.reduceNeg, Nat.reduceAdd, Nat.reduceSub, Nat.reduceMul, s4]
        exact ⟨C', rfl⟩
      | inr v =>
        intro s4 s7
        obtain ⟨t1, t2, t3⟩ := s7
        have s4' : rc 0 (ii ((dp : Int) + 1)) (ii 0) (LH h0 o (q + 1) C) = some (ii 1, LH h0 o v.1 (C ++ v.2)) := s4
        rw [andP_r]
        unfold tkP
        by_cases q3 : ch bs (sk bs v.1) = 41
        · rw [if_pos q3]
          simp (disch := omega) only [Option.bind_some, if_true, if_false, not_true_eq_false, not_false_eq_true, z0, ii_add, ii_sub, ii_mul, ifLeT, ifLeF, ifLtT, ifLtF, ifEqT, ifEqF, ifNeT, ifNeF, ifIn, nixZ, ii_i64, o0, o1, isInT, isInF, tn14, tn12, tn2, tn21, tn47, tn48, tn49, tn471, tn472, Int.reduceToNat, Int.toNat_natCast, Int.reduceAdd, Int.reduceSub, Int.reduceMul, Int.reduceNeg, Nat.reduceAdd, Nat.reduceSub, Nat.reduceMul, s4', L_tkT X t2 (c := 41) (by omega) (by omega) q3]
          rfl
        · rw [if_neg q3]
          simp (disch := omega) only [Option.bind_some, if_true, if_false, not_true_eq_false, not_false_eq_true, z0, ii_add, ii_sub, ii_mul, ifLeT, ifLeF, ifLtT, ifLtF, ifEqT, ifEqF, ifNeT, ifNeF, ifIn, nixZ, ii_i64, o0, o1, isInT, isInF, tn14, tn12, tn2, tn21, tn47, tn48, tn49, tn471, tn472, Int.reduceToNat, Int.toNat_natCast, Int.reduceAdd, Int.reduceSub, Int.reduceMul, Int.reduceNeg, Nat.reduceAdd, Nat.reduceSub, Nat.reduceMul, s4', L_tkF X t2 (c := 41) (by omega) (by omega) q3]
          exact ⟨_, rfl⟩
theorem L_un {rc : Nat → Int32 → Int32 → AH → Option (Int32 × AH)} (X : LX bs h0 o) {k dp : Nat} (h : dp + k = 6) {su : Option ((Nat → PR) × (Nat → PR))} (hN : ∀ (c : Int) (q : Nat) (C : List Int), c = 33 ∨ c = 40 → q < bs.length → C.length ≤ q → CRs h0 o C (rc 2 (ii dp) (ii c) (LH h0 o q C)) (neB bs su c q)) {p : Nat} {C : List Int} (hp : p ≤ bs.length) (hC : C.length ≤ p) : CRs h0 o C (u_LR_readUnit rc (ii dp) (ii 0) (LH h0 o p C)) (unB bs k su p) := by
  have hl := X.2.1.1
  have hk := sk_lo hp
  have hc := ch_lo X.2.1 (sk bs p)
  rw [un_form, bind_eq (L_pk X C hp)]
  unfold unB
  by_cases q : ch bs (sk bs p) = 33
  · rw [if_pos q]
    have hlt := ch_lt (bs := bs) (p := sk bs p) (by omega)
    have h3 := CRs_b (hN 33 (sk bs p) C (Or.inl rfl) hlt (by omega))
    simp (disch := omega) only [Option.bind_some, if_true, if_false, not_true_eq_false, not_false_eq_true, z0, ii_add, ii_sub, ii_mul, ifLeT, ifLeF, ifLtT, ifLtF, ifEqT, ifEqF, ifNeT, ifNeF, ifIn, nixZ, ii_i64, o0, o1, isInT, isInF, tn14, tn12, tn2, tn21, tn47, tn48, tn49, tn471, tn472, Int.reduceToNat, Int.toNat_natCast, Int.reduceAdd, Int.reduceSub, Int.reduceMul, Int.reduceNeg, Nat.reduceAdd, Nat.reduceSub, Nat.reduceMul, q]
    cases su with
    | none => exact h3
    | some f => exact h3
  · rw [if_neg q]
    by_cases q2 : ch bs (sk bs p) = 40
    · rw [if_pos q2]
      have hlt := ch_lt (bs := bs) (p := sk bs p) (by omega)
      have h3 := CRs_b (hN 40 (sk bs p) C (Or.inr rfl) hlt (by omega))
      simp (disch := omega) only [Option.bind_some, if_true, if_false, not_true_eq_false, not_false_eq_true, z0, ii_add, ii_sub, ii_mul, ifLeT, ifLeF, ifLtT, ifLtF, ifEqT, ifEqF, ifNeT, ifNeF, ifIn, nixZ, ii_i64, o0, o1, isInT, isInF, tn14, tn12, tn2, tn21, tn47, tn48, tn49, tn471, tn472, Int.reduceToNat, Int.toNat_natCast, Int.reduceAdd, Int.reduceSub, Int.reduceMul, Int.reduceNeg, Nat.reduceAdd, Nat.reduceSub, Nat.reduceMul, q2]
      cases su with
      | none => exact h3
      | some f => exact h3
    · rw [if_neg q2]
      have h3 := L_cm0 X h (p := sk bs p) (C := C) hk.2 (by omega)
      simp (disch := omega) only [Option.bind_some, if_true, if_false, not_true_eq_false, not_false_eq_true, z0, ii_add, ii_sub, ii_mul, ifLeT, ifLeF, ifLtT, ifLtF, ifEqT, ifEqF, ifNeT, ifNeF, ifIn, nixZ, ii_i64, o0, o1, isInT, isInF, tn14, tn12, tn2, tn21, tn47, tn48, tn49, tn471, tn472, Int.reduceToNat, Int.toNat_natCast, Int.reduceAdd, Int.reduceSub, Int.reduceMul, Int.reduceNeg, Nat.reduceAdd, Nat.reduceSub, Nat.reduceMul]
      exact h3
theorem L_un1 {rc : Nat → Int32 → Int32 → AH → Option (Int32 × AH)} (X : LX bs h0 o) {k dp : Nat} (h : dp + k = 6) {q : Nat} {C D : List Int} (hq : q ≤ bs.length) (hC : (C ++ D).length ≤ q) : CRs h0 o C (u_LR_readUnit rc (ii dp) (ii 1) (LH h0 o q (C ++ D))) (cm2 bs k q D) := by
  have hk := sk_lo hq
  rw [un_form, bind_eq (L_pk X _ hq)]
  have h3 := L_cm1 X h (q := sk bs q) (C := C) (D := D) hk.2 (by omega)
  have e : cm2 bs k (sk bs q) D = cm2 bs k q D := by unfold cm2; rw [sk_sk]
  rw [e] at h3
  simp (disch := omega) only [Option.bind_some, if_true, if_false, not_true_eq_false, not_false_eq_true, z0, ii_add, ii_sub, ii_mul, ifLeT, ifLeF, ifLtT, ifLtF, ifEqT, ifEqF, ifNeT, ifNeF, ifIn, nixZ, ii_i64, o0, o1, isInT, isInF, tn14, tn12, tn2, tn21, tn47, tn48, tn49, tn471, tn472, Int.reduceToNat, Int.toNat_natCast, Int.reduceAdd, Int.reduceSub, Int.reduceMul, Int.reduceNeg, Nat.reduceAdd, Nat.reduceSub, Nat.reduceMul]
  exact h3
theorem mcC_v {c : Int} (h : c ≠ 38) : mcC c = -1 := by unfold mcC; rw [if_neg h]
theorem acC_v {c : Int} (h : c ≠ 124) : acC c = -1 := by unfold acC; rw [if_neg h]
theorem L_coL {rc : Nat → Int32 → Int32 → AH → Option (Int32 × AH)} (X : LX bs h0 o) {a : Nat → PR} (ha : okA bs a) {dp : Nat} (hA : ∀ p C, p ≤ bs.length → C.length ≤ p → CRs h0 o C (rc 1 (ii dp) (ii 0) (LH h0 o p C)) (a p)) (C0 : List Int) : ∀ (m q i n f : Nat) (w : Bool) (D : List Int), bs.length - q ≤ m → q ≤ bs.length → m < n → i + m ≤ 240 → bs.length - q < f → (C0 ++ D).length + (wl (if w then -15 else -1)).length ≤ q → CRs h0 o C0 (LR_readCondition_L18 rc n (ii dp) (bI w) (ii i) (LH h0 o q (C0 ++ D))) (flG bs mcC acC a f (if w then -15 else -1) q D) := by
  have hl := X.2.1.1
  have e8 : ∀ q D, (LH h0 o q D).2.2 8 0 = o := fun q D => LH_22 X
  intro m
  induction m with
  | zero =>
    intro q i n f w D hm hq hn hi hf hC
    obtain ⟨n, rfl⟩ : ∃ z, n = z + 1 := ⟨n - 1, by omega⟩
    obtain ⟨f, rfl⟩ : ∃ z, f = z + 1 := ⟨f - 1, by omega⟩
    have hk := sk_lo hq
    have ec : ch bs (sk bs q) = -1 := ch_ge (by omega)
    have ef : flG bs mcC acC a (f + 1) (if w then -15 else -1) q D = .inr (sk bs q, D ++ wl (if w then -15 else -1)) := by
      unfold flG
      rw [ec, if_neg (by decide), if_neg (by decide)]
    rw [ef]
    cases w with
    | false =>
      simp (disch := omega) only [Option.bind_some, if_true, if_false, not_true_eq_false, not_false_eq_true, z0, ii_add, ii_sub, ii_mul, ifLeT, ifLeF, ifLtT, ifLtF, ifEqT, ifEqF, ifNeT, ifNeF, ifIn, nixZ, ii_i64, o0, o1, isInT, isInF, tn14, tn12, tn2, tn21, tn47, tn48, tn49, tn471, tn472, Int.reduceToNat, Int.toNat_natCast, Int.reduceAdd, Int.reduceSub, Int.reduceMul, Int.reduceNeg, Nat.reduceAdd, Nat.reduceSub, Nat.reduceMul, LR_readCondition_L18, LR_readCondition_L18_b, L_pk X _ hq, ec, show bI false = ii 0 from rfl]
      show _ = some (ii 1, LH h0 o (sk bs q) (C0 ++ (D ++ [])))
      rw [List.append_nil]
    | true =>
      have ewl : wl (if true = true then -15 else -1) = [-15] := rfl
      rw [ewl] at hC ⊢
      simp only [List.length_cons, List.length_nil] at hC
      simp (disch := omega) only [Option.bind_some, if_true, if_false, not_true_eq_false, not_false_eq_true, z0, ii_add, ii_sub, ii_mul, ifLeT, ifLeF, ifLtT, ifLtF, ifEqT, ifEqF, ifNeT, ifNeF, ifIn, nixZ, ii_i64, o0, o1, isInT, isInF, tn14, tn12, tn2, tn21, tn47, tn48, tn49, tn471, tn472, Int.reduceToNat, Int.toNat_natCast, Int.reduceAdd, Int.reduceSub, Int.reduceMul, Int.reduceNeg, Nat.reduceAdd, Nat.reduceSub, Nat.reduceMul, LR_readCondition_L18, LR_readCondition_L18_b, L_pk X _ hq, ec, show bI true = ii 1 from rfl, e8, LH_emit X (p := sk bs q) (C := C0 ++ D) (by omega) (-15)]
      show _ = some (ii 1, LH h0 o (sk bs q) (C0 ++ (D ++ [-15])))
      rw [List.append_assoc]
  | succ m ih =>
    intro q i n f w D hm hq hn hi hf hC
    obtain ⟨n, rfl⟩ : ∃ z, n = z + 1 := ⟨n - 1, by omega⟩
    obtain ⟨f, rfl⟩ : ∃ z, f = z + 1 := ⟨f - 1, by omega⟩
    have hk := sk_lo hq
    have hc := ch_lo X.2.1 (sk bs q)
    obtain ⟨W, hW⟩ : ∃ W : Int, W = if w then -15 else -1 := ⟨_, rfl⟩
    rw [← hW] at hC ⊢
    have hwl := wl_len W
    have ef : flG bs mcC acC a (f + 1) W q D = if mcC (ch bs (sk bs q)) ≠ -1 then andP (a (sk bs q + 1)) (fun r E => flG bs mcC acC a f W r (D ++ E ++ [mcC (ch bs (sk bs q))])) else if acC (ch bs (sk bs q)) ≠ -1 then andP (a (sk bs q + 1)) (fun r E => flG bs mcC acC a f (acC (ch bs (sk bs q))) r (D ++ wl W ++ E)) else .inr (sk bs q, D ++ wl W) := rfl
    rw [ef]
    by_cases q1 : ch bs (sk bs q) = 38
    · have hlt := ch_lt (bs := bs) (p := sk bs q) (by omega)
      have em : mcC (ch bs (sk bs q)) = -14 := by rw [q1]; rfl
      rw [if_pos (by rw [em]; decide), em]
      have hlen : (C0 ++ D).length ≤ sk bs q := by simp only [List.length_append] at hC ⊢; omega
      have h1 := hA (sk bs q + 1) (C0 ++ D) (by omega) (by omega)
      have h2 := ha (sk bs q + 1) (by omega)
      have h3 : CRs h0 o C0 (LR_readCondition_L18 rc (n + 1) (ii dp) (bI w) (ii i) (LH h0 o q (C0 ++ D))) (andP (a (sk bs q + 1)) (fun r E => flG bs mcC acC a f W r (D ++ E ++ [-14]))) := by
        revert h1 h2
        cases a (sk bs q + 1) with
        | inl e =>
          rintro ⟨C', h1⟩ _
          cases w with
          | false =>
            simp (disch := omega) only [Option.bind_some, if_true, if_false, not_true_eq_false, not_false_eq_true, z0, ii_add, ii_sub, ii_mul, ifLeT, ifLeF, ifLtT, ifLtF, ifEqT, ifEqF, ifNeT, ifNeF, ifIn, nixZ, ii_i64, o0, o1, isInT, isInF, tn14, tn12, tn2, tn21, tn47, tn48, tn49, tn471, tn472, Int.reduceToNat, Int.toNat_natCast, Int.reduceAdd, Int.reduceSub, Int.reduceMul, Int.reduceNeg, Nat.reduceAdd, Nat.reduceSub, Nat.reduceMul, LR_readCondition_L18, LR_readCondition_L18_b, L_pk X _ hq, q1, show bI false = ii 0 from rfl, LH_at, LH_inc, h1]
            exact ⟨C', rfl⟩
          | true =>
            simp (disch := omega) only [Option.bind_some, if_true, if_false, not_true_eq_false, not_false_eq_true, z0, ii_add, ii_sub, ii_mul, ifLeT, ifLeF, ifLtT, ifLtF, ifEqT, ifEqF, ifNeT, ifNeF, ifIn, nixZ, ii_i64, o0, o1, isInT, isInF, tn14, tn12, tn2, tn21, tn47, tn48, tn49, tn471, tn472, Int.reduceToNat, Int.toNat_natCast, Int.reduceAdd, Int.reduceSub, Int.reduceMul, Int.reduceNeg, Nat.reduceAdd, Nat.reduceSub, Nat.reduceMul, LR_readCondition_L18, LR_readCondition_L18_b, L_pk X _ hq, q1, show bI true = ii 1 from rfl, LH_at, LH_inc, h1]
            exact ⟨C', rfl⟩
        | inr u =>
          intro h1 h2
          obtain ⟨t1, t2, t3⟩ := h2
          have h1' : rc 1 (ii dp) (ii 0) (LH h0 o (sk bs q + 1) (C0 ++ D)) = some (ii 1, LH h0 o u.1 (C0 ++ D ++ u.2)) := h1
          have hem := LH_emit X (p := u.1) (C := C0 ++ D ++ u.2) (by simp only [List.length_append] at hlen ⊢; omega) (-14)
          have hih := ih u.1 (i + 1) n f w (D ++ u.2 ++ [-14]) (by omega) t2 (by omega) (by omega) (by omega) (by
            rw [← hW]; simp only [List.length_append, List.length_cons, List.length_nil] at hC ⊢; omega)
          rw [andP_r, hW]
          have hih' : CRs h0 o C0 (LR_readCondition_L18 rc n (ii dp) (bI w) (ii ((i : Int) + 1)) (LH h0 o u.1 (C0 ++ D ++ u.2 ++ [-14]))) (flG bs mcC acC a f (if w then -15 else -1) u.1 (D ++ u.2 ++ [-14])) := by
            rw [show C0 ++ D ++ u.2 ++ [-14] = C0 ++ (D ++ u.2 ++ [-14]) by simp only [List.append_assoc]]; exact hih
          cases w with
          | false =>
            simp (disch := omega) only [Option.bind_some, if_true, if_false, not_true_eq_false, not_false_eq_true, z0, ii_add, ii_sub, ii_mul, ifLeT, ifLeF, ifLtT, ifLtF, ifEqT, ifEqF, ifNeT, ifNeF, ifIn, nixZ, ii_i64, o0, o1, isInT, isInF, tn14, tn12, tn2, tn21, tn47, tn48, tn49, tn471, tn472, Int.reduceToNat, Int.toNat_natCast, Int.reduceAdd, Int.reduceSub, Int.reduceMul, Int.reduceNeg, Nat.reduceAdd, Nat.reduceSub, Nat.reduceMul, LR_readCondition_L18, LR_readCondition_L18_b, L_pk X _ hq, q1, show bI false = ii 0 from rfl, LH_at, LH_inc, h1', e8, hem]
            exact hih'
          | true =>
            simp (disch := omega) only [Option.bind_some, if_true, if_false, not_true_eq_false, not_false_eq_true, z0, ii_add, ii_sub, ii_mul, ifLeT, ifLeF, ifLtT, ifLtF, ifEqT, ifEqF, ifNeT, ifNeF, ifIn, nixZ, ii_i64, o0, o1, isInT, isInF, tn14, tn12, tn2, tn21, tn47, tn48, tn49, tn471, tn472, Int.reduceToNat, Int.toNat_natCast, Int.reduceAdd, Int.reduceSub, Int.reduceMul, Int.reduceNeg, Nat.reduceAdd, Nat.reduceSub, Nat.reduceMul, LR_readCondition_L18, LR_readCondition_L18_b, L_pk X _ hq, q1, show bI true = ii 1 from rfl, LH_at, LH_inc, h1', e8, hem]
            exact hih'
      exact h3
    · rw [if_neg (by rw [mcC_v q1]; exact fun z => z rfl)]
      have hlen : (C0 ++ (D ++ wl W)).length ≤ sk bs q := by simp only [List.length_append] at hC ⊢; omega
      by_cases q2 : ch bs (sk bs q) = 124
      · have hlt := ch_lt (bs := bs) (p := sk bs q) (by omega)
        have em : acC (ch bs (sk bs q)) = -15 := by rw [q2]; rfl
        rw [if_pos (by rw [em]; decide), em]
        have h1 := hA (sk bs q + 1) (C0 ++ (D ++ wl W)) (by omega) (by omega)
        have h2 := ha (sk bs q + 1) (by omega)
        revert h1 h2
        cases a (sk bs q + 1) with
        | inl e =>
          rintro ⟨C', h1⟩ _
          cases w with
          | false =>
            rw [hW, show wl (if false = true then -15 else -1) = [] from rfl, List.append_nil] at h1
            simp (disch := omega) only [Option.bind_some, if_true, if_false, not_true_eq_false, not_false_eq_true, z0, ii_add, ii_sub, ii_mul, ifLeT, ifLeF, ifLtT, ifLtF, ifEqT, ifEqF, ifNeT, ifNeF, ifIn, nixZ, ii_i64, o0, o1, isInT, isInF, tn14, tn12, tn2, tn21, tn47, tn48, tn49, tn471, tn472, Int.reduceToNat, Int.toNat_natCast, Int.reduceAdd, Int.reduceSub, Int.reduceMul, Int.reduceNeg, Nat.reduceAdd, Nat.reduceSub, Nat.reduceMul, LR_readCondition_L18, LR_readCondition_L18_b, L_pk X _ hq, q2, show bI false = ii 0 from rfl, LH_at, LH_inc, h1]
            exact ⟨C', rfl⟩
          | true =>
            rw [hW, show wl (if true = true then -15 else -1) = [-15] from rfl, ← List.append_assoc] at h1
            rw [hW, show wl (if true = true then -15 else -1) = [-15] from rfl] at hC
            simp only [List.length_cons, List.length_nil] at hC
            simp (disch := omega) only [Option.bind_some, if_true, if_false, not_true_eq_false, not_false_eq_true, z0, ii_add, ii_sub, ii_mul, ifLeT, ifLeF, ifLtT, ifLtF, ifEqT, ifEqF, ifNeT, ifNeF, ifIn, nixZ, ii_i64, o0, o1, isInT, isInF, tn14, tn12, tn2, tn21, tn47, tn48, tn49, tn471, tn472, Int.reduceToNat, Int.toNat_natCast, Int.reduceAdd, Int.reduceSub, Int.reduceMul, Int.reduceNeg, Nat.reduceAdd, Nat.reduceSub, Nat.reduceMul, LR_readCondition_L18, LR_readCondition_L18_b, L_pk X _ hq, q2, show bI true = ii 1 from rfl, e8, LH_emit X (p := sk bs q) (C := C0 ++ D) (by omega) (-15), LH_at, LH_inc, h1]
            exact ⟨C', rfl⟩
        | inr u =>
          intro h1 h2
          obtain ⟨t1, t2, t3⟩ := h2
          have h1' : rc 1 (ii dp) (ii 0) (LH h0 o (sk bs q + 1) (C0 ++ (D ++ wl W))) = some (ii 1, LH h0 o u.1 (C0 ++ (D ++ wl W) ++ u.2)) := h1
          have hih := ih u.1 (i + 1) n f true (D ++ wl W ++ u.2) (by omega) t2 (by omega) (by omega) (by omega) (by
            rw [show wl (if true = true then -15 else -1) = [-15] from rfl]
            simp only [List.length_append, List.length_cons, List.length_nil] at hlen ⊢; omega)
          have hih' : CRs h0 o C0 (LR_readCondition_L18 rc n (ii dp) (ii 1) (ii ((i : Int) + 1)) (LH h0 o u.1 (C0 ++ (D ++ wl W) ++ u.2))) (flG bs mcC acC a f (-15) u.1 (D ++ wl W ++ u.2)) := by
            rw [List.append_assoc C0]; exact hih
          rw [andP_r]
          cases w with
          | false =>
            rw [hW, show wl (if false = true then -15 else -1) = [] from rfl, List.append_nil] at h1' hih'
            rw [hW, show wl (if false = true then -15 else -1) = [] from rfl, List.append_nil]
            simp (disch := omega) only [Option.bind_some, if_true, if_false, not_true_eq_false, not_false_eq_true, z0, ii_add, ii_sub, ii_mul, ifLeT, ifLeF, ifLtT, ifLtF, ifEqT, ifEqF, ifNeT, ifNeF, ifIn, nixZ, ii_i64, o0, o1, isInT, isInF, tn14, tn12, tn2, tn21, tn47, tn48, tn49, tn471, tn472, Int.reduceToNat, Int.toNat_natCast, Int.reduceAdd, Int.reduceSub, Int.reduceMul, Int.reduceNeg, Nat.reduceAdd, Nat.reduceSub, Nat.reduceMul, LR_readCondition_L18, LR_readCondition_L18_b, L_pk X _ hq, q2, show bI false = ii 0 from rfl, LH_at, LH_inc, h1']
            exact hih'
          | true =>
            rw [hW, show wl (if true = true then -15 else -1) = [-15] from rfl, ← List.append_assoc] at h1' hih'
            rw [hW, show wl (if true = true then -15 else -1) = [-15] from rfl]
            rw [hW, show wl (if true = true then -15 else -1) = [-15] from rfl] at hC
            simp only [List.length_cons, List.length_nil] at hC
            simp (disch := omega) only [Option.bind_some, if_true, if_false, not_true_eq_false, not_false_eq_true, z0, ii_add, ii_sub, ii_mul, ifLeT, ifLeF, ifLtT, ifLtF, ifEqT, ifEqF, ifNeT, ifNeF, ifIn, nixZ, ii_i64, o0, o1, isInT, isInF, tn14, tn12, tn2, tn21, tn47, tn48, tn49, tn471, tn472, Int.reduceToNat, Int.toNat_natCast, Int.reduceAdd, Int.reduceSub, Int.reduceMul, Int.reduceNeg, Nat.reduceAdd, Nat.reduceSub, Nat.reduceMul, LR_readCondition_L18, LR_readCondition_L18_b, L_pk X _ hq, q2, show bI true = ii 1 from rfl, e8, LH_emit X (p := sk bs q) (C := C0 ++ D) (by omega) (-15), LH_at, LH_inc, h1']
            exact hih'
      · rw [if_neg (by rw [acC_v q2]; exact fun z => z rfl)]
        cases w with
        | false =>
          rw [hW, show wl (if false = true then -15 else -1) = [] from rfl, List.append_nil]
          simp (disch := omega) only [Option.bind_some, if_true, if_false, not_true_eq_false, not_false_eq_true, z0, ii_add, ii_sub, ii_mul, ifLeT, ifLeF, ifLtT, ifLtF, ifEqT, ifEqF, ifNeT, ifNeF, ifIn, nixZ, ii_i64, o0, o1, isInT, isInF, tn14, tn12, tn2, tn21, tn47, tn48, tn49, tn471, tn472, Int.reduceToNat, Int.toNat_natCast, Int.reduceAdd, Int.reduceSub, Int.reduceMul, Int.reduceNeg, Nat.reduceAdd, Nat.reduceSub, Nat.reduceMul, LR_readCondition_L18, LR_readCondition_L18_b, L_pk X _ hq, show bI false = ii 0 from rfl]
          rfl
        | true =>
          rw [hW, show wl (if true = true then -15 else -1) = [-15] from rfl] at hC ⊢
          simp only [List.length_cons, List.length_nil] at hC
          simp (disch := omega) only [Option.bind_some, if_true, if_false, not_true_eq_false, not_false_eq_true, z0, ii_add, ii_sub, ii_mul, ifLeT, ifLeF, ifLtT, ifLtF, ifEqT, ifEqF, ifNeT, ifNeF, ifIn, nixZ, ii_i64, o0, o1, isInT, isInF, tn14, tn12, tn2, tn21, tn47, tn48, tn49, tn471, tn472, Int.reduceToNat, Int.toNat_natCast, Int.reduceAdd, Int.reduceSub, Int.reduceMul, Int.reduceNeg, Nat.reduceAdd, Nat.reduceSub, Nat.reduceMul, LR_readCondition_L18, LR_readCondition_L18_b, L_pk X _ hq, show bI true = ii 1 from rfl, e8, LH_emit X (p := sk bs q) (C := C0 ++ D) (by omega) (-15)]
          show _ = some (ii 1, LH h0 o (sk bs q) (C0 ++ (D ++ [-15])))
          rw [List.append_assoc]
end LR2
