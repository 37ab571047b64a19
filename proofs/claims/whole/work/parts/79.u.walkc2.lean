/-! the class reads walks: all stretches -/
section WD
variable {bs : List Int} {h0 h h1 : AH} {o : Nat}
def WO (bs : List Int) (h0 : AH) (o : Nat) (x : Option (Int32 × AH)) (r : Nat ⊕ List (Nat × Nat)) : Prop := match r with
  | .inl e => ∃ h1 A, x = some (ii 0, h1) ∧ WX bs h0 o e A h1
  | .inr A => ∃ h1 p, x = some (ii 1, h1) ∧ WX bs h0 o p A h1
theorem C_tl (ok : okB bs) (t : TP 1 1 2 ii h0 bs) (ho : 70 ≤ o) (e9 : h0.2.2 9 0 = o) {ac : List (Nat × Nat)} (hac : ac.length + 8 ≤ 64) {q k : Nat} (hq : q ≤ bs.length) (X : WX bs h0 o q ac h) {rec : AH → Option (Int32 × AH)} (hr : ∀ p A h', p ≤ bs.length → sk bs p = p → A.length ≤ ac.length + 8 → WX bs h0 o p A h' → WO bs h0 o (rec h') (if ch bs p = 59 ∧ k ≠ 0 then stF bs k (p + 1) A else .inl p)) : WO bs h0 o ((f_WR_readStretch h).bind fun q1 => if q1.1 = 0 then some ((ii 0), q1.2) else (f_Tape_peek q1.2).bind fun q2 => if q2.1 = (ii (-1)) then some ((ii 1), q2.2) else rec q2.2) (stF bs (k + 1) q ac) := by
  have hk := sk_lo hq
  have s1 := C_st1 ok t ho e9 hac hq X
  unfold stF
  by_cases q1 : 48 ≤ ch bs (sk bs q) ∧ ch bs (sk bs q) ≤ 57
  · rw [if_pos q1] at s1 ⊢
    have hlt : sk bs q < bs.length := ch_lt (by omega)
    have ow := wyF_ok (ok := ok) 8 (sk bs q + 1) [] (by omega) (by simp) (by simp)
    generalize wyF bs 8 (sk bs q + 1) [] = r at *
    rcases r with e | ⟨p, ws⟩
    · obtain ⟨h1, A, z1, z2⟩ := s1
      refine ⟨h1, A, ?_, z2⟩
      rw [bind_eq z1]
      rfl
    · obtain ⟨h1, z1, z2⟩ := s1
      have hp := sk_lo ow.1
      have e1 := C_pk ok (z2.tp ho t) z2.2.2.2.1 ow.1
      have X1 := z2.at (p := sk bs p) ho
      have hcl := ch_lo ok (sk bs p)
      rw [bind_eq z1]
      simp only
      rw [if_neg (show ¬ ii 1 = 0 by decide), bind_eq e1]
      simp only
      by_cases q2 : ch bs (sk bs p) = -1
      · rw [if_pos q2, q2, if_pos rfl]
        exact ⟨_, _, rfl, X1⟩
      · rw [if_neg q2, if_neg (by rw [ii_eq (by omega) (by omega) (by omega) (by omega)]; exact q2)]
        exact hr (sk bs p) _ _ hp.2 (sk_sk p) (by rw [List.length_append, pr2_len]; omega) X1
  · rw [if_neg q1] at s1 ⊢
    obtain ⟨h1, A, z1, z2⟩ := s1
    refine ⟨h1, A, ?_, z2⟩
    rw [bind_eq z1]
    rfl
theorem C_sts (ok : okB bs) (t : TP 1 1 2 ii h0 bs) (ho : 70 ≤ o) (e9 : h0.2.2 9 0 = o) : ∀ (k q : Nat) (ac : List (Nat × Nat)) (i n : Nat) (h : AH), i + k = 8 → 1 ≤ i → q ≤ bs.length → sk bs q = q → ac.length ≤ 8 * i → k < n → WX bs h0 o q ac h → WO bs h0 o (WR_readStretches_L2 n (ii i) h) (if ch bs q = 59 ∧ k ≠ 0 then stF bs k (q + 1) ac else .inl q)
  | 0, q, ac, i, n + 1, h, hi, hi1, hq, hsk, hac, hn, X => by
    rw [if_neg (by omega)]
    have : i = 8 := by omega
    rw [this]
    refine ⟨h, ac, ?_, X⟩
    simp (disch := omega) only [Option.bind_some, if_true, if_false, not_true_eq_false, not_false_eq_true, z0, ii_add, ii_sub, ii_mul, ifLeT, ifLeF, ifLtT, ifLtF, ifEqT, ifEqF, ifNeT, ifNeF, ifIn, nixZ, ii_i64, o0, o1, isInT, isInF, tn14, tn12, tn2, tn21, tn47, tn48, tn49, tn471, tn472, Int.reduceToNat, Int.toNat_natCast, Int.reduceAdd, Int.reduceSub, Int.reduceMul, Int.reduceNeg, Nat.reduceAdd, Nat.reduceSub, Nat.reduceMul, WR_readStretches_L2, WR_readStretches_L2_b, Int.cast_ofNat_Int]
  | k + 1, q, ac, i, n + 1, h, hi, hi1, hq, hsk, hac, hn, X => by
    have e1 := C_take ok (X.tp ho t) X.2.2.2.1 hq (c := 59) (by omega) (by omega)
    rw [hsk] at e1
    have est : WR_readStretches_L2 (n + 1) (ii i) h = (f_Tape_take (ii 59) h).bind fun q3 => if q3.1 = 0 then some ((ii 0), q3.2) else (f_WR_readStretch q3.2).bind fun q4 => if q4.1 = 0 then some ((ii 0), q4.2) else (f_Tape_peek q4.2).bind fun q5 => if q5.1 = (ii (-1)) then some ((ii 1), q5.2) else WR_readStretches_L2 n (ii (i + 1 : Nat)) q5.2 := by
      show WR_readStretches_L2_b _ _ _ = _
      unfold WR_readStretches_L2_b
      rw [if_neg (by rw [ii_le (by omega) (by omega) (by omega) (by omega)]; omega), if_neg (by rw [z0, ii_le (by omega) (by omega) (by omega) (by omega)]; omega), ii_sc]
    rw [est]
    by_cases q1 : ch bs q = 59
    · have hlt : q < bs.length := ch_lt (by omega)
      rw [if_pos q1] at e1
      rw [if_pos ⟨q1, by omega⟩, bind_eq e1]
      simp only
      rw [if_neg (show ¬ ii 1 = 0 by decide)]
      exact C_tl ok t ho e9 (by omega) (by omega) (X.at (p := q + 1) ho) (fun p A h' p1 p2 p3 p4 => C_sts ok t ho e9 k p A (i + 1) n h' (by omega) (by omega) p1 p2 (by omega) (by omega) p4)
    · rw [if_neg q1] at e1
      rw [if_neg (fun z => q1 z.1), bind_eq e1]
      exact ⟨_, _, rfl, X.at ho⟩
/-- the fault of walks; and what was read -/
theorem C_wfault (ok : okB bs) (t : TP 1 1 2 ii h bs) (ho : 70 ≤ o) (e9 : h.2.2 9 0 = o) : (match stF bs 8 0 [] with
    | .inl e => ∃ h1 A, f_WR_faultOf h = some (ii e, h1) ∧ WX bs h o e A h1
    | .inr A => ∃ h1 p, f_WR_faultOf h = some (ii (-1), h1) ∧ WX bs h o p A h1) := by
  have hFU := fu_1000
  have X : WX bs h o 0 [] (wI (wI h 1 2 (ii 0)) o 1 (ii 0)) := by
    refine ⟨fun x a b c => by rw [wI_ne b, wI_ne a], rfl, fun j hj => by rw [wI_ne (by omega), wI_self, upd_ne hj], by rw [wI_ne (by omega), wI_self, upd_self]; rfl, by rw [wI_self, upd_self]; rfl, fun j hj => absurd hj (by simp)⟩
  have key : WO bs h o (f_WR_readStretches (wI (wI h 1 2 (ii 0)) o 1 (ii 0))) (stF bs 8 0 []) := by
    unfold f_WR_readStretches
    obtain ⟨F, hF⟩ : ∃ F, FU = F + 1 := ⟨FU - 1, by omega⟩
    rw [hF]
    have est : ∀ x, WR_readStretches_L2 (F + 1) (ii 0) x = (f_WR_readStretch x).bind fun q4 => if q4.1 = 0 then some ((ii 0), q4.2) else (f_Tape_peek q4.2).bind fun q5 => if q5.1 = (ii (-1)) then some ((ii 1), q5.2) else WR_readStretches_L2 F (ii (0 + 1 : Nat)) q5.2 := fun x => by
      show WR_readStretches_L2_b _ _ _ = _
      unfold WR_readStretches_L2_b
      rw [if_neg (by decide), if_pos (by decide)]
      rfl
    rw [est]
    exact C_tl ok t ho e9 (by simp) (Nat.zero_le _) X (fun p A h' p1 p2 p3 p4 => C_sts ok t ho e9 7 p A (0 + 1) F h' (by omega) (by omega) p1 p2 (by simp at p3; omega) (by omega) p4)
  have e9' : (wI h 1 2 (ii 0)).2.2 9 0 = o := e9
  unfold f_WR_faultOf
  rw [e9']
  generalize stF bs 8 0 [] = r at *
  rcases r with e | A
  · obtain ⟨h1, A, z1, z2⟩ := key
    refine ⟨h1, A, ?_, z2⟩
    rw [bind_eq z1]
    simp only
    rw [if_pos i00, z2.2.2.2.1]
  · obtain ⟨h1, p, z1, z2⟩ := key
    refine ⟨h1, p, ?_, z2⟩
    rw [bind_eq z1]
    rfl
end WD
