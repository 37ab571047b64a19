/-! the reference reads a heath: all clauses -/
section RP
variable {bs : List Int} {H : Nat → Int} {g g0 g1 : AH} {m : Nat}
theorem R_cl1 (ok : okB bs) {κ n q : Nat} {dp : Int} (hm : m ≤ 4) (hk : κ < 5) (hk1 : κ ≠ 1) (hn : n < cpM κ) (e : H (ciM κ) = n) (hp : HP H m) (hq : q ≤ bs.length) (X : GX bs 81 0 g1) (R : RB H g1) : RCo bs g1 dp (f_R_readItems (ii (kcM κ)) (lgM κ) (86 + 2 * κ) (ii (rwM κ n)) (κ + 1) (GH (wI g1 80 (ctM κ) (ii ((n : Int) + 1))) q (-1) dp)) (clB bs κ n q (beg H κ n)) := by
  have F0 : R8 g1 (wI g1 80 (ctM κ) (ii ((n : Int) + 1))) := R8.wc (ct_lo hk)
  have it := R_items ok (κ := κ) (n := n) (q := q) (dp := dp) hm hk hn e hp hq (X.r8 F0) (R.ct hk)
  have io := itF_ok ok (n := n) (m := m) hm hk 7 (fun _ => false) q (beg H κ n) hq (by decide) (hp.bg hm hk hn e) ((beg_vld hk hk hn e).mpr (Or.inr ⟨rfl, rfl⟩))
  refine RCo.tr F0 ?_
  unfold clB
  generalize itF bs κ n 7 (fun _ => false) q (beg H κ n) = r at *
  rcases r with e | ⟨p, H'⟩
  · exact it
  · obtain ⟨g2, z1, z2, z3⟩ := it
    simp only at io ⊢
    rw [if_neg hk1]
    exact Or.inl ⟨g2, p, rfl, io.2.1, z1, z2, z3⟩
theorem sp0_v : ∀ c : Nat, c < 256 → (spM 0 c = 0 → c = 115) ∧ (spM 0 c = 1 → c = 118) ∧ (spM 0 c = 2 → c = 105) ∧ (spM 0 c = 3 → c = 107) ∧ (spM 0 c = 4 → c = 102) ∧ (spM 0 c = -1 → c ≠ 115 ∧ c ≠ 118 ∧ c ≠ 105 ∧ c ≠ 107 ∧ c ≠ 102) := by decide +kernel
theorem R_clause (ok : okB bs) {q : Nat} {dp : Int} (hq : q ≤ bs.length) (hp : HP H (H 4).toNat) (X : GX bs 81 0 g1) (R : RB H g1) : RCo bs g1 dp (f_R_readClause (GH g1 q (-1) dp)) (clF bs q H) := by
  have hl := ok.1
  have hs := sk_lo hq
  have hsp := sp0_lo (ch bs (sk bs q))
  have e1 := G_lk X (ft := -1) (dp := dp) hq
  have hn := hp_n hp
  have h8 : 0 ≤ H 8 ∧ H 8 ≤ 1 := hp.1 0 (by omega)
  have c40 : (GH g1 (sk bs q) (-1) dp).1 80 40 = ii (H 8) := (R 0 (by omega)).2
  have c35 : (GH g1 (sk bs q) (-1) dp).1 80 35 = ii (H 4) := (R 1 (by omega)).2
  have c36 : (GH g1 (sk bs q) (-1) dp).1 80 36 = ii (H 5) := (R 2 (by omega)).2
  have c37 : (GH g1 (sk bs q) (-1) dp).1 80 37 = ii (H 6) := (R 3 (by omega)).2
  have c38 : (GH g1 (sk bs q) (-1) dp).1 80 38 = ii (H 7) := (R 4 (by omega)).2
  have hc := ch_lo ok (sk bs q)
  have at1 : wI (GH g1 (sk bs q) (-1) dp) 80 10 ((GH g1 (sk bs q) (-1) dp).1 80 10 + ii 1) = GH g1 (sk bs q + 1) (-1) dp := by rw [GH_a, ii_add, GH_inc]
  have cw : ∀ j v, j ≠ 10 → j ≠ 11 → j ≠ 12 → wI (GH g1 (sk bs q + 1) (-1) dp) 80 j v = GH (wI g1 80 j v) (sk bs q + 1) (-1) dp := fun j v a b c => GH_w80 a b c
  have cr : ∀ j v, j ≠ 10 → j ≠ 11 → j ≠ 12 → (GH (wI g1 80 j v) (sk bs q + 1) (-1) dp).1 80 j = v := fun j v a b c => by rw [GH_80, if_neg a, if_neg b, if_neg c, wI_self, upd_self]
  have d36 : (GH g1 (sk bs q + 1) (-1) dp).1 80 36 = ii (H 5) := (R 2 (by omega)).2
  have d37 : (GH g1 (sk bs q + 1) (-1) dp).1 80 37 = ii (H 6) := (R 3 (by omega)).2
  have d38 : (GH g1 (sk bs q + 1) (-1) dp).1 80 38 = ii (H 7) := (R 4 (by omega)).2
  unfold clF
  by_cases q1 : spM 0 (ch bs (sk bs q)) = -1
  · rw [if_pos q1]
    have hcs : ch bs (sk bs q) ≠ 115 ∧ ch bs (sk bs q) ≠ 118 ∧ ch bs (sk bs q) ≠ 105 ∧ ch bs (sk bs q) ≠ 107 ∧ ch bs (sk bs q) ≠ 102 := by
      rcases hc with z | z
      · omega
      · obtain ⟨c, hcc⟩ := Int.eq_ofNat_of_zero_le (show 0 ≤ ch bs (sk bs q) by omega)
        rw [hcc] at q1 ⊢
        have := (sp0_v c (by omega)).2.2.2.2.2 q1
        omega
    obtain ⟨a1, a2, a3, a4, a5⟩ := hcs
    refine ⟨g1, sk bs q, ?_, R8.rf _⟩
    unfold f_R_readClause
    rw [bind_eq e1]
    simp (disch := omega) only [Option.bind_some, if_true, if_false, not_true_eq_false, not_false_eq_true, z0, ii_add, ii_sub, ii_mul, ifLeT, ifLeF, ifLtT, ifLtF, ifEqT, ifEqF, ifNeT, ifNeF, ifIn, nixZ, ii_i64, o0, o1, isInT, isInF, tn14, tn12, tn2, tn21, tn47, tn48, tn49, tn471, tn472, Int.reduceToNat, Int.toNat_natCast, Int.reduceAdd, Int.reduceSub, Int.reduceMul, Int.reduceNeg, Nat.reduceAdd, Nat.reduceSub, Nat.reduceMul, G_fl]
  · rw [if_neg q1]
    have hne : ch bs (sk bs q) ≠ -1 := fun z => q1 (by rw [z]; exact sp_m1 _ (by omega))
    have hlt := ch_lt hne
    obtain ⟨c, hcc⟩ := Int.eq_ofNat_of_zero_le (show 0 ≤ ch bs (sk bs q) by omega)
    obtain ⟨κ, hκ⟩ := Int.eq_ofNat_of_zero_le (show 0 ≤ spM 0 (ch bs (sk bs q)) by omega)
    have sv := sp0_v c (by omega)
    rw [← hcc, hκ] at sv
    rw [hκ] at hsp ⊢
    rw [Int.toNat_natCast]
    have hk : κ < 5 := by omega
    rcases k5 hk with z | z | z | z | z <;> subst z
    · have ec : ch bs (sk bs q) = 115 := by have := sv.1 rfl; omega
      rw [ec] at e1
      show RCo bs g1 dp _ (if H 8 < ((1 : Nat) : Int) then _ else _)
      by_cases q2 : H 8 < ((1 : Nat) : Int)
      · have h80 : H 8 = ((0 : Nat) : Int) := by omega
        rw [if_pos q2, show (H (ciM 0)).toNat = 0 by show (H 8).toNat = 0; omega]
        have key := R_cl1 ok (κ := 0) (n := 0) (q := sk bs q + 1) (dp := dp) (by omega) (by omega) (by omega) (by decide) (show H (ciM 0) = ((0 : Nat) : Int) from h80) hp (by omega) X R
        have est : f_R_readClause (GH g1 q (-1) dp) = f_R_readItems (ii 115) 4 86 (ii 0) 1 (GH (wI g1 80 40 (ii 1)) (sk bs q + 1) (-1) dp) := by
          unfold f_R_readClause
          rw [bind_eq e1]
          simp only [at1, cw 40 (ii 1) (by decide) (by decide) (by decide)]
          simp (disch := omega) only [Option.bind_some, if_true, if_false, not_true_eq_false, not_false_eq_true, z0, ii_add, ii_sub, ii_mul, ifLeT, ifLeF, ifLtT, ifLtF, ifEqT, ifEqF, ifNeT, ifNeF, ifIn, nixZ, ii_i64, o0, o1, isInT, isInF, tn14, tn12, tn2, tn21, tn47, tn48, tn49, tn471, tn472, Int.reduceToNat, Int.toNat_natCast, Int.reduceAdd, Int.reduceSub, Int.reduceMul, Int.reduceNeg, Nat.reduceAdd, Nat.reduceSub, Nat.reduceMul, c40]
          cases f_R_readItems (ii 115) 4 86 (ii 0) 1 (GH (wI g1 80 40 (ii 1)) (sk bs q + 1) (-1) dp) <;> rfl
        rw [est]
        exact key
      · rw [if_neg q2]
        refine ⟨g1, sk bs q, ?_, R8.rf _⟩
        unfold f_R_readClause
        rw [bind_eq e1]
        simp (disch := omega) only [Option.bind_some, if_true, if_false, not_true_eq_false, not_false_eq_true, z0, ii_add, ii_sub, ii_mul, ifLeT, ifLeF, ifLtT, ifLtF, ifEqT, ifEqF, ifNeT, ifNeF, ifIn, nixZ, ii_i64, o0, o1, isInT, isInF, tn14, tn12, tn2, tn21, tn47, tn48, tn49, tn471, tn472, Int.reduceToNat, Int.toNat_natCast, Int.reduceAdd, Int.reduceSub, Int.reduceMul, Int.reduceNeg, Nat.reduceAdd, Nat.reduceSub, Nat.reduceMul, G_fl, c40]
    · have ec : ch bs (sk bs q) = 118 := by have := sv.2.1 rfl; omega
      rw [ec] at e1
      show RCo bs g1 dp _ (if H 4 < ((4 : Nat) : Int) then _ else _)
      by_cases q2 : H 4 < ((4 : Nat) : Int)
      · obtain ⟨n, hn'⟩ := Int.eq_ofNat_of_zero_le hn.1.1
        have hnt : (H 4).toNat = n := by omega
        rw [if_pos q2, show (H (ciM 1)).toNat = n from hnt]
        rw [hnt] at hp
        have key := R_vein ok (n := n) (q := sk bs q + 1) (dp := dp) (by omega) hn' hp (by omega) X R
        have est : f_R_readClause (GH g1 q (-1) dp) = f_R_readVein (GH g1 (sk bs q + 1) (-1) dp) := by
          unfold f_R_readClause
          rw [bind_eq e1]
          simp only [at1]
          simp (disch := omega) only [Option.bind_some, if_true, if_false, not_true_eq_false, not_false_eq_true, z0, ii_add, ii_sub, ii_mul, ifLeT, ifLeF, ifLtT, ifLtF, ifEqT, ifEqF, ifNeT, ifNeF, ifIn, nixZ, ii_i64, o0, o1, isInT, isInF, tn14, tn12, tn2, tn21, tn47, tn48, tn49, tn471, tn472, Int.reduceToNat, Int.toNat_natCast, Int.reduceAdd, Int.reduceSub, Int.reduceMul, Int.reduceNeg, Nat.reduceAdd, Nat.reduceSub, Nat.reduceMul, c35]
          cases f_R_readVein (GH g1 (sk bs q + 1) (-1) dp) <;> rfl
        rw [est]
        exact key
      · rw [if_neg q2]
        refine ⟨g1, sk bs q, ?_, R8.rf _⟩
        unfold f_R_readClause
        rw [bind_eq e1]
        simp (disch := omega) only [Option.bind_some, if_true, if_false, not_true_eq_false, not_false_eq_true, z0, ii_add, ii_sub, ii_mul, ifLeT, ifLeF, ifLtT, ifLtF, ifEqT, ifEqF, ifNeT, ifNeF, ifIn, nixZ, ii_i64, o0, o1, isInT, isInF, tn14, tn12, tn2, tn21, tn47, tn48, tn49, tn471, tn472, Int.reduceToNat, Int.toNat_natCast, Int.reduceAdd, Int.reduceSub, Int.reduceMul, Int.reduceNeg, Nat.reduceAdd, Nat.reduceSub, Nat.reduceMul, G_fl, c35]
    · have ec : ch bs (sk bs q) = 105 := by have := sv.2.2.1 rfl; omega
      rw [ec] at e1
      show RCo bs g1 dp _ (if H 5 < ((6 : Nat) : Int) then _ else _)
      by_cases q2 : H 5 < ((6 : Nat) : Int)
      · obtain ⟨n, hn'⟩ := Int.eq_ofNat_of_zero_le hn.2.1.1
        rw [if_pos q2, show (H (ciM 2)).toNat = n by show (H 5).toNat = n; omega]
        have key := R_cl1 ok (κ := 2) (n := n) (q := sk bs q + 1) (dp := dp) (by omega) (by omega) (by omega) (show n < 6 by omega) (show H (ciM 2) = (n : Int) from hn') hp (by omega) X R
        have er : (ii 2) * (ii ((n : Int) + 1) - (ii 1)) = ii ((2 * n : Nat) : Int) := by rw [ii_sub, ii_mul]; congr 1; omega
        have est : f_R_readClause (GH g1 q (-1) dp) = f_R_readItems (ii 105) 12 90 (ii ((2 * n : Nat) : Int)) 3 (GH (wI g1 80 36 (ii ((n : Int) + 1))) (sk bs q + 1) (-1) dp) := by
          unfold f_R_readClause
          rw [bind_eq e1]
          simp only [at1, d36, hn', ii_add, cw 36 _ (by decide) (by decide) (by decide), cr 36 _ (by decide) (by decide) (by decide), er]
          rw [hn'] at c36
          simp (disch := omega) only [Option.bind_some, if_true, if_false, not_true_eq_false, not_false_eq_true, z0, ii_add, ii_sub, ii_mul, ifLeT, ifLeF, ifLtT, ifLtF, ifEqT, ifEqF, ifNeT, ifNeF, ifIn, nixZ, ii_i64, o0, o1, isInT, isInF, tn14, tn12, tn2, tn21, tn47, tn48, tn49, tn471, tn472, Int.reduceToNat, Int.toNat_natCast, Int.reduceAdd, Int.reduceSub, Int.reduceMul, Int.reduceNeg, Nat.reduceAdd, Nat.reduceSub, Nat.reduceMul, c36]
          cases f_R_readItems (ii 105) 12 90 (ii ((2 * n : Nat) : Int)) 3 (GH (wI g1 80 36 (ii ((n : Int) + 1))) (sk bs q + 1) (-1) dp) <;> rfl
        rw [est]
        exact key
      · rw [if_neg q2]
        refine ⟨g1, sk bs q, ?_, R8.rf _⟩
        unfold f_R_readClause
        rw [bind_eq e1]
        simp (disch := omega) only [Option.bind_some, if_true, if_false, not_true_eq_false, not_false_eq_true, z0, ii_add, ii_sub, ii_mul, ifLeT, ifLeF, ifLtT, ifLtF, ifEqT, ifEqF, ifNeT, ifNeF, ifIn, nixZ, ii_i64, o0, o1, isInT, isInF, tn14, tn12, tn2, tn21, tn47, tn48, tn49, tn471, tn472, Int.reduceToNat, Int.toNat_natCast, Int.reduceAdd, Int.reduceSub, Int.reduceMul, Int.reduceNeg, Nat.reduceAdd, Nat.reduceSub, Nat.reduceMul, G_fl, c36]
    · have ec : ch bs (sk bs q) = 107 := by have := sv.2.2.2.1 rfl; omega
      rw [ec] at e1
      show RCo bs g1 dp _ (if H 6 < ((6 : Nat) : Int) then _ else _)
      by_cases q2 : H 6 < ((6 : Nat) : Int)
      · obtain ⟨n, hn'⟩ := Int.eq_ofNat_of_zero_le hn.2.2.1.1
        rw [if_pos q2, show (H (ciM 3)).toNat = n by show (H 6).toNat = n; omega]
        have key := R_cl1 ok (κ := 3) (n := n) (q := sk bs q + 1) (dp := dp) (by omega) (by omega) (by omega) (show n < 6 by omega) (show H (ciM 3) = (n : Int) from hn') hp (by omega) X R
        have er : (ii 2) * (ii ((n : Int) + 1) - (ii 1)) = ii ((2 * n : Nat) : Int) := by rw [ii_sub, ii_mul]; congr 1; omega
        have est : f_R_readClause (GH g1 q (-1) dp) = f_R_readItems (ii 107) 12 92 (ii ((2 * n : Nat) : Int)) 4 (GH (wI g1 80 37 (ii ((n : Int) + 1))) (sk bs q + 1) (-1) dp) := by
          unfold f_R_readClause
          rw [bind_eq e1]
          simp only [at1, d37, hn', ii_add, cw 37 _ (by decide) (by decide) (by decide), cr 37 _ (by decide) (by decide) (by decide), er]
          rw [hn'] at c37
          simp (disch := omega) only [Option.bind_some, if_true, if_false, not_true_eq_false, not_false_eq_true, z0, ii_add, ii_sub, ii_mul, ifLeT, ifLeF, ifLtT, ifLtF, ifEqT, ifEqF, ifNeT, ifNeF, ifIn, nixZ, ii_i64, o0, o1, isInT, isInF, tn14, tn12, tn2, tn21, tn47, tn48, tn49, tn471, tn472, Int.reduceToNat, Int.toNat_natCast, Int.reduceAdd, Int.reduceSub, Int.reduceMul, Int.reduceNeg, Nat.reduceAdd, Nat.reduceSub, Nat.reduceMul, c37]
          cases f_R_readItems (ii 107) 12 92 (ii ((2 * n : Nat) : Int)) 4 (GH (wI g1 80 37 (ii ((n : Int) + 1))) (sk bs q + 1) (-1) dp) <;> rfl
        rw [est]
        exact key
      · rw [if_neg q2]
        refine ⟨g1, sk bs q, ?_, R8.rf _⟩
        unfold f_R_readClause
        rw [bind_eq e1]
        simp (disch := omega) only [Option.bind_some, if_true, if_false, not_true_eq_false, not_false_eq_true, z0, ii_add, ii_sub, ii_mul, ifLeT, ifLeF, ifLtT, ifLtF, ifEqT, ifEqF, ifNeT, ifNeF, ifIn, nixZ, ii_i64, o0, o1, isInT, isInF, tn14, tn12, tn2, tn21, tn47, tn48, tn49, tn471, tn472, Int.reduceToNat, Int.toNat_natCast, Int.reduceAdd, Int.reduceSub, Int.reduceMul, Int.reduceNeg, Nat.reduceAdd, Nat.reduceSub, Nat.reduceMul, G_fl, c37]
    · have ec : ch bs (sk bs q) = 102 := by have := sv.2.2.2.2.1 rfl; omega
      rw [ec] at e1
      show RCo bs g1 dp _ (if H 7 < ((6 : Nat) : Int) then _ else _)
      by_cases q2 : H 7 < ((6 : Nat) : Int)
      · obtain ⟨n, hn'⟩ := Int.eq_ofNat_of_zero_le hn.2.2.2.1
        rw [if_pos q2, show (H (ciM 4)).toNat = n by show (H 7).toNat = n; omega]
        have key := R_cl1 ok (κ := 4) (n := n) (q := sk bs q + 1) (dp := dp) (by omega) (by omega) (by omega) (show n < 6 by omega) (show H (ciM 4) = (n : Int) from hn') hp (by omega) X R
        have er : (ii 6) * (ii ((n : Int) + 1) - (ii 1)) = ii ((6 * n : Nat) : Int) := by rw [ii_sub, ii_mul]; congr 1; omega
        have est : f_R_readClause (GH g1 q (-1) dp) = f_R_readItems (ii 102) 36 94 (ii ((6 * n : Nat) : Int)) 5 (GH (wI g1 80 38 (ii ((n : Int) + 1))) (sk bs q + 1) (-1) dp) := by
          unfold f_R_readClause
          rw [bind_eq e1]
          simp only [at1, d38, hn', ii_add, cw 38 _ (by decide) (by decide) (by decide), cr 38 _ (by decide) (by decide) (by decide), er]
          rw [hn'] at c38
          simp (disch := omega) only [Option.bind_some, if_true, if_false, not_true_eq_false, not_false_eq_true, z0, ii_add, ii_sub, ii_mul, ifLeT, ifLeF, ifLtT, ifLtF, ifEqT, ifEqF, ifNeT, ifNeF, ifIn, nixZ, ii_i64, o0, o1, isInT, isInF, tn14, tn12, tn2, tn21, tn47, tn48, tn49, tn471, tn472, Int.reduceToNat, Int.toNat_natCast, Int.reduceAdd, Int.reduceSub, Int.reduceMul, Int.reduceNeg, Nat.reduceAdd, Nat.reduceSub, Nat.reduceMul, c38]
          cases f_R_readItems (ii 102) 36 94 (ii ((6 * n : Nat) : Int)) 5 (GH (wI g1 80 38 (ii ((n : Int) + 1))) (sk bs q + 1) (-1) dp) <;> rfl
        rw [est]
        exact key
      · rw [if_neg q2]
        refine ⟨g1, sk bs q, ?_, R8.rf _⟩
        unfold f_R_readClause
        rw [bind_eq e1]
        simp (disch := omega) only [Option.bind_some, if_true, if_false, not_true_eq_false, not_false_eq_true, z0, ii_add, ii_sub, ii_mul, ifLeT, ifLeF, ifLtT, ifLtF, ifEqT, ifEqF, ifNeT, ifNeF, ifIn, nixZ, ii_i64, o0, o1, isInT, isInF, tn14, tn12, tn2, tn21, tn47, tn48, tn49, tn471, tn472, Int.reduceToNat, Int.toNat_natCast, Int.reduceAdd, Int.reduceSub, Int.reduceMul, Int.reduceNeg, Nat.reduceAdd, Nat.reduceSub, Nat.reduceMul, G_fl, c38]
end RP
