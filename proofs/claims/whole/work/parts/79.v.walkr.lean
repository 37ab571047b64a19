/-! walks told: the reference's reader -/
section WR
variable {bs : List Int} {g g0 g1 : AH} {T b0 : Nat}
theorem R_spot {o : Nat} (ho : o < 10) (ho8 : o ≠ 8) {c : Int} {g : AH} : f_R_spotOf o (ii c) g = some (ii (spM o c)) := by
  have h1 : stL o ≤ 6 ∧ stL o ≤ 100 := by
    by_cases q : o < 8
    · have := st_6 o q; omega
    · have : o = 9 := by omega
      subst this; rw [st_9]; omega
  have e3 : p_Str_length o = ii (stL o) := by
    unfold p_Str_length p_Str_coder
    have : ∀ k : Nat, k < 7 → shrI (ii k) 0 = ii k := by decide +kernel
    exact this (stL o) (by omega)
  unfold f_R_spotOf
  refine lup (fun m k (_ : Unit) => R_spotOf_L2 m o (ii c) (ii k) g) (stL o) (fun k _ => idxF (am_str.getD o []) (ii c) (stL o - k) k = spM o c) (fun y => y = some (ii (spM o c))) ?_ ?_ (stL o) 0 FU () (by omega) (by unfold FU; omega) rfl
  · rintro m _ r
    rw [Nat.sub_self] at r
    have : spM o c = -1 := by rw [← r]; rfl
    rw [this]
    simp (disch := omega) only [Option.bind_some, if_true, if_false, not_true_eq_false, not_false_eq_true, z0, ii_add, ii_sub, ii_mul, ifLeT, ifLeF, ifLtT, ifLtF, ifEqT, ifEqF, ifNeT, ifNeF, ifIn, nixZ, ii_i64, o0, o1, isInT, isInF, tn14, tn12, tn2, tn21, tn47, tn48, tn49, tn471, tn472, Int.reduceToNat, Int.toNat_natCast, Int.reduceAdd, Int.reduceSub, Int.reduceMul, Int.reduceNeg, Nat.reduceAdd, Nat.reduceSub, Nat.reduceMul, R_spotOf_L2, R_spotOf_L2_b, e3]
  · rintro m k _ hk r
    rw [show stL o - k = (stL o - (k + 1)) + 1 by omega, idxF_s] at r
    by_cases q : (am_str.getD o []).getD k (ii 0) = ii c
    · left
      rw [if_pos q] at r
      rw [← r]
      simp (disch := omega) only [Option.bind_some, if_true, if_false, not_true_eq_false, not_false_eq_true, z0, ii_add, ii_sub, ii_mul, ifLeT, ifLeF, ifLtT, ifLtF, ifEqT, ifEqF, ifNeT, ifNeF, ifIn, nixZ, ii_i64, o0, o1, isInT, isInF, tn14, tn12, tn2, tn21, tn47, tn48, tn49, tn471, tn472, Int.reduceToNat, Int.toNat_natCast, Int.reduceAdd, Int.reduceSub, Int.reduceMul, Int.reduceNeg, Nat.reduceAdd, Nat.reduceSub, Nat.reduceMul, R_spotOf_L2, R_spotOf_L2_b, e3, R_cha (h := g) ho ho8 hk, q]
    · right
      rw [if_neg q] at r
      simp (disch := omega) only [Option.bind_some, if_true, if_false, not_true_eq_false, not_false_eq_true, z0, ii_add, ii_sub, ii_mul, ifLeT, ifLeF, ifLtT, ifLtF, ifEqT, ifEqF, ifNeT, ifNeF, ifIn, nixZ, ii_i64, o0, o1, isInT, isInF, tn14, tn12, tn2, tn21, tn47, tn48, tn49, tn471, tn472, Int.reduceToNat, Int.toNat_natCast, Int.reduceAdd, Int.reduceSub, Int.reduceMul, Int.reduceNeg, Nat.reduceAdd, Nat.reduceSub, Nat.reduceMul, R_spotOf_L2, R_spotOf_L2_b, e3, R_cha (h := g) ho ho8 hk, q]
      exact ⟨(), rfl, r⟩
theorem GH_w {p j oa : Nat} {ft dp : Int} {v : Int32} (h : oa ≠ 80) : wI (GH g0 p ft dp) oa j v = GH (wI g0 oa j v) p ft dp := by
  apply heap_ext
  · intro x
    by_cases e : x = oa
    · subst e
      rw [wI_self, GH_n h, GH_n h, wI_self]
    · rw [wI_ne e]
      by_cases e2 : x = 80
      · subst e2
        funext i
        rw [GH_80, GH_80, wI_ne e]
      · rw [GH_n e2, GH_n e2, wI_ne e]
  · rfl
theorem GH_w80 {p j : Nat} {ft dp : Int} {v : Int32} (h1 : j ≠ 10) (h2 : j ≠ 11) (h3 : j ≠ 12) : wI (GH g0 p ft dp) 80 j v = GH (wI g0 80 j v) p ft dp := by
  apply heap_ext
  · intro x
    by_cases e : x = 80
    · subst e
      funext i
      rw [wI_self, GH_80, wI_self]
      by_cases e2 : i = j
      · rw [e2, upd_self, upd_self, if_neg h1, if_neg h2, if_neg h3]
      · rw [upd_ne e2, upd_ne e2, GH_80]
    · rw [wI_ne e, GH_n e, GH_n e, wI_ne e]
  · rfl
theorem GX.w (X : GX bs T b0 g0) {j oa : Nat} {v : Int32} (h1 : oa ≠ 80) (h2 : oa ≠ T) : GX bs T b0 (wI g0 oa j v) := by
  obtain ⟨x1, x2, x3, x4, x5, x6, x7⟩ := X
  exact ⟨x1, by rw [wI_ne (Ne.symm h1)]; exact x2, by rw [wI_ne (Ne.symm h1)]; exact x3, x4, x5, fun j hj => by rw [wI_ne (Ne.symm h2)]; exact x6 j hj, x7⟩
theorem GX.w80 (X : GX bs T b0 g0) {j : Nat} {v : Int32} (h1 : j ≠ 8) (h2 : j ≠ 9) : GX bs T b0 (wI g0 80 j v) := by
  obtain ⟨x1, x2, x3, x4, x5, x6, x7⟩ := X
  exact ⟨x1, by rw [wI_self, upd_ne (Ne.symm h1)]; exact x2, by rw [wI_self, upd_ne (Ne.symm h2)]; exact x3, x4, x5, fun j hj => by rw [wI_ne x5]; exact x6 j hj, x7⟩
theorem GX.eq (X : GX bs T b0 g0) (e2 : g1.2 = g0.2) (e80 : ∀ j, j = 8 ∨ j = 9 → g1.1 80 j = g0.1 80 j) (eT : g1.1 T = g0.1 T) : GX bs T b0 g1 := by
  obtain ⟨x1, x2, x3, x4, x5, x6, x7⟩ := X
  exact ⟨by rw [e2]; exact x1, by rw [e80 8 (Or.inl rfl)]; exact x2, by rw [e80 9 (Or.inr rfl)]; exact x3, x4, x5, fun j hj => by rw [eT]; exact x6 j hj, x7⟩
def WFr (oa b a : Nat) (g1 g2 : AH) : Prop := g2.2 = g1.2 ∧ (∀ x, x ≠ oa → g2.1 x = g1.1 x) ∧ ∀ j, (j < b ∨ b + 8 * a ≤ j) → g2.1 oa j = g1.1 oa j
theorem WFr.rf (oa b a : Nat) (g1 : AH) : WFr oa b a g1 g1 := ⟨rfl, fun _ _ => rfl, fun _ _ => rfl⟩
theorem WFr.tr {oa b a : Nat} {g1 g2 g3 : AH} (x : WFr oa b a g1 g2) (y : WFr oa b a g2 g3) : WFr oa b a g1 g3 := ⟨y.1.trans x.1, fun z hz => (y.2.1 z hz).trans (x.2.1 z hz), fun j hj => (y.2.2 j hj).trans (x.2.2 j hj)⟩
theorem R_wys {oa n1 b a : Nat} (ho : oa ≠ 80) (hT : oa ≠ T) (hn1 : n1 ≤ 1000) (ha : a = 1 ∨ a = 2) (hb : b + 7 * a < n1) (ok : okB bs) {dp : Int} : ∀ (k q : Nat) (ws : List Nat) (n : Nat) (g1 : AH), q ≤ bs.length → ws.length + k = 8 → k < n → GX bs T b0 g1 → (∀ j, j < ws.length → g1.1 oa (b + a * j) = ii (ws.getD j 0)) → (match wyF bs k q ws with
    | .inl e => ∃ i' g2, R_readWays_L14 n n1 oa (ii b) (ii a) (ii ws.length) (ii (spM 6 (ch bs (sk bs q)))) (GH g1 (sk bs q) (-1) dp) = some (i', GH g2 e e dp) ∧ WFr oa b a g1 g2
    | .inr (p, ws') => if spM 6 (ch bs (sk bs p)) = -1 then ∃ g2, R_readWays_L14 n n1 oa (ii b) (ii a) (ii ws.length) (ii (spM 6 (ch bs (sk bs q)))) (GH g1 (sk bs q) (-1) dp) = some (ii ws'.length, GH g2 (sk bs p) (-1) dp) ∧ WFr oa b a g1 g2 ∧ (∀ j, j < ws'.length → g2.1 oa (b + a * j) = ii (ws'.getD j 0)) ∧ ws.length ≤ ws'.length ∧ ∀ j, b + a * ws'.length ≤ j → g2.1 oa j = g1.1 oa j else ∃ i' g2, R_readWays_L14 n n1 oa (ii b) (ii a) (ii ws.length) (ii (spM 6 (ch bs (sk bs q)))) (GH g1 (sk bs q) (-1) dp) = some (i', GH g2 (sk bs p) (sk bs p : Nat) dp) ∧ WFr oa b a g1 g2)
  | 0, q, ws, n + 1, g1, hq, hl, hn, X, hw => by
    have hk := sk_lo hq
    have h6 := sp6_lo (ch bs (sk bs q))
    have e8 : ws.length = 8 := by omega
    unfold wyF
    simp only
    by_cases e : spM 6 (ch bs (sk bs q)) = -1
    · rw [if_pos e, e, e8]
      refine ⟨g1, ?_, WFr.rf _ _ _ _, fun j hj => hw j (by omega), Nat.le_refl _, fun _ _ => rfl⟩
      simp (disch := omega) only [Option.bind_some, if_true, if_false, not_true_eq_false, not_false_eq_true, z0, ii_add, ii_sub, ii_mul, ifLeT, ifLeF, ifLtT, ifLtF, ifEqT, ifEqF, ifNeT, ifNeF, ifIn, nixZ, ii_i64, o0, o1, isInT, isInF, tn14, tn12, tn2, tn21, tn47, tn48, tn49, tn471, tn472, Int.reduceToNat, Int.toNat_natCast, Int.reduceAdd, Int.reduceSub, Int.reduceMul, Int.reduceNeg, Nat.reduceAdd, Nat.reduceSub, Nat.reduceMul, R_readWays_L14, R_readWays_L14_b, Int.cast_ofNat_Int]
    · rw [if_neg e, e8]
      refine ⟨ii 8, g1, ?_, WFr.rf _ _ _ _⟩
      simp (disch := omega) only [Option.bind_some, if_true, if_false, not_true_eq_false, not_false_eq_true, z0, ii_add, ii_sub, ii_mul, ifLeT, ifLeF, ifLtT, ifLtF, ifEqT, ifEqF, ifNeT, ifNeF, ifIn, nixZ, ii_i64, o0, o1, isInT, isInF, tn14, tn12, tn2, tn21, tn47, tn48, tn49, tn471, tn472, Int.reduceToNat, Int.toNat_natCast, Int.reduceAdd, Int.reduceSub, Int.reduceMul, Int.reduceNeg, Nat.reduceAdd, Nat.reduceSub, Nat.reduceMul, R_readWays_L14, R_readWays_L14_b, Int.cast_ofNat_Int, G_fl]
  | k + 1, q, ws, n + 1, g1, hq, hl, hn, X, hw => by
    have hk := sk_lo hq
    have h6 := sp6_lo (ch bs (sk bs q))
    unfold wyF
    by_cases e : spM 6 (ch bs (sk bs q)) = -1
    · rw [if_pos e]
      by_cases e3 : ws = []
      · rw [if_pos e3, e, e3]
        refine ⟨ii 0, g1, ?_, WFr.rf _ _ _ _⟩
        simp (disch := omega) only [Option.bind_some, if_true, if_false, not_true_eq_false, not_false_eq_true, z0, ii_add, ii_sub, ii_mul, ifLeT, ifLeF, ifLtT, ifLtF, ifEqT, ifEqF, ifNeT, ifNeF, ifIn, nixZ, ii_i64, o0, o1, isInT, isInF, tn14, tn12, tn2, tn21, tn47, tn48, tn49, tn471, tn472, Int.reduceToNat, Int.toNat_natCast, Int.reduceAdd, Int.reduceSub, Int.reduceMul, Int.reduceNeg, Nat.reduceAdd, Nat.reduceSub, Nat.reduceMul, R_readWays_L14, R_readWays_L14_b, List.length_nil, Int.cast_ofNat_Int, G_fl]
      · rw [if_neg e3]
        have hl0 : 1 ≤ ws.length := by cases ws with
          | nil => exact absurd rfl e3
          | cons a b => simp
        simp only
        rw [sk_sk, if_pos e, e]
        refine ⟨g1, ?_, WFr.rf _ _ _ _, hw, Nat.le_refl _, fun _ _ => rfl⟩
        simp (disch := omega) only [Option.bind_some, if_true, if_false, not_true_eq_false, not_false_eq_true, z0, ii_add, ii_sub, ii_mul, ifLeT, ifLeF, ifLtT, ifLtF, ifEqT, ifEqF, ifNeT, ifNeF, ifIn, nixZ, ii_i64, o0, o1, isInT, isInF, tn14, tn12, tn2, tn21, tn47, tn48, tn49, tn471, tn472, Int.reduceToNat, Int.toNat_natCast, Int.reduceAdd, Int.reduceSub, Int.reduceMul, Int.reduceNeg, Nat.reduceAdd, Nat.reduceSub, Nat.reduceMul, R_readWays_L14, R_readWays_L14_b]
    · rw [if_neg e]
      have hne : ch bs (sk bs q) ≠ -1 := fun z => e (by rw [z]; exact sp_m1 6 (by omega))
      have hlt := ch_lt hne
      obtain ⟨w, hw'⟩ := Int.eq_ofNat_of_zero_le (show 0 ≤ spM 6 (ch bs (sk bs q)) by omega)
      rw [hw'] at h6 ⊢
      rw [Int.toNat_natCast]
      have X2 := X.w (oa := oa) (j := b + a * ws.length) (v := ii w) ho hT
      have Fr : WFr oa b a g1 (wI g1 oa (b + a * ws.length) (ii w)) := by
        refine ⟨rfl, fun x hx => wI_ne hx, fun j hj => ?_⟩
        rw [wI_self, upd_ne]
        rcases ha with e | e <;> subst e <;> omega
      have ih := R_wys ho hT hn1 ha hb ok (dp := dp) k (sk bs q + 1) (ws ++ [w]) n (wI g1 oa (b + a * ws.length) (ii w)) (by omega) (by rw [List.length_append]; simp; omega) (by omega) X2 (fun j hj => by
        rw [wI_self]
        rw [List.length_append] at hj
        by_cases z : j = ws.length
        · rw [z, upd_self, gd_last]
        · have : j < ws.length := by simp at hj; omega
          rw [upd_ne (by rcases ha with e | e <;> subst e <;> omega), gd_app this]; exact hw j this)
      have e1 := G_lk X2 (ft := -1) (dp := dp) (p := sk bs q + 1) (by omega)
      have e2 := R_spot (o := 6) (by omega) (by omega) (c := ch bs (sk bs (sk bs q + 1))) (g := GH (wI g1 oa (b + a * ws.length) (ii w)) (sk bs (sk bs q + 1)) (-1) dp)
      have ei : ii b + ii a * ii ws.length = ii ((b + a * ws.length : Nat) : Int) := by rw [ii_mul, ii_add]; congr 1
      have hin : b + a * ws.length < n1 := by rcases ha with e | e <;> subst e <;> omega
      have est : R_readWays_L14 (n + 1) n1 oa (ii b) (ii a) (ii ws.length) (ii w) (GH g1 (sk bs q) (-1) dp) = R_readWays_L14 n n1 oa (ii b) (ii a) (ii (ws ++ [w]).length) (ii (spM 6 (ch bs (sk bs (sk bs q + 1))))) (GH (wI g1 oa (b + a * ws.length) (ii w)) (sk bs (sk bs q + 1)) (-1) dp) := by
        show R_readWays_L14_b _ _ _ _ _ _ _ _ = _
        unfold R_readWays_L14_b
        have i1 : inb (ii ((b + a * ws.length : Nat) : Int)) n1 = true := by rw [ii_inb (by omega) (by omega)]; simp; omega
        have i2 : (ii ((b + a * ws.length : Nat) : Int)).toNatClampNeg = b + a * ws.length := by rw [ii_nat (by omega) (by omega)]; rfl
        have i3 : ¬ ii (w : Int) = ii (-1) := by rw [ii_eq (by omega) (by omega) (by omega) (by omega)]; omega
        have i4 : ¬ ii (ws.length : Int) = ii 8 := by rw [ii_eq (by omega) (by omega) (by omega) (by omega)]; omega
        have el : ii ws.length + ii 1 = ii (ws ++ [w]).length := by rw [ii_sc, List.length_append]; rfl
        rw [ei, i2, GH_w ho, GH_a, ii_add, GH_inc, el]
        by_cases z : ii (ws.length : Int) = 0
        · rw [if_pos z, if_neg i3, if_neg i4, if_pos i1, bind_eq e1, bind_eq e2]
        · rw [if_neg z, if_neg i3, if_neg i3, if_neg i4, if_pos i1, bind_eq e1, bind_eq e2]
      rw [est]
      generalize wyF bs k (sk bs q + 1) (ws ++ [w]) = r at *
      rcases r with e | ⟨p, ws'⟩
      · obtain ⟨i', g2, z1, z2⟩ := ih
        exact ⟨i', g2, z1, Fr.tr z2⟩
      · simp only at ih ⊢
        by_cases z : spM 6 (ch bs (sk bs p)) = -1
        · rw [if_pos z] at ih ⊢
          obtain ⟨g2, z1, z2, z3, z4, z5⟩ := ih
          rw [List.length_append] at z4
          have z4' : ws.length + 1 ≤ ws'.length := z4
          refine ⟨g2, z1, Fr.tr z2, z3, by omega, fun j hj => ?_⟩
          rw [z5 j hj, wI_self, upd_ne]
          rcases ha with e | e <;> subst e <;> omega
        · rw [if_neg z] at ih ⊢
          obtain ⟨i', g2, z1, z2⟩ := ih
          exact ⟨i', g2, z1, Fr.tr z2⟩
end WR
