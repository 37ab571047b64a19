/-! law, step, hear -/
section SN
variable {S : ST} {B : Nat} {h g h' g' : AH}
theorem k_law (V : VS S) (C : CRep S B h) (R : RRep S g) {a : Int} (a0 : -2147483648 ≤ a) (a1 : a ≤ 2147483647) : Call S B h g (f_HF_law (ii a) h) (f_R_law (ii a) g) := by
  have R0 : RRep S (wI g 80 0 (ii 0)) := R.keep V (RS.t0 g).1
  have Kt := RS.t0 g (v := ii 0)
  have h4 := V.2.2.2.2.2.2.1.1
  have e14 := C.2.2.2.2.2.1.1
  have e7 := R0.2.2.2.2.2.2.1.1
  unfold f_HF_law f_R_law
  generalize hg0 : wI g 80 0 (ii 0) = g0 at *
  have key : -1 ≤ a ∧ a < (sL S).length → Call S B h g (some (ii 1, wI h 0 16 (ii a))) (some (ii 1, wI g0 80 43 (ii a))) := fun q => by
    have A1 : Ag [0] h (wI h 0 16 (ii a)) := (Ag.rf _ _).pI (by decide)
    have A2 : Ag [80] g0 (wI g0 80 43 (ii a)) := (Ag.rf _ _).pI (by decide)
    have e0 : ∀ j, j ≠ 16 → (wI h 0 16 (ii a)).1 0 j = h.1 0 j := fun j hj => by rw [wI_self, upd_ne hj]
    have e80 : ∀ j, j ≠ 43 → (wI g0 80 43 (ii a)).1 80 j = g0.1 80 j := fun j hj => by rw [wI_self, upd_ne hj]
    obtain ⟨c1, c2, ⟨wr, w1, w2, w3⟩, c4, c5, c6, c7⟩ := id C
    obtain ⟨r1, r2, r3, r4, r5, r6, r7, r8, r9⟩ := id R0
    have em : mvO (wI h 0 16 (ii a)) 13 = mvO h 13 := mv_eq (fun i hi => A1.1 _ (by simp <;> omega))
    have C1 := C.gx V (CKx.ag A1 (by decide)) (e0 14 (by decide)) (e0 15 (by decide)) (B' := B + 64) (c1.ag (A1.1 1 (by decide)) (A1.1 2 (by decide))) ⟨wr, by omega, by rw [em]; exact w2, w3.eq (A1.1 31 (by decide)) (A1.1 32 (by decide)) em⟩ (c4.eq (e0 17 (by decide)) (mv_eq (fun i hi => A1.1 _ (by simp <;> omega))) (by omega)) (c5.eq (by rw [A1.1 33 (by decide)]) (A1.1 34 (by decide)) (A1.1 35 (by decide)) (A1.1 36 (by decide))) (ho := a) (by rw [wI_self, upd_self])
    have R1 := R0.gx (d := sD S) (g' := wI g0 80 43 (ii a)) ⟨fun o ho => A2.1 o (by simp only [List.mem_cons, List.not_mem_nil, or_false] at ho ⊢; omega), fun j hj => e80 j (by simp only [List.mem_cons, List.not_mem_nil, or_false] at hj; omega)⟩ ⟨by rw [e80 6 (by decide)]; exact r1.1, fun j hj => by rw [A2.1 81 (by decide)]; exact r1.2 j hj⟩ (fun j hj => by rw [A2.1 97 (by decide)]; exact r3 j hj) (r4.eq (e80 45 (by decide)) (A2.1 99 (by decide))) (r5.eq (e80 55 (by decide)) (A2.1 104 (by decide))) (r6.eq (e80 52 (by decide)) (A2.1 100 (by decide)) (A2.1 101 (by decide)) (A2.1 102 (by decide))) (ho := a) (by rw [wI_self, upd_self]) (fun j hj => by rw [A2.1 84 (by decide)]; exact r9 j hj)
    obtain ⟨v1, v2, v3, v4, v5, v6, v7, v8, v9⟩ := id V
    exact ⟨_, _, _, (sB S, sH S, sD S, sA S, sI S, sE S, sL S, a, sW S), rfl, rfl, ⟨v1, v2, v3, v4, v5, v6, v7, q, v9⟩, C1, R1, KR.ag A1 (by decide), Kt.2.tr (KC.ag A2 (by decide))⟩
  by_cases q : a = -1
  · subst q
    simp (disch := omega) only [Option.bind_some, if_true, if_false, not_true_eq_false, not_false_eq_true, z0, ii_add, ii_sub, ii_mul, ifLeT, ifLeF, ifLtT, ifLtF, ifEqT, ifEqF, ifNeT, ifNeF, ifIn, nixZ, ii_i64, o0, o1, isInT, isInF, tn14, tn12, tn2, tn21, tn47, tn48, tn49, tn471, tn472, Int.reduceToNat, Int.toNat_natCast, Int.reduceAdd, Int.reduceSub, Int.reduceMul, Int.reduceNeg, Nat.reduceAdd, Nat.reduceSub, Nat.reduceMul, e14]
    exact key ⟨by omega, by omega⟩
  · by_cases q2 : 0 ≤ a ∧ a < (sL S).length
    · simp (disch := omega) only [Option.bind_some, if_true, if_false, not_true_eq_false, not_false_eq_true, z0, ii_add, ii_sub, ii_mul, ifLeT, ifLeF, ifLtT, ifLtF, ifEqT, ifEqF, ifNeT, ifNeF, ifIn, nixZ, ii_i64, o0, o1, isInT, isInF, tn14, tn12, tn2, tn21, tn47, tn48, tn49, tn471, tn472, Int.reduceToNat, Int.toNat_natCast, Int.reduceAdd, Int.reduceSub, Int.reduceMul, Int.reduceNeg, Nat.reduceAdd, Nat.reduceSub, Nat.reduceMul, e14, e7, ii_i64, o0, isInT]
      exact key ⟨by omega, by omega⟩
    · by_cases q3 : a < -1
      · simp (disch := omega) only [Option.bind_some, if_true, if_false, not_true_eq_false, not_false_eq_true, z0, ii_add, ii_sub, ii_mul, ifLeT, ifLeF, ifLtT, ifLtF, ifEqT, ifEqF, ifNeT, ifNeF, ifIn, nixZ, ii_i64, o0, o1, isInT, isInF, tn14, tn12, tn2, tn21, tn47, tn48, tn49, tn471, tn472, Int.reduceToNat, Int.toNat_natCast, Int.reduceAdd, Int.reduceSub, Int.reduceMul, Int.reduceNeg, Nat.reduceAdd, Nat.reduceSub, Nat.reduceMul, e14, e7, ii_i64, o0, isInF]
        exact call_same V C R rfl rfl (CS.rf _) Kt
      · simp (disch := omega) only [Option.bind_some, if_true, if_false, not_true_eq_false, not_false_eq_true, z0, ii_add, ii_sub, ii_mul, ifLeT, ifLeF, ifLtT, ifLtF, ifEqT, ifEqF, ifNeT, ifNeF, ifIn, nixZ, ii_i64, o0, o1, isInT, isInF, tn14, tn12, tn2, tn21, tn47, tn48, tn49, tn471, tn472, Int.reduceToNat, Int.toNat_natCast, Int.reduceAdd, Int.reduceSub, Int.reduceMul, Int.reduceNeg, Nat.reduceAdd, Nat.reduceSub, Nat.reduceMul, e14, e7, ii_i64, o0, isInF]
        exact call_same V C R rfl rfl (CS.rf _) Kt
theorem k_step (V : VS S) (C : CRep S B h) (R : RRep S g) {a b c : Int} (a0 : -2147483648 ≤ a) (a1 : a ≤ 2147483647) (b0 : -2147483648 ≤ b) (b1 : b ≤ 2147483647) (c0 : -2147483648 ≤ c) (c1 : c ≤ 2147483647) : Call S B h g ((f_HF_step (ii a) (ii b) (ii c) h).bind fun x => some (x, h)) (f_R_step (ii a) (ii b) (ii c) g) := by
  have R0 : RRep S (wI g 80 0 (ii 0)) := R.keep V (RS.t0 g).1
  have Kt := RS.t0 g (v := ii 0)
  have h4 := V.2.2.2.2.2.2.2.2.1
  unfold f_HF_step f_R_step
  rw [C_hasW C V a0 a1, R_isW R0 V a0 a1]
  generalize hg0 : wI g 80 0 (ii 0) = g0 at *
  by_cases q : 0 ≤ a ∧ a < (sW S).length
  · obtain ⟨v, rfl⟩ := Int.eq_ofNat_of_zero_le q.1
    have hv : v < (sW S).length := by omega
    obtain ⟨l1, l2⟩ := wk_l C V hv
    obtain ⟨r1, r2⟩ := R0.2.2.2.2.2.2.2.1.2 v hv
    rw [if_pos q, if_neg i10, if_neg i10]
    by_cases q2 : 0 ≤ b ∧ b < ((sW S).getD v []).length
    · obtain ⟨i, rfl⟩ := Int.eq_ofNat_of_zero_le q2.1
      obtain ⟨f, w, e0, e1, e2, e3, e4⟩ := wk_c C V hv (i := i) (by omega)
      have er := r2 i (by omega)
      rw [e0] at er
      obtain ⟨er1, er2⟩ := er
      have t0 : (2 * (64 * (v : Int) + i) + 0).toNat = 128 * v + 2 * i := by omega
      have t1 : (2 * (64 * (v : Int) + i) + 1).toNat = 128 * v + 2 * i + 1 := by omega
      by_cases q3 : c = 0
      · subst q3
        simp (disch := omega) only [Option.bind_some, if_true, if_false, not_true_eq_false, not_false_eq_true, z0, ii_add, ii_sub, ii_mul, ifLeT, ifLeF, ifLtT, ifLtF, ifEqT, ifEqF, ifNeT, ifNeF, ifIn, nixZ, ii_i64, o0, o1, isInT, isInF, tn14, tn12, tn2, tn21, tn47, tn48, tn49, tn471, tn472, Int.reduceToNat, Int.toNat_natCast, Int.reduceAdd, Int.reduceSub, Int.reduceMul, Int.reduceNeg, Nat.reduceAdd, Nat.reduceSub, Nat.reduceMul, l1, r1, e3, e4, ii_i64, o0, isInT, t0, er1]
        exact call_same V C R rfl rfl (CS.rf _) Kt
      · by_cases q4 : c = 1
        · subst q4
          simp (disch := omega) only [Option.bind_some, if_true, if_false, not_true_eq_false, not_false_eq_true, z0, ii_add, ii_sub, ii_mul, ifLeT, ifLeF, ifLtT, ifLtF, ifEqT, ifEqF, ifNeT, ifNeF, ifIn, nixZ, ii_i64, o0, o1, isInT, isInF, tn14, tn12, tn2, tn21, tn47, tn48, tn49, tn471, tn472, Int.reduceToNat, Int.toNat_natCast, Int.reduceAdd, Int.reduceSub, Int.reduceMul, Int.reduceNeg, Nat.reduceAdd, Nat.reduceSub, Nat.reduceMul, l1, r1, e3, e4, ii_i64, o0, isInT, t1, er2]
          exact call_same V C R rfl rfl (CS.rf _) Kt
        · simp (disch := omega) only [Option.bind_some, if_true, if_false, not_true_eq_false, not_false_eq_true, z0, ii_add, ii_sub, ii_mul, ifLeT, ifLeF, ifLtT, ifLtF, ifEqT, ifEqF, ifNeT, ifNeF, ifIn, nixZ, ii_i64, o0, o1, isInT, isInF, tn14, tn12, tn2, tn21, tn47, tn48, tn49, tn471, tn472, Int.reduceToNat, Int.toNat_natCast, Int.reduceAdd, Int.reduceSub, Int.reduceMul, Int.reduceNeg, Nat.reduceAdd, Nat.reduceSub, Nat.reduceMul, l1, r1, e3, e4, ii_i64, o0, isInT, isInF]
          exact call_same V C R rfl rfl (CS.rf _) Kt
    · by_cases q3 : b < 0
      · simp (disch := omega) only [Option.bind_some, if_true, if_false, not_true_eq_false, not_false_eq_true, z0, ii_add, ii_sub, ii_mul, ifLeT, ifLeF, ifLtT, ifLtF, ifEqT, ifEqF, ifNeT, ifNeF, ifIn, nixZ, ii_i64, o0, o1, isInT, isInF, tn14, tn12, tn2, tn21, tn47, tn48, tn49, tn471, tn472, Int.reduceToNat, Int.toNat_natCast, Int.reduceAdd, Int.reduceSub, Int.reduceMul, Int.reduceNeg, Nat.reduceAdd, Nat.reduceSub, Nat.reduceMul, l1, r1, ii_i64, o0, isInF]
        exact call_same V C R rfl rfl (CS.rf _) Kt
      · simp (disch := omega) only [Option.bind_some, if_true, if_false, not_true_eq_false, not_false_eq_true, z0, ii_add, ii_sub, ii_mul, ifLeT, ifLeF, ifLtT, ifLtF, ifEqT, ifEqF, ifNeT, ifNeF, ifIn, nixZ, ii_i64, o0, o1, isInT, isInF, tn14, tn12, tn2, tn21, tn47, tn48, tn49, tn471, tn472, Int.reduceToNat, Int.toNat_natCast, Int.reduceAdd, Int.reduceSub, Int.reduceMul, Int.reduceNeg, Nat.reduceAdd, Nat.reduceSub, Nat.reduceMul, l1, r1, ii_i64, o0, isInF]
        exact call_same V C R rfl rfl (CS.rf _) Kt
  · rw [if_neg q, if_pos i00, if_pos i00]
    exact call_same V C R rfl rfl (CS.rf _) Kt
theorem gd_app {α : Type} {l : List α} {a z : α} {i : Nat} (hi : i < l.length) : (l ++ [a]).getD i z = l.getD i z := by rw [List.getD_eq_getElem?_getD, List.getD_eq_getElem?_getD, List.getElem?_append_left hi]
theorem gd_last {α : Type} {l : List α} {a z : α} : (l ++ [a]).getD l.length z = a := by rw [List.getD_eq_getElem?_getD, List.getElem?_concat_length]; rfl
theorem k_hear (V : VS S) (C : CRep S B h) (R : RRep S g) {a c : Int} (a0 : -2147483648 ≤ a) (a1 : a ≤ 2147483647) (c0 : -2147483648 ≤ c) (c1 : c ≤ 2147483647) (b : Bool) : Call S B h g (f_HF_hear (ii a) (ii c) (bI b) h) (f_R_hear (ii a) (ii c) (bI b) g) := by
  have R0 : RRep S (wI g 80 0 (ii 0)) := R.keep V (RS.t0 g).1
  obtain ⟨o, wr0, ho, X⟩ := rx_of C V R0
  obtain ⟨E, Ch, _, Rh, D, W, Vd⟩ := X
  have hcl := W.cells
  have hnf := W.nf
  have Kt := RS.t0 g (v := ii 0)
  have h12 := V.2.2.2.2.2.1.1
  have eb : vp_nar .boolean (bI b) = bI b := by cases b <;> decide
  unfold f_HF_hear f_R_hear f_Heard_add
  rw [E, C_isFork Ch W a0 a1, C_isCell Ch W c0 c1, R_isFork Rh W a0 a1, R_isCell Rh W c0 c1, eb]
  generalize hg0 : wI g 80 0 (ii 0) = g0 at *
  by_cases q : 0 ≤ a ∧ a < (sH S) 7
  · rw [if_pos q, if_neg i10, if_neg i10]
    by_cases q2 : 0 ≤ c ∧ c < cellsM (sH S)
    · rw [if_pos q2, if_neg i10, if_neg i10]
      obtain ⟨x, rfl⟩ := Int.eq_ofNat_of_zero_le q.1
      obtain ⟨y, rfl⟩ := Int.eq_ofNat_of_zero_le q2.1
      obtain ⟨k1, k2⟩ := C.2.2.2.2.1
      obtain ⟨l1, l2⟩ := R0.2.2.2.2.2.1
      obtain ⟨n, hn⟩ : ∃ n, n = (sE S).length := ⟨_, rfl⟩
      rw [← hn] at k1 l1 h12
      by_cases q3 : n = 12
      · subst q3
        simp (disch := omega) only [Option.bind_some, if_true, if_false, not_true_eq_false, not_false_eq_true, z0, ii_add, ii_sub, ii_mul, ifLeT, ifLeF, ifLtT, ifLtF, ifEqT, ifEqF, ifNeT, ifNeF, ifIn, nixZ, ii_i64, o0, o1, isInT, isInF, tn14, tn12, tn2, tn21, tn47, tn48, tn49, tn471, tn472, Int.reduceToNat, Int.toNat_natCast, Int.reduceAdd, Int.reduceSub, Int.reduceMul, Int.reduceNeg, Nat.reduceAdd, Nat.reduceSub, Nat.reduceMul, k1, l1, Int.cast_ofNat_Int]
        exact call_same V C R rfl rfl (CS.rf _) Kt
      · have x1 : ∀ v, (wI h 34 n v).1 33 5 = ii n := fun v => by rw [wI_ne (by omega)]; exact k1
        have x2 : ∀ v w, (wI (wI h 34 n v) 35 n w).1 33 5 = ii n := fun v w => by rw [wI_ne (by omega)]; exact x1 v
        have x3 : ∀ u v w, (wI (wI (wI h 34 n u) 35 n v) 36 n w).1 33 5 = ii n := fun u v w => by rw [wI_ne (by omega)]; exact x2 u v
        have y1 : ∀ v, (wI g0 100 n v).1 80 52 = ii n := fun v => by rw [wI_ne (by omega)]; exact l1
        have y2 : ∀ v w, (wI (wI g0 100 n v) 101 n w).1 80 52 = ii n := fun v w => by rw [wI_ne (by omega)]; exact y1 v
        have y3 : ∀ u v w, (wI (wI (wI g0 100 n u) 101 n v) 102 n w).1 80 52 = ii n := fun u v w => by rw [wI_ne (by omega)]; exact y2 u v
        simp (disch := omega) only [Option.bind_some, if_true, if_false, not_true_eq_false, not_false_eq_true, z0, ii_add, ii_sub, ii_mul, ifLeT, ifLeF, ifLtT, ifLtF, ifEqT, ifEqF, ifNeT, ifNeF, ifIn, nixZ, ii_i64, o0, o1, isInT, isInF, tn14, tn12, tn2, tn21, tn47, tn48, tn49, tn471, tn472, Int.reduceToNat, Int.toNat_natCast, Int.reduceAdd, Int.reduceSub, Int.reduceMul, Int.reduceNeg, Nat.reduceAdd, Nat.reduceSub, Nat.reduceMul, k1, l1, x1, x2, x3, y1, y2, y3, eb, wI_self, upd_self]
        obtain ⟨hN, ehN⟩ : ∃ hN, hN = wI (wI (wI (wI h 34 n (ii x)) 35 n (ii y)) 36 n (bI b)) 33 5 (ii ((n : Int) + 1)) := ⟨_, rfl⟩
        obtain ⟨gN, egN⟩ : ∃ gN, gN = wI (wI (wI (wI g0 100 n (ii x)) 101 n (ii y)) 102 n (bI b)) 80 52 (ii ((n : Int) + 1)) := ⟨_, rfl⟩
        have A1 : Ag [33, 34, 35, 36] h hN := by rw [ehN]; exact ((((Ag.rf _ _).pI (by decide)).pI (by decide)).pI (by decide)).pI (by decide)
        have A2 : Ag [80, 100, 101, 102] g0 gN := by rw [egN]; exact ((((Ag.rf _ _).pI (by decide)).pI (by decide)).pI (by decide)).pI (by decide)
        have e80 : ∀ j, j ≠ 52 → gN.1 80 j = g0.1 80 j := fun j hj => by rw [egN, wI_self, upd_ne hj, wI_ne (by decide), wI_ne (by decide), wI_ne (by decide)]
        have hl : ((sE S ++ [(x, y, b)]).length : Int) = (n : Int) + 1 := by rw [List.length_append, ← hn]; rfl
        have p3 : hN.1 33 5 = ii ((n : Int) + 1) := by rw [ehN, wI_self, upd_self]
        have p4 : hN.1 34 = upd (h.1 34) n (ii x) := by rw [ehN, wI_ne (by decide), wI_ne (by decide), wI_ne (by decide), wI_self]
        have p5 : hN.1 35 = upd (h.1 35) n (ii y) := by rw [ehN, wI_ne (by decide), wI_ne (by decide), wI_self, wI_ne (by decide)]
        have p6 : hN.1 36 = upd (h.1 36) n (bI b) := by rw [ehN, wI_ne (by decide), wI_self, wI_ne (by decide), wI_ne (by decide)]
        have r3 : gN.1 80 52 = ii ((n : Int) + 1) := by rw [egN, wI_self, upd_self]
        have r4 : gN.1 100 = upd (g0.1 100) n (ii x) := by rw [egN, wI_ne (by decide), wI_ne (by decide), wI_ne (by decide), wI_self]
        have r5 : gN.1 101 = upd (g0.1 101) n (ii y) := by rw [egN, wI_ne (by decide), wI_ne (by decide), wI_self, wI_ne (by decide)]
        have r6 : gN.1 102 = upd (g0.1 102) n (bI b) := by rw [egN, wI_ne (by decide), wI_self, wI_ne (by decide), wI_ne (by decide)]
        have CN : CHe (sE S ++ [(x, y, b)]) hN := by
          refine ⟨by rw [p3, hl], fun i hi => ?_⟩
          rw [p4, p5, p6]
          by_cases e : i = n
          · rw [e, upd_self, upd_self, upd_self, hn, gd_last]; exact ⟨rfl, rfl, rfl⟩
          · have : i < (sE S).length := by omega
            rw [upd_ne e, upd_ne e, upd_ne e, gd_app this]; exact k2 i this
        have RN : RHe (sE S ++ [(x, y, b)]) gN := by
          refine ⟨by rw [r3, hl], fun i hi => ?_⟩
          rw [r4, r5, r6]
          by_cases e : i = n
          · rw [e, upd_self, upd_self, upd_self, hn, gd_last]; exact ⟨rfl, rfl, rfl⟩
          · have : i < (sE S).length := by omega
            rw [upd_ne e, upd_ne e, upd_ne e, gd_app this]; exact l2 i this
        obtain ⟨c1, c2, ⟨wr, w1, w2, w3⟩, c4, c5, c6, c7⟩ := id C
        obtain ⟨s1, s2, s3, s4, s5, s6, s7, s8, s9⟩ := id R0
        have em : mvO hN 13 = mvO h 13 := mv_eq (fun i hi => A1.1 _ (by simp <;> omega))
        have z0 := A1.1 0 (by decide)
        have C1 := C.gx V (CKx.ag A1 (by decide)) (by rw [z0]) (by rw [z0]) (B' := B + 64) (c1.ag (A1.1 1 (by decide)) (A1.1 2 (by decide))) ⟨wr, by omega, by rw [em]; exact w2, w3.eq (A1.1 31 (by decide)) (A1.1 32 (by decide)) em⟩ (c4.eq (by rw [z0]) (mv_eq (fun i hi => A1.1 _ (by simp <;> omega))) (by omega)) CN (ho := sO S) (by rw [z0]; exact c6.2.1)
        have R1 := R0.gx (d := sD S) (g' := gN) ⟨fun o ho => A2.1 o (by simp only [List.mem_cons, List.not_mem_nil, or_false] at ho ⊢; omega), fun j hj => e80 j (by simp only [List.mem_cons, List.not_mem_nil, or_false] at hj; omega)⟩ ⟨by rw [e80 6 (by decide)]; exact s1.1, fun j hj => by rw [A2.1 81 (by decide)]; exact s1.2 j hj⟩ (fun j hj => by rw [A2.1 97 (by decide)]; exact s3 j hj) (s4.eq (e80 45 (by decide)) (A2.1 99 (by decide))) (s5.eq (e80 55 (by decide)) (A2.1 104 (by decide))) RN (ho := sO S) (by rw [e80 43 (by decide)]; exact s7.2.1) (fun j hj => by rw [A2.1 84 (by decide)]; exact s9 j hj)
        obtain ⟨v1, v2, v3, v4, v5, v6, v7⟩ := id V
        rw [← ehN, ← egN]
        refine ⟨_, hN, gN, (sB S, sH S, sD S, sA S, sI S, sE S ++ [(x, y, b)], sL S, sO S, sW S), rfl, rfl, ⟨v1, v2, v3, v4, v5, ⟨by show (sE S ++ [(x, y, b)]).length ≤ 12; omega, fun z hz => ?_⟩, v7⟩, C1, R1, KR.ag A1 (by decide), Kt.2.tr (KC.ag A2 (by decide))⟩
        rcases List.mem_append.mp hz with hz | hz
        · exact v6.2 z hz
        · rw [List.mem_singleton.mp hz]; exact ⟨q.2, q2.2⟩
    · rw [if_neg q2, if_pos i00, if_pos i00]
      exact call_same V C R rfl rfl (CS.rf _) Kt
  · rw [if_neg q, if_pos i00, if_pos i00]
    exact call_same V C R rfl rfl (CS.rf _) Kt
end SN
