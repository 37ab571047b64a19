/-! cheapest -/
section P3
variable {hd : Nat → Int} {d : DY} {o wr : Nat} {h g : AH}
theorem bset_F {a c : Nat} (ha : a < 30) (h : a < c) : tb (bitI a) c = false := by rw [tb_bit (by omega)]; simp; omega
theorem R_v2 (R : RH hd g) (D : RDy d g 97) (W : HW hd) (V : DW hd d) {st : BST} {dS : DY} {y : AH} {n p : Int} {a b j : Nat} (hab : a < b) (hb : (b : Int) < cellsM hd) (G : RG g st dS y) (T : TD hd d (bitI a ||| bitI b) dS) (n0 : 1 ≤ n) (n1 : n ≤ 40) (p0 : 0 ≤ p) (p1 : p ≤ 3000) : ∃ y', g4 (j + 2) 0 (ii n) (ii (b + 1 : Nat)) (bitI a ||| bitI b) (ii p) y = some y' ∧ RG g (l3M hd d n (bitI a ||| bitI b) p b (cnD hd d n st (bitI a ||| bitI b) p 2)) dS y' := by
  have hcl := W.cells
  obtain ⟨y1, G1, e1⟩ := R_go1 (rc := g4 (j + 1)) (fr := ii (b + 1 : Nat)) (k := 2) R W V G T n0 n1 p0 (by omega) (by omega) (by omega) (pc_2 b (by omega) a hab) (fun i hi => by rw [tb_or, b30 (by omega) hi, b30 (by omega) hi]; rfl)
  rw [if_neg (by omega)] at e1
  have e2 : g4 (j + 2) 0 (ii n) (ii (b + 1 : Nat)) (bitI a ||| bitI b) (ii p) y = R_goCheapest_L112 (g4 (j + 1)) FU (ii n) (bitI a ||| bitI b) (ii p) (ii (b + 1 : Nat)) y1 := e1
  rw [e2]
  refine R_lp (F := fun c st => cnD hd d n st ((bitI a ||| bitI b) ||| bitI c) (p + prM hd c) 3) R D W V (by omega) G1 T (fun c hc => by rw [tb_or, bset_F (by omega) (by omega), bset_F (by omega) (by omega)]; rfl) ?_
  intro c st' y2 hc hcN t G2
  have hp := prM_lo W t
  have T2 := T.stp W hcN t (by rw [tb_or, bset_F (by omega) (by omega), bset_F (by omega) (by omega)]; rfl)
  obtain ⟨y3, G3, e3⟩ := R_go1 (rc := g4 j) (fr := ii (c + 1 : Nat)) (p := p + prM hd c) (k := 3) R W V G2 T2 n0 n1 (by omega) (by omega) (by omega) (by omega) (pc_3 c (by omega) b (by omega) a hab) (fun i hi => by rw [tb_or, tb_or, b30 (by omega) hi, b30 (by omega) hi, b30 (by omega) hi]; rfl)
  rw [if_pos rfl] at e3
  exact ⟨y3, e3, G3⟩
theorem R_v1 (R : RH hd g) (D : RDy d g 97) (W : HW hd) (V : DW hd d) {st : BST} {dS : DY} {y : AH} {n p : Int} {a j : Nat} (ha : (a : Int) < cellsM hd) (G : RG g st dS y) (T : TD hd d (bitI a) dS) (n0 : 1 ≤ n) (n1 : n ≤ 40) (p0 : 0 ≤ p) (p1 : p ≤ 1500) : ∃ y', g4 (j + 3) 0 (ii n) (ii (a + 1 : Nat)) (bitI a) (ii p) y = some y' ∧ RG g (l2M hd d n (bitI a) p a (cnD hd d n st (bitI a) p 1)) dS y' := by
  have hcl := W.cells
  obtain ⟨y1, G1, e1⟩ := R_go1 (rc := g4 (j + 2)) (fr := ii (a + 1 : Nat)) (k := 1) R W V G T n0 n1 p0 (by omega) (by omega) (by omega) (pc_1 a (by omega)) (fun i hi => by rw [b30 (by omega) hi])
  rw [if_neg (by omega)] at e1
  have e2 : g4 (j + 3) 0 (ii n) (ii (a + 1 : Nat)) (bitI a) (ii p) y = R_goCheapest_L112 (g4 (j + 2)) FU (ii n) (bitI a) (ii p) (ii (a + 1 : Nat)) y1 := e1
  rw [e2]
  refine R_lp (F := fun b st => l3M hd d n (bitI a ||| bitI b) (p + prM hd b) b (cnD hd d n st (bitI a ||| bitI b) (p + prM hd b) 2)) R D W V (by omega) G1 T (fun c hc => by rw [bset_F (by omega) (by omega)]) ?_
  intro c st' y2 hc hcN t G2
  have hp := prM_lo W t
  have T2 := T.stp W hcN t (by rw [bset_F (by omega) (by omega)])
  exact R_v2 R D W V (by omega) hcN G2 T2 n0 n1 (by omega) (by omega)
theorem R_v0 (R : RH hd g) (D : RDy d g 97) (W : HW hd) (V : DW hd d) {y : AH} {n : Int} {j : Nat} (G : RG g none d y) (n0 : 1 ≤ n) (n1 : n ≤ 40) : ∃ y', g4 (j + 4) 0 (ii n) (ii 0) (ii 0) (ii 0) y = some y' ∧ RG g (l1M hd d n (cnD hd d n none (ii 0) 0 0)) d y' := by
  have hcl := W.cells
  have T : TD hd d (ii 0) d := ⟨fun c hc => by rw [tb_0, if_neg (by decide)], fun c hc => by rw [tb_0] at hc; exact absurd hc (by decide), V⟩
  obtain ⟨y1, G1, e1⟩ := R_go1 (rc := g4 (j + 3)) (fr := ii (0 : Nat)) (p := 0) (k := 0) R W V G T n0 n1 (by omega) (by omega) (by omega) (by omega) pc_0 (fun i hi => tb_0 i)
  rw [if_neg (by omega)] at e1
  have e2 : g4 (j + 4) 0 (ii n) (ii 0) (ii 0) (ii 0) y = R_goCheapest_L112 (g4 (j + 3)) FU (ii n) (ii 0) (ii 0) (ii (0 : Nat)) y1 := e1
  rw [e2]
  refine R_lp (F := fun a st => l2M hd d n (bitI a) (prM hd a) a (cnD hd d n st (bitI a) (prM hd a) 1)) R D W V (Nat.zero_le _) G1 T (fun c hc => tb_0 c) ?_
  intro c st' y2 hc hcN t G2
  have hp := prM_lo W t
  have T2 := T.stp W hcN t (tb_0 c)
  rw [z_or] at T2 ⊢
  rw [Int.zero_add]
  exact R_v1 R D W V hcN G2 T2 n0 n1 (by omega) (by omega)
theorem CS.plan {h h1 : AH} (a : Ag [39, 40, 41, 42] h h1) : CS h h1 := by
  refine ⟨⟨fun o ho hs => a.1 o ?_, by rw [a.1 1 (by decide)], by rw [a.1 33 (by decide)], fun o ho => congrFun (a.1 o ?_) 2, fun o ho => by rw [a.2]⟩, KR.ag a (by decide)⟩
  · intro z
    simp only [List.mem_cons, List.not_mem_nil, or_false] at z
    rcases z with z | z | z | z <;> subst z <;> exact absurd hs (by decide)
  · intro z
    simp only [List.mem_cons, List.not_mem_nil, or_false] at z ho
    omega
theorem RS.ys {y : AH} (Y : YS g y) : RS g y := by
  refine ⟨⟨fun l j hj => by rw [Y.1 84 (by decide) (by decide)]; exact l j hj, fun o ho => Y.1 o ?_ ?_, fun j _ => by rw [Y.1 95 (by decide) (by decide)], fun j _ => by rw [Y.1 96 (by decide) (by decide)], fun j hj => Y.2.1 j ?_ ?_⟩, fun o ho => Y.1 o (by omega) (by omega), fun o ho => by rw [Y.2.2]⟩
  · intro z; subst z; revert ho; decide
  · intro z; subst z; revert ho; decide
  · intro z; subst z; revert hj; decide
  · intro z; subst z; revert hj; decide
theorem q_cheapest (X : RX hd d o wr h (wI g 80 0 (ii 0))) (ho : o = 43 ∨ o = 49) {n a : Int} (n0 : -2147483648 ≤ n) (n1 : n ≤ 2147483647) (a0 : -2147483648 ≤ a) (a1 : a ≤ 2147483647) : ∃ x h1 g1, f_HF_cheapest (ii n) (ii a) h = some (x, h1) ∧ f_R_cheapest (ii n) (ii a) g = some (x, g1) ∧ CS h h1 ∧ RS (wI g 80 0 (ii 0)) g1 := by
  obtain ⟨E, C, M, R, D, W, V⟩ := X
  have hc := W.cells
  unfold f_R_cheapest f_HF_cheapest
  generalize wI g 80 0 (ii 0) = g at *
  by_cases q : cellsM hd = 0
  · simp (disch := omega) only [Option.bind_some, if_true, if_false, not_true_eq_false, not_false_eq_true, z0, ii_add, ii_sub, ii_mul, ifLeT, ifLeF, ifLtT, ifLtF, ifEqT, ifEqF, ifNeT, ifNeF, ifIn, nixZ, ii_i64, o0, o1, isInT, isInF, tn14, tn12, tn2, tn21, tn47, tn48, tn49, tn471, tn472, Int.reduceToNat, Int.toNat_natCast, Int.reduceAdd, Int.reduceSub, Int.reduceMul, Int.reduceNeg, Nat.reduceAdd, Nat.reduceSub, Nat.reduceMul, C_hhF E C, R.2.2.2.2.2.1]
    exact ⟨_, _, _, rfl, rfl, CS.rf _, RS.rf _⟩
  · have HWd := W.hw (c := 0) (by omega) (by omega)
    by_cases q2 : 1 ≤ n ∧ n ≤ 40
    · by_cases q3 : 0 ≤ a ∧ a ≤ 1
      · obtain ⟨x1, ex1, A1, f7, P1⟩ := C_prep E C ho M V HWd n
        obtain ⟨x2, ex2, A2, P2, B2, O2⟩ := C_l1 HWd q2.1 q2.2 (h := h) ⟨A1, P1, f7, trivial⟩
        obtain ⟨y1, ey1, cp, Ay⟩ := R_cp (m0 := 227) (u0 := 97) (m1 := 227) (u1 := 98) (by omega) (by omega) (by omega) g
        have Y1 : YS g y1 := ⟨fun o h1 _ => Ay.1 o (by simpa using h1), fun j _ _ => by rw [Ay.1 80 (by decide)], Ay.2⟩
        obtain ⟨y2, ey2, Y2, _, S2, _⟩ := R_v0 (j := 4) R D HWd V (g := g) (y := wI (wI y1 80 47 (ii (-1))) 80 48 (ii 0)) (n := n) ⟨Y1.f2, fun j hj => by rw [wI_ne (by decide), wI_ne (by decide), cp j hj]; exact D j hj, by show (wI (wI y1 80 47 (ii (-1))) 80 48 (ii 0)).1 80 47 = ii (-1); rw [wI_self, upd_ne (by decide), wI_self, upd_self], trivial⟩ q2.1 q2.2
        have ey2' : g4 8 0 (ii n) (ii 0) (ii 0) (ii 0) (wI (wI y1 80 47 (ii (-1))) 80 48 (ii 0)) = some y2 := ey2
        simp (disch := omega) only [Option.bind_some, if_true, if_false, not_true_eq_false, not_false_eq_true, z0, ii_add, ii_sub, ii_mul, ifLeT, ifLeF, ifLtT, ifLtF, ifEqT, ifEqF, ifNeT, ifNeF, ifIn, nixZ, ii_i64, o0, o1, isInT, isInF, tn14, tn12, tn2, tn21, tn47, tn48, tn49, tn471, tn472, Int.reduceToNat, Int.toNat_natCast, Int.reduceAdd, Int.reduceSub, Int.reduceMul, Int.reduceNeg, Nat.reduceAdd, Nat.reduceSub, Nat.reduceMul, C_hhT E C W, R.2.2.2.2.2.1, E]
        rw [bind_eq ex1, bind_eq ex2, bind_eq ey1, bind_eq ey2']
        revert B2 S2 O2
        cases l1M hd d n (cnD hd d n none (ii 0) 0 0) with
        | none =>
          intro B2 O2 S2
          have e7 : x2.1 39 7 = ii 0 := B2
          have e47 : y2.1 80 47 = ii (-1) := S2
          simp (disch := omega) only [Option.bind_some, if_true, if_false, not_true_eq_false, not_false_eq_true, z0, ii_add, ii_sub, ii_mul, ifLeT, ifLeF, ifLtT, ifLtF, ifEqT, ifEqF, ifNeT, ifNeF, ifIn, nixZ, ii_i64, o0, o1, isInT, isInF, tn14, tn12, tn2, tn21, tn47, tn48, tn49, tn471, tn472, Int.reduceToNat, Int.toNat_natCast, Int.reduceAdd, Int.reduceSub, Int.reduceMul, Int.reduceNeg, Nat.reduceAdd, Nat.reduceSub, Nat.reduceMul, e7, e47]
          exact ⟨_, _, _, rfl, rfl, CS.plan A2, RS.ys Y2⟩
        | some v =>
          obtain ⟨bs, bp, bk⟩ := v
          intro B2 O2 S2
          obtain ⟨e7, e8, e9, e10⟩ := B2
          obtain ⟨e47, e48⟩ := S2
          obtain ⟨o1', o2', o3, o4⟩ := O2
          have hm1 : ¬ bs = ii (-1) := by
            intro z
            have := o4 31 (by omega)
            rw [z] at this
            exact absurd this (by decide)
          by_cases qa : a = 0
          · simp (disch := omega) only [Option.bind_some, if_true, if_false, not_true_eq_false, not_false_eq_true, z0, ii_add, ii_sub, ii_mul, ifLeT, ifLeF, ifLtT, ifLtF, ifEqT, ifEqF, ifNeT, ifNeF, ifIn, nixZ, ii_i64, o0, o1, isInT, isInF, tn14, tn12, tn2, tn21, tn47, tn48, tn49, tn471, tn472, Int.reduceToNat, Int.toNat_natCast, Int.reduceAdd, Int.reduceSub, Int.reduceMul, Int.reduceNeg, Nat.reduceAdd, Nat.reduceSub, Nat.reduceMul, e7, e47, e8, hm1]
            exact ⟨_, _, _, rfl, rfl, CS.plan A2, RS.ys Y2⟩
          · simp (disch := omega) only [Option.bind_some, if_true, if_false, not_true_eq_false, not_false_eq_true, z0, ii_add, ii_sub, ii_mul, ifLeT, ifLeF, ifLtT, ifLtF, ifEqT, ifEqF, ifNeT, ifNeF, ifIn, nixZ, ii_i64, o0, o1, isInT, isInF, tn14, tn12, tn2, tn21, tn47, tn48, tn49, tn471, tn472, Int.reduceToNat, Int.toNat_natCast, Int.reduceAdd, Int.reduceSub, Int.reduceMul, Int.reduceNeg, Nat.reduceAdd, Nat.reduceSub, Nat.reduceMul, e7, e47, e9, e48, hm1]
            exact ⟨_, _, _, rfl, rfl, CS.plan A2, RS.ys Y2⟩
      · by_cases q4 : a < 0
        · simp (disch := omega) only [Option.bind_some, if_true, if_false, not_true_eq_false, not_false_eq_true, z0, ii_add, ii_sub, ii_mul, ifLeT, ifLeF, ifLtT, ifLtF, ifEqT, ifEqF, ifNeT, ifNeF, ifIn, nixZ, ii_i64, o0, o1, isInT, isInF, tn14, tn12, tn2, tn21, tn47, tn48, tn49, tn471, tn472, Int.reduceToNat, Int.toNat_natCast, Int.reduceAdd, Int.reduceSub, Int.reduceMul, Int.reduceNeg, Nat.reduceAdd, Nat.reduceSub, Nat.reduceMul, C_hhT E C W, R.2.2.2.2.2.1]
          exact ⟨_, _, _, rfl, rfl, CS.rf _, RS.rf _⟩
        · simp (disch := omega) only [Option.bind_some, if_true, if_false, not_true_eq_false, not_false_eq_true, z0, ii_add, ii_sub, ii_mul, ifLeT, ifLeF, ifLtT, ifLtF, ifEqT, ifEqF, ifNeT, ifNeF, ifIn, nixZ, ii_i64, o0, o1, isInT, isInF, tn14, tn12, tn2, tn21, tn47, tn48, tn49, tn471, tn472, Int.reduceToNat, Int.toNat_natCast, Int.reduceAdd, Int.reduceSub, Int.reduceMul, Int.reduceNeg, Nat.reduceAdd, Nat.reduceSub, Nat.reduceMul, C_hhT E C W, R.2.2.2.2.2.1]
          exact ⟨_, _, _, rfl, rfl, CS.rf _, RS.rf _⟩
    · by_cases q4 : n < 1
      · simp (disch := omega) only [Option.bind_some, if_true, if_false, not_true_eq_false, not_false_eq_true, z0, ii_add, ii_sub, ii_mul, ifLeT, ifLeF, ifLtT, ifLtF, ifEqT, ifEqF, ifNeT, ifNeF, ifIn, nixZ, ii_i64, o0, o1, isInT, isInF, tn14, tn12, tn2, tn21, tn47, tn48, tn49, tn471, tn472, Int.reduceToNat, Int.toNat_natCast, Int.reduceAdd, Int.reduceSub, Int.reduceMul, Int.reduceNeg, Nat.reduceAdd, Nat.reduceSub, Nat.reduceMul, C_hhT E C W, R.2.2.2.2.2.1]
        exact ⟨_, _, _, rfl, rfl, CS.rf _, RS.rf _⟩
      · simp (disch := omega) only [Option.bind_some, if_true, if_false, not_true_eq_false, not_false_eq_true, z0, ii_add, ii_sub, ii_mul, ifLeT, ifLeF, ifLtT, ifLtF, ifEqT, ifEqF, ifNeT, ifNeF, ifIn, nixZ, ii_i64, o0, o1, isInT, isInF, tn14, tn12, tn2, tn21, tn47, tn48, tn49, tn471, tn472, Int.reduceToNat, Int.toNat_natCast, Int.reduceAdd, Int.reduceSub, Int.reduceMul, Int.reduceNeg, Nat.reduceAdd, Nat.reduceSub, Nat.reduceMul, C_hhT E C W, R.2.2.2.2.2.1]
        exact ⟨_, _, _, rfl, rfl, CS.rf _, RS.rf _⟩
end P3
