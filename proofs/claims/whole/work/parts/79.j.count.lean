/-! count -/
section CO
variable {S : ST} {B : Nat} {h g h' g' : AH} {hd : Nat → Int} {d : DY} {o wr : Nat}
theorem or_z (x : Int32) : x ||| ii 0 = x := by
  rw [show ii 0 = 0 from rfl]
  exact Int32.or_zero
theorem add_z (x : Int32) : x + ii 0 = x := by
  rw [show ii 0 = 0 from rfl]
  exact Int32.add_zero x
theorem mk_ext {P : Nat → Bool} {n : Nat} : ∀ m, (∀ i, n ≤ i → i < n + m → P i = false) → mkI P (n + m) = mkI P n
  | 0, _ => rfl
  | m + 1, e => by
    rw [← Nat.add_assoc, mk_F (e (n + m) (by omega) (by omega))]
    exact mk_ext m (fun i h1 h2 => e i h1 (by omega))
theorem R_cwl (R : RH hd g) (D : RDy d g 97) (V : DW hd d) (W : HS hd) : R_count_L123 FU (ii 0) (ii 0) g = some (wlM d, g) := by
  have hcl := W.cells
  have hend : mkI (fun c => d (14 + c) != 0) (cellsM hd).toNat = wlM d := by
    unfold wlM
    have := mk_ext (P := fun c => d (14 + c) != 0) (n := (cellsM hd).toNat) (30 - (cellsM hd).toNat) (fun i h1 h2 => by
      obtain ⟨z, z0', z1', z2', z3'⟩ := V.2.2.1 i (by omega)
      rw [z2', z3' (by omega)]; rfl)
    rw [← this, show (cellsM hd).toNat + (30 - (cellsM hd).toNat) = 30 by omega]
  refine lup (fun m k (x : Int32) => R_count_L123 m x (ii k) g) (cellsM hd).toNat (fun k x => x = mkI (fun c => d (14 + c) != 0) k) (fun x => x = some (wlM d, g)) ?_ ?_ (cellsM hd).toNat 0 FU (ii 0) (by omega) (by unfold FU; omega) rfl
  · rintro m x rfl
    have e : ((cellsM hd).toNat : Int) = cellsM hd := by omega
    simp (disch := omega) only [Option.bind_some, if_true, if_false, not_true_eq_false, not_false_eq_true, z0, ii_add, ii_sub, ii_mul, ifLeT, ifLeF, ifLtT, ifLtF, ifEqT, ifEqF, ifNeT, ifNeF, ifIn, nixZ, ii_i64, o0, o1, isInT, isInF, tn14, tn12, tn2, tn21, tn47, tn48, tn49, tn471, tn472, Int.reduceToNat, Int.toNat_natCast, Int.reduceAdd, Int.reduceSub, Int.reduceMul, Int.reduceNeg, Nat.reduceAdd, Nat.reduceSub, Nat.reduceMul, R_count_L123, R_count_L123_b, R.2.2.2.2.2.1, e]
    exact congrArg (fun z => some (z, g)) hend
  · rintro m k x hk rfl
    right
    obtain ⟨z, z0', z1', z2', z3'⟩ := V.2.2.1 k (by omega)
    have t1 : (14 + (k : Int)).toNat = 14 + k := by omega
    have e1 : g.1 97 (14 + k) = ii z := by rw [D (14 + k) (by omega)]; exact z2'
    refine ⟨_, ?_, rfl⟩
    by_cases q : z = 0
    · have hf : (fun c => d (14 + c) != 0) k = false := by show (d (14 + k) != 0) = false; rw [z2', q]; rfl
      rw [mk_F hf]
      simp (disch := omega) only [Option.bind_some, if_true, if_false, not_true_eq_false, not_false_eq_true, z0, ii_add, ii_sub, ii_mul, ifLeT, ifLeF, ifLtT, ifLtF, ifEqT, ifEqF, ifNeT, ifNeF, ifIn, nixZ, ii_i64, o0, o1, isInT, isInF, tn14, tn12, tn2, tn21, tn47, tn48, tn49, tn471, tn472, Int.reduceToNat, Int.toNat_natCast, Int.reduceAdd, Int.reduceSub, Int.reduceMul, Int.reduceNeg, Nat.reduceAdd, Nat.reduceSub, Nat.reduceMul, R_count_L123, R_count_L123_b, R.2.2.2.2.2.1, t1, e1, or_z]
      rfl
    · have hf : (fun c => d (14 + c) != 0) k = true := by
        show (d (14 + k) != 0) = true
        rw [bne_iff_ne, z2', z0]
        intro e
        exact q ((ii_eq (by omega) (by omega) (by omega) (by omega)).mp e)
      rw [mk_T hf]
      simp (disch := omega) only [Option.bind_some, if_true, if_false, not_true_eq_false, not_false_eq_true, z0, ii_add, ii_sub, ii_mul, ifLeT, ifLeF, ifLtT, ifLtF, ifEqT, ifEqF, ifNeT, ifNeF, ifIn, nixZ, ii_i64, o0, o1, isInT, isInF, tn14, tn12, tn2, tn21, tn47, tn48, tn49, tn471, tn472, Int.reduceToNat, Int.toNat_natCast, Int.reduceAdd, Int.reduceSub, Int.reduceMul, Int.reduceNeg, Nat.reduceAdd, Nat.reduceSub, Nat.reduceMul, R_count_L123, R_count_L123_b, R.2.2.2.2.2.1, t1, e1, R_bit]
      rfl
def pyM (d : DY) : Nat → Int32
  | 0 => ii 0
  | n + 1 => pyM d n + d (2 * n + 1)
theorem C_cpay (M : MR hd d wr (mvO h 13)) (W : HS hd) : f_Moor_payOfAll 13 h = some (pyM d (hd 7).toNat) := by
  have hf := W.nf
  unfold f_Moor_payOfAll
  refine lup (fun m k (x : Int32) => Moor_payOfAll_L4 m 13 x (ii k) h) 6 (fun k x => x = pyM d (min k (hd 7).toNat)) (fun x => x = some (pyM d (hd 7).toNat)) ?_ ?_ 6 0 FU (ii 0) (by omega) (by unfold FU; omega) (by rw [Nat.zero_min]; rfl)
  · rintro m x rfl
    simp (disch := omega) only [Option.bind_some, if_true, if_false, not_true_eq_false, not_false_eq_true, z0, ii_add, ii_sub, ii_mul, ifLeT, ifLeF, ifLtT, ifLtF, ifEqT, ifEqF, ifNeT, ifNeF, ifIn, nixZ, ii_i64, o0, o1, isInT, isInF, tn14, tn12, tn2, tn21, tn47, tn48, tn49, tn471, tn472, Int.reduceToNat, Int.toNat_natCast, Int.reduceAdd, Int.reduceSub, Int.reduceMul, Int.reduceNeg, Nat.reduceAdd, Nat.reduceSub, Nat.reduceMul, Moor_payOfAll_L4, Moor_payOfAll_L4_b, Int.cast_ofNat_Int]
    rw [show min 6 (hd 7).toNat = (hd 7).toNat by omega]
  · rintro m k x hk rfl
    right
    have := M.2.1 k hk
    refine ⟨_, ?_, rfl⟩
    by_cases q : (k : Int) < hd 7
    · rw [if_pos q] at this
      have e1 : h.1 15 k = d (2 * k + 1) := this
      rw [show min (k + 1) (hd 7).toNat = k + 1 by omega, show min k (hd 7).toNat = k by omega]
      simp (disch := omega) only [Option.bind_some, if_true, if_false, not_true_eq_false, not_false_eq_true, z0, ii_add, ii_sub, ii_mul, ifLeT, ifLeF, ifLtT, ifLtF, ifEqT, ifEqF, ifNeT, ifNeF, ifIn, nixZ, ii_i64, o0, o1, isInT, isInF, tn14, tn12, tn2, tn21, tn47, tn48, tn49, tn471, tn472, Int.reduceToNat, Int.toNat_natCast, Int.reduceAdd, Int.reduceSub, Int.reduceMul, Int.reduceNeg, Nat.reduceAdd, Nat.reduceSub, Nat.reduceMul, Moor_payOfAll_L4, Moor_payOfAll_L4_b, e1]
      rfl
    · rw [if_neg q] at this
      have e1 : h.1 15 k = ii 0 := this
      rw [show min (k + 1) (hd 7).toNat = (hd 7).toNat by omega, show min k (hd 7).toNat = (hd 7).toNat by omega]
      simp (disch := omega) only [Option.bind_some, if_true, if_false, not_true_eq_false, not_false_eq_true, z0, ii_add, ii_sub, ii_mul, ifLeT, ifLeF, ifLtT, ifLtF, ifEqT, ifEqF, ifNeT, ifNeF, ifIn, nixZ, ii_i64, o0, o1, isInT, isInF, tn14, tn12, tn2, tn21, tn47, tn48, tn49, tn471, tn472, Int.reduceToNat, Int.toNat_natCast, Int.reduceAdd, Int.reduceSub, Int.reduceMul, Int.reduceNeg, Nat.reduceAdd, Nat.reduceSub, Nat.reduceMul, Moor_payOfAll_L4, Moor_payOfAll_L4_b, e1, add_z]
      rfl
theorem R_cpay (R : RH hd g) (D : RDy d g 97) (W : HS hd) : R_count_L166 FU (ii 0) (ii 0) g = some (pyM d (hd 7).toNat, g) := by
  have hf := W.nf
  refine lup (fun m k (x : Int32) => R_count_L166 m x (ii k) g) (hd 7).toNat (fun k x => x = pyM d k) (fun x => x = some (pyM d (hd 7).toNat, g)) ?_ ?_ (hd 7).toNat 0 FU (ii 0) (by omega) (by unfold FU; omega) rfl
  · rintro m x rfl
    have e : ((hd 7).toNat : Int) = hd 7 := by omega
    simp (disch := omega) only [Option.bind_some, if_true, if_false, not_true_eq_false, not_false_eq_true, z0, ii_add, ii_sub, ii_mul, ifLeT, ifLeF, ifLtT, ifLtF, ifEqT, ifEqF, ifNeT, ifNeF, ifIn, nixZ, ii_i64, o0, o1, isInT, isInF, tn14, tn12, tn2, tn21, tn47, tn48, tn49, tn471, tn472, Int.reduceToNat, Int.toNat_natCast, Int.reduceAdd, Int.reduceSub, Int.reduceMul, Int.reduceNeg, Nat.reduceAdd, Nat.reduceSub, Nat.reduceMul, R_count_L166, R_count_L166_b, R.2.2.2.2.1, e]
  · rintro m k x hk rfl
    right
    have t1 : (2 * (k : Int) + 1).toNat = 2 * k + 1 := by omega
    have e1 : g.1 97 (2 * k + 1) = d (2 * k + 1) := D (2 * k + 1) (by omega)
    refine ⟨_, ?_, rfl⟩
    simp (disch := omega) only [Option.bind_some, if_true, if_false, not_true_eq_false, not_false_eq_true, z0, ii_add, ii_sub, ii_mul, ifLeT, ifLeF, ifLtT, ifLtF, ifEqT, ifEqF, ifNeT, ifNeF, ifIn, nixZ, ii_i64, o0, o1, isInT, isInF, tn14, tn12, tn2, tn21, tn47, tn48, tn49, tn471, tn472, Int.reduceToNat, Int.toNat_natCast, Int.reduceAdd, Int.reduceSub, Int.reduceMul, Int.reduceNeg, Nat.reduceAdd, Nat.reduceSub, Nat.reduceMul, R_count_L166, R_count_L166_b, R.2.2.2.2.1, t1, e1]
    rfl
theorem k_count (V : VS S) (C : CRep S B h) (R : RRep S g) {a : Int} (a0 : -2147483648 ≤ a) (a1 : a ≤ 2147483647) : Call S B h g ((f_HF_count (ii a) h).bind fun x => some (x, h)) (f_R_count (ii a) g) := by
  have R0 : RRep S (wI g 80 0 (ii 0)) := R.keep V (RS.t0 g).1
  have Kt := RS.t0 g (v := ii 0)
  obtain ⟨c1, ⟨o, ho, o1', o2, o3⟩, ⟨wr, w1, w2, w3⟩, c4, c5, c6, c7⟩ := id C
  have W := V.2.1
  unfold f_HF_count f_HF_countOfMoor f_R_count
  generalize hg0 : wI g 80 0 (ii 0) = g0 at *
  obtain ⟨s1, s2, s3, s4, s5, s6, s7, s8, s9⟩ := id R0
  have e8 := R_cwl s2 s3 V.2.2.1 W
  have e9 := R_cpay s2 s3 W
  have e9' := C_cpay w2 W
  have e6' : h.1 13 6 = wlM (sD S) := w2.2.2.2.2.2.1
  have e12 := C_bookLength w2
  have e12' : g0.1 97 46 = ii (bL (sD S)) := by rw [s3 46 (by omega)]; exact V.2.2.1.2.2.2.1.1
  have e10 : h.1 13 7 = (sD S) 44 := w2.2.2.2.2.2.2.1
  have e7 : h.1 13 8 = (sD S) 45 := w2.2.2.2.2.2.2.2
  have e10' : g0.1 97 44 = (sD S) 44 := s3 44 (by omega)
  have e7' : g0.1 97 45 = (sD S) 45 := s3 45 (by omega)
  generalize FU = F at *
  by_cases q : 0 ≤ a ∧ a ≤ 13
  · rcases (show a = 0 ∨ a = 1 ∨ a = 2 ∨ a = 3 ∨ a = 4 ∨ a = 5 ∨ a = 6 ∨ a = 7 ∨ a = 8 ∨ a = 9 ∨ a = 10 ∨ a = 11 ∨ a = 12 ∨ a = 13 by omega) with e | e | e | e | e | e | e | e | e | e | e | e | e | e <;> subst e
    · simp (disch := omega) only [Option.bind_some, if_true, if_false, not_true_eq_false, not_false_eq_true, z0, ii_add, ii_sub, ii_mul, ifLeT, ifLeF, ifLtT, ifLtF, ifEqT, ifEqF, ifNeT, ifNeF, ifIn, nixZ, ii_i64, o0, o1, isInT, isInF, tn14, tn12, tn2, tn21, tn47, tn48, tn49, tn471, tn472, Int.reduceToNat, Int.toNat_natCast, Int.reduceAdd, Int.reduceSub, Int.reduceMul, Int.reduceNeg, Nat.reduceAdd, Nat.reduceSub, Nat.reduceMul, o1', o3.2.2.2.2.1, s2.2.2.2.2.2.1]
      exact call_same V C R rfl rfl (CS.rf _) Kt
    · simp (disch := omega) only [Option.bind_some, if_true, if_false, not_true_eq_false, not_false_eq_true, z0, ii_add, ii_sub, ii_mul, ifLeT, ifLeF, ifLtT, ifLtF, ifEqT, ifEqF, ifNeT, ifNeF, ifIn, nixZ, ii_i64, o0, o1, isInT, isInF, tn14, tn12, tn2, tn21, tn47, tn48, tn49, tn471, tn472, Int.reduceToNat, Int.toNat_natCast, Int.reduceAdd, Int.reduceSub, Int.reduceMul, Int.reduceNeg, Nat.reduceAdd, Nat.reduceSub, Nat.reduceMul, o1', o3.2.2.2.2.2.2.1, s2.2.1]
      exact call_same V C R rfl rfl (CS.rf _) Kt
    · simp (disch := omega) only [Option.bind_some, if_true, if_false, not_true_eq_false, not_false_eq_true, z0, ii_add, ii_sub, ii_mul, ifLeT, ifLeF, ifLtT, ifLtF, ifEqT, ifEqF, ifNeT, ifNeF, ifIn, nixZ, ii_i64, o0, o1, isInT, isInF, tn14, tn12, tn2, tn21, tn47, tn48, tn49, tn471, tn472, Int.reduceToNat, Int.toNat_natCast, Int.reduceAdd, Int.reduceSub, Int.reduceMul, Int.reduceNeg, Nat.reduceAdd, Nat.reduceSub, Nat.reduceMul, o1', o3.2.2.2.2.2.1, s2.2.2.2.2.1]
      exact call_same V C R rfl rfl (CS.rf _) Kt
    · simp (disch := omega) only [Option.bind_some, if_true, if_false, not_true_eq_false, not_false_eq_true, z0, ii_add, ii_sub, ii_mul, ifLeT, ifLeF, ifLtT, ifLtF, ifEqT, ifEqF, ifNeT, ifNeF, ifIn, nixZ, ii_i64, o0, o1, isInT, isInF, tn14, tn12, tn2, tn21, tn47, tn48, tn49, tn471, tn472, Int.reduceToNat, Int.toNat_natCast, Int.reduceAdd, Int.reduceSub, Int.reduceMul, Int.reduceNeg, Nat.reduceAdd, Nat.reduceSub, Nat.reduceMul, c6.1, s7.1]
      exact call_same V C R rfl rfl (CS.rf _) Kt
    · simp (disch := omega) only [Option.bind_some, if_true, if_false, not_true_eq_false, not_false_eq_true, z0, ii_add, ii_sub, ii_mul, ifLeT, ifLeF, ifLtT, ifLtF, ifEqT, ifEqF, ifNeT, ifNeF, ifIn, nixZ, ii_i64, o0, o1, isInT, isInF, tn14, tn12, tn2, tn21, tn47, tn48, tn49, tn471, tn472, Int.reduceToNat, Int.toNat_natCast, Int.reduceAdd, Int.reduceSub, Int.reduceMul, Int.reduceNeg, Nat.reduceAdd, Nat.reduceSub, Nat.reduceMul, c7.1, s8.1]
      exact call_same V C R rfl rfl (CS.rf _) Kt
    · simp (disch := omega) only [Option.bind_some, if_true, if_false, not_true_eq_false, not_false_eq_true, z0, ii_add, ii_sub, ii_mul, ifLeT, ifLeF, ifLtT, ifLtF, ifEqT, ifEqF, ifNeT, ifNeF, ifIn, nixZ, ii_i64, o0, o1, isInT, isInF, tn14, tn12, tn2, tn21, tn47, tn48, tn49, tn471, tn472, Int.reduceToNat, Int.toNat_natCast, Int.reduceAdd, Int.reduceSub, Int.reduceMul, Int.reduceNeg, Nat.reduceAdd, Nat.reduceSub, Nat.reduceMul, c1.1, s1.1]
      exact call_same V C R rfl rfl (CS.rf _) Kt
    · simp (disch := omega) only [Option.bind_some, if_true, if_false, not_true_eq_false, not_false_eq_true, z0, ii_add, ii_sub, ii_mul, ifLeT, ifLeF, ifLtT, ifLtF, ifEqT, ifEqF, ifNeT, ifNeF, ifIn, nixZ, ii_i64, o0, o1, isInT, isInF, tn14, tn12, tn2, tn21, tn47, tn48, tn49, tn471, tn472, Int.reduceToNat, Int.toNat_natCast, Int.reduceAdd, Int.reduceSub, Int.reduceMul, Int.reduceNeg, Nat.reduceAdd, Nat.reduceSub, Nat.reduceMul, c6.2.1, s7.2.1]
      exact call_same V C R rfl rfl (CS.rf _) Kt
    · simp (disch := omega) only [Option.bind_some, if_true, if_false, not_true_eq_false, not_false_eq_true, z0, ii_add, ii_sub, ii_mul, ifLeT, ifLeF, ifLtT, ifLtF, ifEqT, ifEqF, ifNeT, ifNeF, ifIn, nixZ, ii_i64, o0, o1, isInT, isInF, tn14, tn12, tn2, tn21, tn47, tn48, tn49, tn471, tn472, Int.reduceToNat, Int.toNat_natCast, Int.reduceAdd, Int.reduceSub, Int.reduceMul, Int.reduceNeg, Nat.reduceAdd, Nat.reduceSub, Nat.reduceMul, e7, e7']
      exact call_same V C R rfl rfl (CS.rf _) Kt
    · simp (disch := omega) only [Option.bind_some, if_true, if_false, not_true_eq_false, not_false_eq_true, z0, ii_add, ii_sub, ii_mul, ifLeT, ifLeF, ifLtT, ifLtF, ifEqT, ifEqF, ifNeT, ifNeF, ifIn, nixZ, ii_i64, o0, o1, isInT, isInF, tn14, tn12, tn2, tn21, tn47, tn48, tn49, tn471, tn472, Int.reduceToNat, Int.toNat_natCast, Int.reduceAdd, Int.reduceSub, Int.reduceMul, Int.reduceNeg, Nat.reduceAdd, Nat.reduceSub, Nat.reduceMul, e6', e8]
      exact call_same V C R rfl rfl (CS.rf _) Kt
    · simp (disch := omega) only [Option.bind_some, if_true, if_false, not_true_eq_false, not_false_eq_true, z0, ii_add, ii_sub, ii_mul, ifLeT, ifLeF, ifLtT, ifLtF, ifEqT, ifEqF, ifNeT, ifNeF, ifIn, nixZ, ii_i64, o0, o1, isInT, isInF, tn14, tn12, tn2, tn21, tn47, tn48, tn49, tn471, tn472, Int.reduceToNat, Int.toNat_natCast, Int.reduceAdd, Int.reduceSub, Int.reduceMul, Int.reduceNeg, Nat.reduceAdd, Nat.reduceSub, Nat.reduceMul, e9', e9]
      exact call_same V C R rfl rfl (CS.rf _) Kt
    · simp (disch := omega) only [Option.bind_some, if_true, if_false, not_true_eq_false, not_false_eq_true, z0, ii_add, ii_sub, ii_mul, ifLeT, ifLeF, ifLtT, ifLtF, ifEqT, ifEqF, ifNeT, ifNeF, ifIn, nixZ, ii_i64, o0, o1, isInT, isInF, tn14, tn12, tn2, tn21, tn47, tn48, tn49, tn471, tn472, Int.reduceToNat, Int.toNat_natCast, Int.reduceAdd, Int.reduceSub, Int.reduceMul, Int.reduceNeg, Nat.reduceAdd, Nat.reduceSub, Nat.reduceMul, e10, e10']
      exact call_same V C R rfl rfl (CS.rf _) Kt
    · simp (disch := omega) only [Option.bind_some, if_true, if_false, not_true_eq_false, not_false_eq_true, z0, ii_add, ii_sub, ii_mul, ifLeT, ifLeF, ifLtT, ifLtF, ifEqT, ifEqF, ifNeT, ifNeF, ifIn, nixZ, ii_i64, o0, o1, isInT, isInF, tn14, tn12, tn2, tn21, tn47, tn48, tn49, tn471, tn472, Int.reduceToNat, Int.toNat_natCast, Int.reduceAdd, Int.reduceSub, Int.reduceMul, Int.reduceNeg, Nat.reduceAdd, Nat.reduceSub, Nat.reduceMul, c5.1, s6.1]
      exact call_same V C R rfl rfl (CS.rf _) Kt
    · simp (disch := omega) only [Option.bind_some, if_true, if_false, not_true_eq_false, not_false_eq_true, z0, ii_add, ii_sub, ii_mul, ifLeT, ifLeF, ifLtT, ifLtF, ifEqT, ifEqF, ifNeT, ifNeF, ifIn, nixZ, ii_i64, o0, o1, isInT, isInF, tn14, tn12, tn2, tn21, tn47, tn48, tn49, tn471, tn472, Int.reduceToNat, Int.toNat_natCast, Int.reduceAdd, Int.reduceSub, Int.reduceMul, Int.reduceNeg, Nat.reduceAdd, Nat.reduceSub, Nat.reduceMul, e12, e12']
      exact call_same V C R rfl rfl (CS.rf _) Kt
    · simp (disch := omega) only [Option.bind_some, if_true, if_false, not_true_eq_false, not_false_eq_true, z0, ii_add, ii_sub, ii_mul, ifLeT, ifLeF, ifLtT, ifLtF, ifEqT, ifEqF, ifNeT, ifNeF, ifIn, nixZ, ii_i64, o0, o1, isInT, isInF, tn14, tn12, tn2, tn21, tn47, tn48, tn49, tn471, tn472, Int.reduceToNat, Int.toNat_natCast, Int.reduceAdd, Int.reduceSub, Int.reduceMul, Int.reduceNeg, Nat.reduceAdd, Nat.reduceSub, Nat.reduceMul, w3.1, s4.1]
      exact call_same V C R rfl rfl (CS.rf _) Kt
  · simp (disch := omega) only [Option.bind_some, if_true, if_false, not_true_eq_false, not_false_eq_true, z0, ii_add, ii_sub, ii_mul, ifLeT, ifLeF, ifLtT, ifLtF, ifEqT, ifEqF, ifNeT, ifNeF, ifIn, nixZ, ii_i64, o0, o1, isInT, isInF, tn14, tn12, tn2, tn21, tn47, tn48, tn49, tn471, tn472, Int.reduceToNat, Int.toNat_natCast, Int.reduceAdd, Int.reduceSub, Int.reduceMul, Int.reduceNeg, Nat.reduceAdd, Nat.reduceSub, Nat.reduceMul]
    exact call_same V C R rfl rfl (CS.rf _) Kt
end CO
