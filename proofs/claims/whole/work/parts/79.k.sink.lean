/-! sink: who twitched -/
section SK
variable {S : ST} {B : Nat} {h g h' g' : AH} {hd : Nat → Int} {d : DY} {o wr : Nat}
theorem vI_i {z : Int} (h1 : -2147483648 ≤ z) (h2 : z ≤ 2147483647) : vI (ii z) = z := ((ii_eq (vI_lo _).1 (vI_lo _).2 h1 h2).mp (vI_ii (ii z)).symm)
/-- row j of the book says that f twitched in c -/
def hitM (d : DY) (c f j : Nat) : Prop := vI (d (47 + 3 * j)) = f ∧ vI (d (48 + 3 * j)) = c ∧ 0 < vI (d (49 + 3 * j))
theorem R_hasT (D : RDy d g 97) (V : DW hd d) (W : HS hd) {f c : Nat} (hf : f < 6) (hc : c < 30) {b : Bool} (hb : b = true ↔ ∃ j, j < bL d ∧ hitM d c f j) : f_R_hasTwitched (ii f) (ii c) g = some (if b then ii 1 else ii 0) := by
  have hb60 := V.2.2.2.1.2
  have hcl := W.cells
  have hnf := W.nf
  have e46 : g.1 97 46 = ii (bL d) := by rw [D 46 (by omega)]; exact V.2.2.2.1.1
  unfold f_R_hasTwitched
  refine lup (fun m k (_ : Unit) => R_hasTwitched_L2 m (ii f) (ii c) (ii k) g) (bL d) (fun k _ => ∀ j, j < k → ¬ hitM d c f j) (fun x => x = some (if b then ii 1 else ii 0)) ?_ ?_ (bL d) 0 FU () (by omega) (by unfold FU; omega) (fun j hj => by omega)
  · intro m _ r1
    have hbf : ¬ b = true := fun e => by obtain ⟨j, h1, h2⟩ := hb.mp e; exact r1 j h1 h2
    rw [if_neg hbf]
    simp (disch := omega) only [Option.bind_some, if_true, if_false, not_true_eq_false, not_false_eq_true, z0, ii_add, ii_sub, ii_mul, ifLeT, ifLeF, ifLtT, ifLtF, ifEqT, ifEqF, ifNeT, ifNeF, ifIn, nixZ, ii_i64, o0, o1, isInT, isInF, tn14, tn12, tn2, tn21, tn47, tn48, tn49, tn471, tn472, Int.reduceToNat, Int.toNat_natCast, Int.reduceAdd, Int.reduceSub, Int.reduceMul, Int.reduceNeg, Nat.reduceAdd, Nat.reduceSub, Nat.reduceMul, R_hasTwitched_L2, R_hasTwitched_L2_b, e46]
  · intro m k _ hk r1
    obtain ⟨f', c', t', ⟨x1, x2, x3, x4, x5, x6⟩, y1, y2, y3⟩ := V.2.2.2.2 k hk
    have t0 : (47 + 3 * (k : Int)).toNat = 47 + 3 * k := by omega
    have t1 : (47 + 3 * (k : Int) + 1).toNat = 48 + 3 * k := by omega
    have t2 : (47 + 3 * (k : Int) + 2).toNat = 49 + 3 * k := by omega
    have e0 : g.1 97 (47 + 3 * k) = ii f' := by rw [D _ (by omega)]; exact y1
    have e1 : g.1 97 (48 + 3 * k) = ii c' := by rw [D _ (by omega)]; exact y2
    have e2 : g.1 97 (49 + 3 * k) = ii t' := by rw [D _ (by omega)]; exact y3
    have hit : hitM d c f k ↔ (f' = f ∧ c' = c ∧ 0 < t') := by
      unfold hitM
      rw [y1, y2, y3, vI_i (by omega) (by omega), vI_i (by omega) (by omega), vI_i (by omega) (by omega)]
    by_cases q : f' = f ∧ c' = c ∧ 0 < t'
    · left
      rw [if_pos (hb.mpr ⟨k, hk, hit.mpr q⟩)]
      obtain ⟨q1, q2, q3⟩ := q
      simp (disch := omega) only [Option.bind_some, if_true, if_false, not_true_eq_false, not_false_eq_true, z0, ii_add, ii_sub, ii_mul, ifLeT, ifLeF, ifLtT, ifLtF, ifEqT, ifEqF, ifNeT, ifNeF, ifIn, nixZ, ii_i64, o0, o1, isInT, isInF, tn14, tn12, tn2, tn21, tn47, tn48, tn49, tn471, tn472, Int.reduceToNat, Int.toNat_natCast, Int.reduceAdd, Int.reduceSub, Int.reduceMul, Int.reduceNeg, Nat.reduceAdd, Nat.reduceSub, Nat.reduceMul, R_hasTwitched_L2, R_hasTwitched_L2_b, e46, t0, t1, t2, e0, e1, e2]
    · right
      refine ⟨(), ?_, fun j hj => ?_⟩
      · by_cases q1 : f' = f
        · by_cases q2 : c' = c
          · simp (disch := omega) only [Option.bind_some, if_true, if_false, not_true_eq_false, not_false_eq_true, z0, ii_add, ii_sub, ii_mul, ifLeT, ifLeF, ifLtT, ifLtF, ifEqT, ifEqF, ifNeT, ifNeF, ifIn, nixZ, ii_i64, o0, o1, isInT, isInF, tn14, tn12, tn2, tn21, tn47, tn48, tn49, tn471, tn472, Int.reduceToNat, Int.toNat_natCast, Int.reduceAdd, Int.reduceSub, Int.reduceMul, Int.reduceNeg, Nat.reduceAdd, Nat.reduceSub, Nat.reduceMul, R_hasTwitched_L2, R_hasTwitched_L2_b, e46, t0, t1, t2, e0, e1, e2]
            rfl
          · simp (disch := omega) only [Option.bind_some, if_true, if_false, not_true_eq_false, not_false_eq_true, z0, ii_add, ii_sub, ii_mul, ifLeT, ifLeF, ifLtT, ifLtF, ifEqT, ifEqF, ifNeT, ifNeF, ifIn, nixZ, ii_i64, o0, o1, isInT, isInF, tn14, tn12, tn2, tn21, tn47, tn48, tn49, tn471, tn472, Int.reduceToNat, Int.toNat_natCast, Int.reduceAdd, Int.reduceSub, Int.reduceMul, Int.reduceNeg, Nat.reduceAdd, Nat.reduceSub, Nat.reduceMul, R_hasTwitched_L2, R_hasTwitched_L2_b, e46, t0, t1, t2, e0, e1, e2]
            rfl
        · simp (disch := omega) only [Option.bind_some, if_true, if_false, not_true_eq_false, not_false_eq_true, z0, ii_add, ii_sub, ii_mul, ifLeT, ifLeF, ifLtT, ifLtF, ifEqT, ifEqF, ifNeT, ifNeF, ifIn, nixZ, ii_i64, o0, o1, isInT, isInF, tn14, tn12, tn2, tn21, tn47, tn48, tn49, tn471, tn472, Int.reduceToNat, Int.toNat_natCast, Int.reduceAdd, Int.reduceSub, Int.reduceMul, Int.reduceNeg, Nat.reduceAdd, Nat.reduceSub, Nat.reduceMul, R_hasTwitched_L2, R_hasTwitched_L2_b, e46, t0, t1, t2, e0, e1, e2]
          rfl
      · by_cases e : j = k
        · rw [e, hit]; exact q
        · exact r1 j (by omega)
theorem C_twIn (M : MR hd d wr (mvO h 13)) (V : DW hd d) (W : HS hd) {c : Nat} (hc : c < 30) : ∃ x, f_Moor_twitchersIn 13 (ii c) h = some x ∧ (∀ f, tb x f = true ↔ ∃ j, j < bL d ∧ hitM d c f j) := by
  have hb60 := V.2.2.2.1.2
  have hcl := W.cells
  have hnf := W.nf
  unfold f_Moor_twitchersIn
  refine lup (fun m k (x : Int32) => Moor_twitchersIn_L4 m 13 (ii c) x (ii k) h) (bL d) (fun k x => ∀ f, tb x f = true ↔ ∃ j, bL d - k ≤ j ∧ j < bL d ∧ hitM d c f j) (fun y => ∃ x, y = some x ∧ ∀ f, tb x f = true ↔ ∃ j, j < bL d ∧ hitM d c f j) ?_ ?_ (bL d) 0 FU (ii 0) (by omega) (by unfold FU; omega) (fun f => by rw [tb_0]; exact Iff.intro (fun e => absurd e (by decide)) (fun ⟨j, h1, h2, _⟩ => absurd h2 (by omega)))
  · rintro m x r1
    simp (disch := omega) only [Option.bind_some, if_true, if_false, not_true_eq_false, not_false_eq_true, z0, ii_add, ii_sub, ii_mul, ifLeT, ifLeF, ifLtT, ifLtF, ifEqT, ifEqF, ifNeT, ifNeF, ifIn, nixZ, ii_i64, o0, o1, isInT, isInF, tn14, tn12, tn2, tn21, tn47, tn48, tn49, tn471, tn472, Int.reduceToNat, Int.toNat_natCast, Int.reduceAdd, Int.reduceSub, Int.reduceMul, Int.reduceNeg, Nat.reduceAdd, Nat.reduceSub, Nat.reduceMul, Moor_twitchersIn_L4, Moor_twitchersIn_L4_b, C_bookLength M]
    refine ⟨x, rfl, fun f => (r1 f).trans ⟨fun ⟨j, h1, h2, h3⟩ => ⟨j, h2, h3⟩, fun ⟨j, h2, h3⟩ => ⟨j, by omega, h2, h3⟩⟩⟩
  · rintro m k x hk r1
    right
    obtain ⟨j, hj⟩ : ∃ j, j = bL d - 1 - k := ⟨_, rfl⟩
    obtain ⟨f', c', t', ⟨x1, x2, x3, x4, x5, x6⟩, y1, y2, y3⟩ := V.2.2.2.2 j (by omega)
    obtain ⟨fn, hfn⟩ := Int.eq_ofNat_of_zero_le x1
    have e0 := C_fkI M V W hk hj
    have e1 := C_ceI M V W hk hj
    have e2 := C_twI M V W hk hj
    rw [y1, vI_i (by omega) (by omega)] at e0
    rw [y2, vI_i (by omega) (by omega)] at e1
    rw [y3, vI_i (by omega) (by omega)] at e2
    have hit : ∀ f, hitM d c f j ↔ (f' = (f : Int) ∧ c' = c ∧ 0 < t') := fun f => by
      unfold hitM
      rw [y1, y2, y3, vI_i (by omega) (by omega), vI_i (by omega) (by omega), vI_i (by omega) (by omega)]
    have step : ∀ x' f, (tb x' f = true ↔ tb x f = true ∨ hitM d c f j) → (tb x' f = true ↔ ∃ j, bL d - (k + 1) ≤ j ∧ j < bL d ∧ hitM d c f j) := fun x' f e => by
      rw [e, r1 f]
      constructor
      · rintro (⟨i, h1, h2, h3⟩ | h3)
        · exact ⟨i, by omega, h2, h3⟩
        · exact ⟨j, by omega, by omega, h3⟩
      · rintro ⟨i, h1, h2, h3⟩
        by_cases q : i = j
        · right; rw [← q]; exact h3
        · left; exact ⟨i, by omega, h2, h3⟩
    by_cases q : c' = c ∧ 0 < t'
    · refine ⟨x ||| bitI fn, ?_, fun f => step _ f ?_⟩
      · obtain ⟨q1, q2⟩ := q
        simp (disch := omega) only [Option.bind_some, if_true, if_false, not_true_eq_false, not_false_eq_true, z0, ii_add, ii_sub, ii_mul, ifLeT, ifLeF, ifLtT, ifLtF, ifEqT, ifEqF, ifNeT, ifNeF, ifIn, nixZ, ii_i64, o0, o1, isInT, isInF, tn14, tn12, tn2, tn21, tn47, tn48, tn49, tn471, tn472, Int.reduceToNat, Int.toNat_natCast, Int.reduceAdd, Int.reduceSub, Int.reduceMul, Int.reduceNeg, Nat.reduceAdd, Nat.reduceSub, Nat.reduceMul, Moor_twitchersIn_L4, Moor_twitchersIn_L4_b, C_bookLength M, e0, e1, e2, C_bit, hfn]
        rfl
      · rw [tb_or, tb_bit (by omega), hit, Bool.or_eq_true, decide_eq_true_eq]
        constructor
        · rintro (z | z)
          · exact Or.inl z
          · exact Or.inr ⟨by omega, q.1, q.2⟩
        · rintro (z | z)
          · exact Or.inl z
          · exact Or.inr (by omega)
    · refine ⟨x, ?_, fun f => step _ f ?_⟩
      · by_cases q1 : c' = c
        · simp (disch := omega) only [Option.bind_some, if_true, if_false, not_true_eq_false, not_false_eq_true, z0, ii_add, ii_sub, ii_mul, ifLeT, ifLeF, ifLtT, ifLtF, ifEqT, ifEqF, ifNeT, ifNeF, ifIn, nixZ, ii_i64, o0, o1, isInT, isInF, tn14, tn12, tn2, tn21, tn47, tn48, tn49, tn471, tn472, Int.reduceToNat, Int.toNat_natCast, Int.reduceAdd, Int.reduceSub, Int.reduceMul, Int.reduceNeg, Nat.reduceAdd, Nat.reduceSub, Nat.reduceMul, Moor_twitchersIn_L4, Moor_twitchersIn_L4_b, C_bookLength M, e0, e1, e2]
          rfl
        · simp (disch := omega) only [Option.bind_some, if_true, if_false, not_true_eq_false, not_false_eq_true, z0, ii_add, ii_sub, ii_mul, ifLeT, ifLeF, ifLtT, ifLtF, ifEqT, ifEqF, ifNeT, ifNeF, ifIn, nixZ, ii_i64, o0, o1, isInT, isInF, tn14, tn12, tn2, tn21, tn47, tn48, tn49, tn471, tn472, Int.reduceToNat, Int.toNat_natCast, Int.reduceAdd, Int.reduceSub, Int.reduceMul, Int.reduceNeg, Nat.reduceAdd, Nat.reduceSub, Nat.reduceMul, Moor_twitchersIn_L4, Moor_twitchersIn_L4_b, C_bookLength M, e0, e1, e2]
          rfl
      · rw [hit]
        exact ⟨Or.inl, fun z => z.elim id (fun z => absurd z.2 q)⟩
end SK
