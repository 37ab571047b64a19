/-! sink: how many twitched, and their pay -/
section SL
variable {S : ST} {B : Nat} {h g h' g' : AH} {hd : Nat → Int} {d : DY} {o wr : Nat}
def nT (x : Int32) : Nat → Int
  | 0 => 0
  | n + 1 => nT x n + (if tb x n then 1 else 0)
theorem nT_lo (x : Int32) : ∀ n : Nat, 0 ≤ nT x n ∧ nT x n ≤ n
  | 0 => ⟨Int.le_refl _, Int.le_refl _⟩
  | n + 1 => by
    have := nT_lo x n
    unfold nT
    split <;> omega
theorem pc6 {x : Int32} (hx : ∀ i, 6 ≤ i → tb x i = false) : p_Int_bitCount x = ii (nT x 6) := by
  have e1 := mk_tb x (n := 6) (by omega) hx
  have hn : x.toBitVec.toNat % 64 < 64 := Nat.mod_lt _ (by omega)
  have e2 := pc_six (x.toBitVec.toNat % 64) hn
  have e3 : ∀ i, i < 6 → (x.toBitVec.toNat % 64).testBit i = tb x i := fun i hi => by
    rw [show (64 : Nat) = 2 ^ 6 from rfl, Nat.testBit_mod_two_pow]
    simp only [hi, decide_true, Bool.true_and]
    rfl
  rw [mk_eq e3, ← e1] at e2
  rw [e2]
  congr 1
  simp only [sumN, nT, e3 0 (by omega), e3 1 (by omega), e3 2 (by omega), e3 3 (by omega), e3 4 (by omega), e3 5 (by omega)]
theorem nT_hi {x : Int32} {n : Nat} (hx : ∀ i, n ≤ i → tb x i = false) : ∀ m, nT x (n + m) = nT x n
  | 0 => rfl
  | m + 1 => by
    show nT x (n + m) + (if tb x (n + m) then 1 else 0) = nT x n
    rw [hx (n + m) (by omega), nT_hi hx m]
    simp
theorem R_nT (R : RH hd g) (D : RDy d g 97) (V : DW hd d) (W : HS hd) {c : Nat} (hc : c < 30) {x v2 v3 : Int32} (hx : ∀ f, tb x f = true ↔ ∃ j, j < bL d ∧ hitM d c f j) : R_sink_L95 FU (ii c) v2 v3 (ii 0) (ii 0) g = some (ii (nT x (hd 7).toNat)) := by
  have hnf := W.nf
  refine lup (fun m k (y : Int32) => R_sink_L95 m (ii c) v2 v3 y (ii k) g) (hd 7).toNat (fun k y => y = ii (nT x k)) (fun z => z = some (ii (nT x (hd 7).toNat))) ?_ ?_ (hd 7).toNat 0 FU (ii 0) (by omega) (by unfold FU; omega) rfl
  · rintro m y rfl
    have e : ((hd 7).toNat : Int) = hd 7 := by omega
    simp (disch := omega) only [Option.bind_some, if_true, if_false, not_true_eq_false, not_false_eq_true, z0, ii_add, ii_sub, ii_mul, ifLeT, ifLeF, ifLtT, ifLtF, ifEqT, ifEqF, ifNeT, ifNeF, ifIn, nixZ, ii_i64, o0, o1, isInT, isInF, tn14, tn12, tn2, tn21, tn47, tn48, tn49, tn471, tn472, Int.reduceToNat, Int.toNat_natCast, Int.reduceAdd, Int.reduceSub, Int.reduceMul, Int.reduceNeg, Nat.reduceAdd, Nat.reduceSub, Nat.reduceMul, R_sink_L95, R_sink_L95_b, R.2.2.2.2.1, e]
  · rintro m k y hk rfl
    right
    have e1 := R_hasT D V W (f := k) (c := c) (by omega) hc (hx k)
    refine ⟨_, ?_, rfl⟩
    have ev : ii (nT x k) + (if (if tb x k = true then ii 1 else ii 0) = ii 0 then ii 0 else ii 1) = ii (nT x (k + 1)) := by
      show _ = ii (nT x k + _)
      by_cases q : tb x k = true
      · rw [if_pos q, if_neg (by decide), if_pos q, ii_add]
      · rw [if_neg q, if_pos rfl, if_neg q, ii_add]
    simp (disch := omega) only [Option.bind_some, if_true, if_false, not_true_eq_false, not_false_eq_true, z0, ii_add, ii_sub, ii_mul, ifLeT, ifLeF, ifLtT, ifLtF, ifEqT, ifEqF, ifNeT, ifNeF, ifIn, nixZ, ii_i64, o0, o1, isInT, isInF, tn14, tn12, tn2, tn21, tn47, tn48, tn49, tn471, tn472, Int.reduceToNat, Int.toNat_natCast, Int.reduceAdd, Int.reduceSub, Int.reduceMul, Int.reduceNeg, Nat.reduceAdd, Nat.reduceSub, Nat.reduceMul, R_sink_L95, R_sink_L95_b, R.2.2.2.2.1, e1]
    rw [ev]; rfl
end SL
