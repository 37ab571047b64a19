/-! sink: the pay -/
section SP
variable {S : ST} {B : Nat} {h g h' g' : AH} {hd : Nat → Int} {d : DY} {o wr : Nat}
def paD (d : DY) (x v : Int32) (n : Nat) : DY := fun j => if j < 2 * n ∧ j % 2 = 1 then d j + (if tb x (j / 2) then v else ii 0) else d j
theorem paD_hi {x v : Int32} {n j : Nat} (hj : 2 * n ≤ j) : paD d x v n j = d j := by unfold paD; rw [if_neg (by omega)]
theorem paD_ev {x v : Int32} {n j : Nat} : paD d x v n (2 * j) = d (2 * j) := by unfold paD; rw [if_neg (by omega)]
theorem paD_bL {x v : Int32} {n : Nat} (hn : n ≤ 6) : bL (paD d x v n) = bL d := by unfold bL; rw [paD_hi (by omega)]
theorem paD_hit {x v : Int32} {n c f j : Nat} (hn : n ≤ 6) : hitM (paD d x v n) c f j ↔ hitM d c f j := by unfold hitM; rw [paD_hi (by omega), paD_hi (by omega), paD_hi (by omega)]
theorem DW.pa (V : DW hd d) {x v : Int32} {n : Nat} (hn : n ≤ 6) : DW hd (paD d x v n) := by
  obtain ⟨v1, v2, v3, v4, v5⟩ := V
  have eb := paD_bL (d := d) (x := x) (v := v) hn
  refine ⟨by rw [paD_hi (by omega)]; exact v1, fun f hf => by rw [paD_ev]; exact v2 f hf, fun c hc => by rw [paD_hi (by omega)]; exact v3 c hc, by rw [eb, paD_hi (by omega)]; exact v4, fun j hj => ?_⟩
  rw [eb] at hj
  rw [paD_hi (by omega), paD_hi (by omega), paD_hi (by omega)]; exact v5 j hj
theorem paD_s {x v : Int32} {n j : Nat} : upd (paD d x v n) (2 * n + 1) (d (2 * n + 1) + (if tb x n then v else ii 0)) j = paD d x v (n + 1) j := by
  by_cases e : j = 2 * n + 1
  · rw [e, upd_self]
    unfold paD
    rw [if_pos (show 2 * n + 1 < 2 * (n + 1) ∧ (2 * n + 1) % 2 = 1 by omega), show (2 * n + 1) / 2 = n by omega]
  · rw [upd_ne e]
    unfold paD
    by_cases q : j < 2 * n ∧ j % 2 = 1
    · rw [if_pos q, if_pos (show j < 2 * (n + 1) ∧ j % 2 = 1 by omega)]
    · rw [if_neg q, if_neg (show ¬ (j < 2 * (n + 1) ∧ j % 2 = 1) by omega)]
theorem R_pay (R : RH hd g) (D : RDy d g 97) (V : DW hd d) (W : HS hd) {c : Nat} (hc : c < 30) {x : Int32} (hx : ∀ f, tb x f = true ↔ ∃ j, j < bL d ∧ hitM d c f j) {pr n : Int} (p0 : 0 ≤ pr) (p1 : pr ≤ 1000000) (n0 : 1 ≤ n) (n1 : n ≤ 6) : ∃ g1, R_sink_L151 FU (ii c) (ii pr) (ii n) (ii 0) g = some (ii pr, g1) ∧ RDy (paD d x (ii (pr / 10 / n)) (hd 7).toNat) g1 97 ∧ Ag [97] g g1 := by
  have hnf := W.nf
  refine lup (fun m k (y : AH) => R_sink_L151 m (ii c) (ii pr) (ii n) (ii k) y) (hd 7).toNat (fun k y => RDy (paD d x (ii (pr / 10 / n)) k) y 97 ∧ Ag [97] g y) (fun z => ∃ g1, z = some (ii pr, g1) ∧ RDy (paD d x (ii (pr / 10 / n)) (hd 7).toNat) g1 97 ∧ Ag [97] g g1) ?_ ?_ (hd 7).toNat 0 FU g (by omega) (by unfold FU; omega) ⟨fun j hj => by rw [paD_hi (by omega)]; exact D j hj, Ag.rf _ _⟩
  · rintro m y ⟨r1, r2⟩
    have e : ((hd 7).toNat : Int) = hd 7 := by omega
    have e33 : y.1 80 33 = ii (hd 7) := by rw [r2.1 80 (by decide)]; exact R.2.2.2.2.1
    simp (disch := omega) only [Option.bind_some, if_true, if_false, not_true_eq_false, not_false_eq_true, z0, ii_add, ii_sub, ii_mul, ifLeT, ifLeF, ifLtT, ifLtF, ifEqT, ifEqF, ifNeT, ifNeF, ifIn, nixZ, ii_i64, o0, o1, isInT, isInF, tn14, tn12, tn2, tn21, tn47, tn48, tn49, tn471, tn472, Int.reduceToNat, Int.toNat_natCast, Int.reduceAdd, Int.reduceSub, Int.reduceMul, Int.reduceNeg, Nat.reduceAdd, Nat.reduceSub, Nat.reduceMul, R_sink_L151, R_sink_L151_b, e33, e]
    exact ⟨y, rfl, r1, r2⟩
  · rintro m k y hk ⟨r1, r2⟩
    right
    have e33 : y.1 80 33 = ii (hd 7) := by rw [r2.1 80 (by decide)]; exact R.2.2.2.2.1
    have e1 := R_hasT r1 (V.pa (by omega)) W (f := k) (c := c) (by omega) hc (b := tb x k) (by
      rw [hx k, paD_bL (by omega)]
      exact ⟨fun ⟨j, h1, h2⟩ => ⟨j, h1, (paD_hit (by omega)).mpr h2⟩, fun ⟨j, h1, h2⟩ => ⟨j, h1, (paD_hit (by omega)).mp h2⟩⟩)
    have t1 : (2 * (k : Int) + 1).toNat = 2 * k + 1 := by omega
    have e2 : y.1 97 (2 * k + 1) = d (2 * k + 1) := by rw [r1 _ (by omega), paD_hi (by omega)]
    have e3 : (if (if tb x k = true then ii 1 else ii 0) = 0 then some (ii 0) else if ¬ (ii 10) = 0 then if ¬ ii n = 0 then some ((ii pr / (ii 10)) / ii n) else none else none) = some (if tb x k then ii (pr / 10 / n) else ii 0) := by
      have hd10 : pr / 10 ≤ pr := Int.ediv_le_self _ p0
      have hd0 : 0 ≤ pr / 10 := Int.ediv_nonneg p0 (by omega)
      by_cases q : tb x k = true
      · rw [if_pos q, if_pos q, if_neg (by decide), if_pos (by decide), if_pos (by rw [z0, ii_eq (by omega) (by omega) (by omega) (by omega)]; omega), ii_div (by omega) (by omega) (by omega) (by omega), ii_div (by omega) (by omega) (by omega) (by omega)]
      · rw [if_neg q, if_neg q, if_pos (by decide)]
    refine ⟨wI y 97 (2 * k + 1) (d (2 * k + 1) + (if tb x k then ii (pr / 10 / n) else ii 0)), ?_, ?_, r2.pI (by decide)⟩
    · show R_sink_L151_b _ _ _ _ _ _ = _
      unfold R_sink_L151_b
      rw [e33, if_neg (by rw [ii_le (by omega) (by omega) (by omega) (by omega)]; omega), ii_mul, ii_add, if_pos (by rw [ii_inb (by omega) (by omega)]; simp; omega), bind_eq e1, bind_eq e3, if_pos (by rw [ii_inb (by omega) (by omega)]; simp; omega), ii_nat (by omega) (by omega), t1, e2, ii_sc]
    · exact (RDy.w (j := 2 * k + 1) r1).ext (fun j hj => paD_s)
end SP
