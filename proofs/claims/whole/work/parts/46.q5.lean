/-! reads: chance, stuck -/
theorem z64 : (0 : Int64) = Int64.ofInt 0 := rfl
theorem l64_add (a b : Int) : Int64.ofInt a + Int64.ofInt b = Int64.ofInt (a + b) := by simp [Int64.ofInt_add]
theorem l64_mul (a b : Int) : Int64.ofInt a * Int64.ofInt b = Int64.ofInt (a * b) := by simp [Int64.ofInt_mul]
theorem l64_sub (a b : Int) : Int64.ofInt a - Int64.ofInt b = Int64.ofInt (a - b) := by simp [Int64.ofInt_sub]
section Q5
variable {hd : Nat → Int} {d : DY} {o wr : Nat} {h g : AH}
/-- the latest twitch of a fork in a cell among the first n of the book -/
def latM (d : DY) (f c : Nat) : Nat → Int
  | 0 => -1
  | n + 1 => if vI (d (47 + 3 * n)) = f ∧ vI (d (48 + 3 * n)) = c then vI (d (49 + 3 * n)) else latM d f c n
theorem latM_lo (V : DW hd d) (W : HS hd) (f c : Nat) : ∀ n, n ≤ bL d → -1 ≤ latM d f c n ∧ latM d f c n ≤ 99
  | 0, _ => by unfold latM; omega
  | n + 1, hn => by
    have hb := V.bk W (j := n) (by omega)
    have := latM_lo V W f c n (by omega)
    unfold latM
    split <;> omega
theorem C_lat (M : MR hd d wr (mvO h 13)) (V : DW hd d) (W : HW hd) {f c : Nat} (hf : f < 6) (hc : c < 30) : f_Moor_latestTwitch 13 (ii f) (ii c) h = some (ii (latM d f c (bL d))) := by
  have hb := V.bl
  have hcl := W.cells
  have hw := W.1
  unfold f_Moor_latestTwitch
  refine lup (fun n k (_ : Unit) => Moor_latestTwitch_L2 n 13 (ii f) (ii c) (ii k) h) (bL d) (fun k _ => latM d f c (bL d - k) = latM d f c (bL d)) (fun x => x = some (ii (latM d f c (bL d)))) ?_ ?_ (bL d) 0 FU () (by omega) (by unfold FU; omega) rfl
  · rintro n a r
    simp (disch := omega) only [Option.bind_some, if_true, if_false, not_true_eq_false, not_false_eq_true, z0, ii_add, ii_sub, ii_mul, ifLeT, ifLeF, ifLtT, ifLtF, ifEqT, ifEqF, ifNeT, ifNeF, ifIn, nixZ, ii_i64, o0, o1, isInT, isInF, tn14, tn12, tn2, tn21, tn47, tn48, tn49, tn471, tn472, Int.reduceToNat, Int.toNat_natCast, Int.reduceAdd, Int.reduceSub, Int.reduceMul, Int.reduceNeg, Nat.reduceAdd, Nat.reduceSub, Nat.reduceMul, Moor_latestTwitch_L2, Moor_latestTwitch_L2_b, C_bookLength M, ← r, Nat.sub_self, latM]
  · rintro n k a hk r
    obtain ⟨j, hj⟩ : ∃ j, j = bL d - 1 - k := ⟨_, rfl⟩
    have hbk := V.bk (Or.inr W) (j := j) (by omega)
    rw [show bL d - k = j + 1 by omega] at r
    have ett : latM d f c (j + 1) = if vI (d (47 + 3 * j)) = f ∧ vI (d (48 + 3 * j)) = c then vI (d (49 + 3 * j)) else latM d f c j := rfl
    rw [ett] at r
    by_cases q1 : vI (d (47 + 3 * j)) = f
    · by_cases q2 : vI (d (48 + 3 * j)) = c
      · left
        rw [if_pos ⟨q1, q2⟩] at r
        simp (disch := omega) only [Option.bind_some, if_true, if_false, not_true_eq_false, not_false_eq_true, z0, ii_add, ii_sub, ii_mul, ifLeT, ifLeF, ifLtT, ifLtF, ifEqT, ifEqF, ifNeT, ifNeF, ifIn, nixZ, ii_i64, o0, o1, isInT, isInF, tn14, tn12, tn2, tn21, tn47, tn48, tn49, tn471, tn472, Int.reduceToNat, Int.toNat_natCast, Int.reduceAdd, Int.reduceSub, Int.reduceMul, Int.reduceNeg, Nat.reduceAdd, Nat.reduceSub, Nat.reduceMul, Moor_latestTwitch_L2, Moor_latestTwitch_L2_b, C_bookLength M, C_fkI M V (Or.inr W) hk hj, C_ceI M V (Or.inr W) hk hj, C_twI M V (Or.inr W) hk hj, r]
      · right
        rw [if_neg (fun z => q2 z.2)] at r
        simp (disch := omega) only [Option.bind_some, if_true, if_false, not_true_eq_false, not_false_eq_true, z0, ii_add, ii_sub, ii_mul, ifLeT, ifLeF, ifLtT, ifLtF, ifEqT, ifEqF, ifNeT, ifNeF, ifIn, nixZ, ii_i64, o0, o1, isInT, isInF, tn14, tn12, tn2, tn21, tn47, tn48, tn49, tn471, tn472, Int.reduceToNat, Int.toNat_natCast, Int.reduceAdd, Int.reduceSub, Int.reduceMul, Int.reduceNeg, Nat.reduceAdd, Nat.reduceSub, Nat.reduceMul, Moor_latestTwitch_L2, Moor_latestTwitch_L2_b, C_bookLength M, C_fkI M V (Or.inr W) hk hj, C_ceI M V (Or.inr W) hk hj, C_twI M V (Or.inr W) hk hj]
        exact ⟨(), rfl, by rw [show bL d - (k + 1) = j by omega]; exact r⟩
    · right
      rw [if_neg (fun z => q1 z.1)] at r
      simp (disch := omega) only [Option.bind_some, if_true, if_false, not_true_eq_false, not_false_eq_true, z0, ii_add, ii_sub, ii_mul, ifLeT, ifLeF, ifLtT, ifLtF, ifEqT, ifEqF, ifNeT, ifNeF, ifIn, nixZ, ii_i64, o0, o1, isInT, isInF, tn14, tn12, tn2, tn21, tn47, tn48, tn49, tn471, tn472, Int.reduceToNat, Int.toNat_natCast, Int.reduceAdd, Int.reduceSub, Int.reduceMul, Int.reduceNeg, Nat.reduceAdd, Nat.reduceSub, Nat.reduceMul, Moor_latestTwitch_L2, Moor_latestTwitch_L2_b, C_bookLength M, C_fkI M V (Or.inr W) hk hj]
      exact ⟨(), rfl, by rw [show bL d - (k + 1) = j by omega]; exact r⟩
theorem R_lat (D : RDy d g 97) (V : DW hd d) (W : HW hd) {f c : Nat} (hf : f < 6) (hc : c < 30) : f_R_latest (ii f) (ii c) g = some (ii (latM d f c (bL d))) := by
  have hb := V.bl
  have hcl := W.cells
  have hw := W.1
  have e46 := D.i (j := 46) (by omega)
  rw [hb.1] at e46
  unfold f_R_latest
  simp (disch := omega) only [Option.bind_some, if_true, if_false, not_true_eq_false, not_false_eq_true, z0, ii_add, ii_sub, ii_mul, ifLeT, ifLeF, ifLtT, ifLtF, ifEqT, ifEqF, ifNeT, ifNeF, ifIn, nixZ, ii_i64, o0, o1, isInT, isInF, tn14, tn12, tn2, tn21, tn47, tn48, tn49, tn471, tn472, Int.reduceToNat, Int.toNat_natCast, Int.reduceAdd, Int.reduceSub, Int.reduceMul, Int.reduceNeg, Nat.reduceAdd, Nat.reduceSub, Nat.reduceMul, e46]
  have := lup (fun n k (_ : Unit) => R_latest_L10 n (ii f) (ii c) (ii ((bL d : Int) - 1 - k)) g) (bL d) (fun k _ => latM d f c (bL d - k) = latM d f c (bL d)) (fun x => x = some (ii (latM d f c (bL d)))) ?_ ?_ (bL d) 0 FU () (by omega) (by unfold FU; omega) rfl
  · simpa using this
  · rintro n a r
    simp (disch := omega) only [Option.bind_some, if_true, if_false, not_true_eq_false, not_false_eq_true, z0, ii_add, ii_sub, ii_mul, ifLeT, ifLeF, ifLtT, ifLtF, ifEqT, ifEqF, ifNeT, ifNeF, ifIn, nixZ, ii_i64, o0, o1, isInT, isInF, tn14, tn12, tn2, tn21, tn47, tn48, tn49, tn471, tn472, Int.reduceToNat, Int.toNat_natCast, Int.reduceAdd, Int.reduceSub, Int.reduceMul, Int.reduceNeg, Nat.reduceAdd, Nat.reduceSub, Nat.reduceMul, R_latest_L10, R_latest_L10_b, ← r, Nat.sub_self, latM]
  · rintro n k a hk r
    obtain ⟨j, hj⟩ : ∃ j, j = bL d - 1 - k := ⟨_, rfl⟩
    have hbk := V.bk (Or.inr W) (j := j) (by omega)
    have e1 := D.i (j := 47 + 3 * j) (by omega)
    have e2 := D.i (j := 48 + 3 * j) (by omega)
    have e3 := D.i (j := 49 + 3 * j) (by omega)
    have ej : (bL d : Int) - 1 - k = j := by omega
    have ej2 : (j : Int) + -1 = (bL d : Int) - 1 - (k + 1 : Nat) := by omega
    rw [show bL d - k = j + 1 by omega] at r
    have ett : latM d f c (j + 1) = if vI (d (47 + 3 * j)) = f ∧ vI (d (48 + 3 * j)) = c then vI (d (49 + 3 * j)) else latM d f c j := rfl
    rw [ett] at r
    by_cases q1 : vI (d (47 + 3 * j)) = f
    · by_cases q2 : vI (d (48 + 3 * j)) = c
      · left
        rw [if_pos ⟨q1, q2⟩] at r
        simp (disch := omega) only [Option.bind_some, if_true, if_false, not_true_eq_false, not_false_eq_true, z0, ii_add, ii_sub, ii_mul, ifLeT, ifLeF, ifLtT, ifLtF, ifEqT, ifEqF, ifNeT, ifNeF, ifIn, nixZ, ii_i64, o0, o1, isInT, isInF, tn14, tn12, tn2, tn21, tn47, tn48, tn49, tn471, tn472, Int.reduceToNat, Int.toNat_natCast, Int.reduceAdd, Int.reduceSub, Int.reduceMul, Int.reduceNeg, Nat.reduceAdd, Nat.reduceSub, Nat.reduceMul, R_latest_L10, R_latest_L10_b, ej, e1, e2, e3, r]
      · right
        rw [if_neg (fun z => q2 z.2)] at r
        simp (disch := omega) only [Option.bind_some, if_true, if_false, not_true_eq_false, not_false_eq_true, z0, ii_add, ii_sub, ii_mul, ifLeT, ifLeF, ifLtT, ifLtF, ifEqT, ifEqF, ifNeT, ifNeF, ifIn, nixZ, ii_i64, o0, o1, isInT, isInF, tn14, tn12, tn2, tn21, tn47, tn48, tn49, tn471, tn472, Int.reduceToNat, Int.toNat_natCast, Int.reduceAdd, Int.reduceSub, Int.reduceMul, Int.reduceNeg, Nat.reduceAdd, Nat.reduceSub, Nat.reduceMul, R_latest_L10, R_latest_L10_b, ej, e1, e2, e3, ej2]
        exact ⟨(), trivial, by rw [show bL d - (k + 1) = j by omega]; exact r⟩
    · right
      rw [if_neg (fun z => q1 z.1)] at r
      simp (disch := omega) only [Option.bind_some, if_true, if_false, not_true_eq_false, not_false_eq_true, z0, ii_add, ii_sub, ii_mul, ifLeT, ifLeF, ifLtT, ifLtF, ifEqT, ifEqF, ifNeT, ifNeF, ifIn, nixZ, ii_i64, o0, o1, isInT, isInF, tn14, tn12, tn2, tn21, tn47, tn48, tn49, tn471, tn472, Int.reduceToNat, Int.toNat_natCast, Int.reduceAdd, Int.reduceSub, Int.reduceMul, Int.reduceNeg, Nat.reduceAdd, Nat.reduceSub, Nat.reduceMul, R_latest_L10, R_latest_L10_b, ej, e1, e2, e3, ej2]
      exact ⟨(), trivial, by rw [show bL d - (k + 1) = j by omega]; exact r⟩
theorem pw_s {y e p : Int} (h0 : 0 ≤ y) (h1 : y ≤ p) (e0 : 0 ≤ e) (e1 : e ≤ 10) : 0 ≤ y * e ∧ y * e ≤ p * 10 := ⟨Int.mul_nonneg h0 e0, Int.mul_le_mul h1 e1 e0 (by omega)⟩
theorem q_chance (X : RX hd d o wr h (wI g 80 0 (ii 0))) {c : Int} (c0 : -2147483648 ≤ c) (c1 : c ≤ 2147483647) : ∃ x, f_HF_chance (ii c) h = some x ∧ f_R_chance (ii c) g = some (x, wI g 80 0 (ii 0)) := by
  obtain ⟨E, C, M, R, D, W, V⟩ := X
  have hc := W.cells
  have hf := W.nf
  unfold f_R_chance f_HF_chance
  generalize wI g 80 0 (ii 0) = g at *
  rw [E, C_isCell C W c0 c1, R_isCell R W c0 c1]
  by_cases q : 0 ≤ c ∧ c < cellsM hd
  · rw [if_pos q]
    have HWd := W.hw q.1 q.2
    have hw := HWd.1
    obtain ⟨u, rfl⟩ := Int.eq_ofNat_of_zero_le q.1
    simp (disch := omega) only [Option.bind_some, if_true, if_false, not_true_eq_false, not_false_eq_true, z0, ii_add, ii_sub, ii_mul, ifLeT, ifLeF, ifLtT, ifLtF, ifEqT, ifEqF, ifNeT, ifNeF, ifIn, nixZ, ii_i64, o0, o1, isInT, isInF, tn14, tn12, tn2, tn21, tn47, tn48, tn49, tn471, tn472, Int.reduceToNat, Int.toNat_natCast, Int.reduceAdd, Int.reduceSub, Int.reduceMul, Int.reduceNeg, Nat.reduceAdd, Nat.reduceSub, Nat.reduceMul]
    refine lrel (fun n k (a : Int × Int) => HF_chance_L21 n (ii u) (Int64.ofInt a.1) (Int64.ofInt a.2) (ii k) h) (fun n k (b : Int × Int) => R_chance_L23 n (ii u) (Int64.ofInt b.1) (Int64.ofInt b.2) (ii k) g) (hd 7).toNat (fun k a b => a = b ∧ (0 ≤ a.1 ∧ a.1 ≤ 10 ^ k) ∧ 0 ≤ a.2 ∧ a.2 ≤ 10 ^ k) (fun x y => ∃ z, x = some z ∧ y = some (z, g)) ?_ ?_ (hd 7).toNat 0 FU FU (1, 1) (1, 1) (by omega) (by unfold FU; omega) (by unfold FU; omega) ⟨rfl, by decide, by decide⟩
    · rintro n m ⟨y, z⟩ b ⟨r1, r2, r3⟩
      subst r1
      simp only at r2 r3
      have hp : (10 : Int) ^ (hd 7).toNat ≤ 1000000 := by
        rcases (show (hd 7).toNat = 1 ∨ (hd 7).toNat = 2 ∨ (hd 7).toNat = 3 ∨ (hd 7).toNat = 4 ∨ (hd 7).toNat = 5 ∨ (hd 7).toNat = 6 by omega) with e | e | e | e | e | e <;> rw [e] <;> decide
      by_cases q1 : y + z = 0
      · have hl : lg_cmp (Int64.ofInt (y + z)) (Int64.ofInt 0) = ii 0 := by rw [q1]; rfl
        simp (disch := omega) only [Option.bind_some, if_true, if_false, not_true_eq_false, not_false_eq_true, z0, ii_add, ii_sub, ii_mul, ifLeT, ifLeF, ifLtT, ifLtF, ifEqT, ifEqF, ifNeT, ifNeF, ifIn, nixZ, ii_i64, o0, o1, isInT, isInF, tn14, tn12, tn2, tn21, tn47, tn48, tn49, tn471, tn472, Int.reduceToNat, Int.toNat_natCast, Int.reduceAdd, Int.reduceSub, Int.reduceMul, Int.reduceNeg, Nat.reduceAdd, Nat.reduceSub, Nat.reduceMul, HF_chance_L21, HF_chance_L21_b, R_chance_L23, R_chance_L23_b, E, C.2.2.2.2.2.1, R.2.2.2.2.1, l64_add, hl]
        exact ⟨_, rfl, rfl⟩
      · have hl : lg_cmp (Int64.ofInt (y + z)) (Int64.ofInt 0) = ii 1 := by rw [lcmp_v (by omega) (by omega) (by omega) (by omega), if_pos (by omega)]; rfl
        have hne : ¬ Int64.ofInt (y + z) = Int64.ofInt 0 := by rw [i64_eq (by omega) (by omega) (by omega) (by omega)]; exact q1
        simp (disch := omega) only [Option.bind_some, if_true, if_false, not_true_eq_false, not_false_eq_true, z0, ii_add, ii_sub, ii_mul, ifLeT, ifLeF, ifLtT, ifLtF, ifEqT, ifEqF, ifNeT, ifNeF, ifIn, nixZ, ii_i64, o0, o1, isInT, isInF, tn14, tn12, tn2, tn21, tn47, tn48, tn49, tn471, tn472, Int.reduceToNat, Int.toNat_natCast, Int.reduceAdd, Int.reduceSub, Int.reduceMul, Int.reduceNeg, Nat.reduceAdd, Nat.reduceSub, Nat.reduceMul, HF_chance_L21, HF_chance_L21_b, R_chance_L23, R_chance_L23_b, E, C.2.2.2.2.2.1, R.2.2.2.2.1, l64_add, hl, z64, hne]
        exact ⟨_, rfl, by rw [Int64.mul_comm]⟩
    · rintro n m k ⟨y, z⟩ b hk ⟨r1, r2, r3⟩
      subst r1
      simp only at r2 r3
      right
      have hl := latM_lo V W k u (bL d) (Nat.le_refl _)
      have hfk := HWd.2.2.2.2 k (by omega)
      have s1 := pw_s r2.1 r2.2 (e := 10 - fkM hd k 4) (by omega) (by omega)
      have s2 := pw_s r2.1 r2.2 (e := fkM hd k 4) (by omega) (by omega)
      have s3 := pw_s r3.1 r3.2 (e := 10 - fkM hd k 4) (by omega) (by omega)
      have s4 := pw_s r3.1 r3.2 (e := fkM hd k 4) (by omega) (by omega)
      have p10 : (10 : Int) ^ (k + 1) = 10 ^ k * 10 := by rw [Int.pow_succ]
      by_cases q1 : latM d k u (bL d) = -1
      · simp (disch := omega) only [Option.bind_some, if_true, if_false, not_true_eq_false, not_false_eq_true, z0, ii_add, ii_sub, ii_mul, ifLeT, ifLeF, ifLtT, ifLtF, ifEqT, ifEqF, ifNeT, ifNeF, ifIn, nixZ, ii_i64, o0, o1, isInT, isInF, tn14, tn12, tn2, tn21, tn47, tn48, tn49, tn471, tn472, Int.reduceToNat, Int.toNat_natCast, Int.reduceAdd, Int.reduceSub, Int.reduceMul, Int.reduceNeg, Nat.reduceAdd, Nat.reduceSub, Nat.reduceMul, HF_chance_L21, HF_chance_L21_b, R_chance_L23, R_chance_L23_b, E, C.2.2.2.2.2.1, R.2.2.2.2.1, C_lat M V HWd, R_lat D V HWd]
        exact ⟨(y, z), (y, z), rfl, rfl, rfl, by simp only; omega, by simp only; omega⟩
      · by_cases q2 : latM d k u (bL d) ≤ 0
        · simp (disch := omega) only [Option.bind_some, if_true, if_false, not_true_eq_false, not_false_eq_true, z0, ii_add, ii_sub, ii_mul, ifLeT, ifLeF, ifLtT, ifLtF, ifEqT, ifEqF, ifNeT, ifNeF, ifIn, nixZ, ii_i64, o0, o1, isInT, isInF, tn14, tn12, tn2, tn21, tn47, tn48, tn49, tn471, tn472, Int.reduceToNat, Int.toNat_natCast, Int.reduceAdd, Int.reduceSub, Int.reduceMul, Int.reduceNeg, Nat.reduceAdd, Nat.reduceSub, Nat.reduceMul, HF_chance_L21, HF_chance_L21_b, R_chance_L23, R_chance_L23_b, E, C.2.2.2.2.2.1, R.2.2.2.2.1, C_lat M V HWd, R_lat D V HWd, C_t4 C HWd, R_t4 R, l64_mul]
          exact ⟨(y * fkM hd k 4, z * (10 - fkM hd k 4)), _, rfl, rfl, rfl, by simp only; omega, by simp only; omega⟩
        · simp (disch := omega) only [Option.bind_some, if_true, if_false, not_true_eq_false, not_false_eq_true, z0, ii_add, ii_sub, ii_mul, ifLeT, ifLeF, ifLtT, ifLtF, ifEqT, ifEqF, ifNeT, ifNeF, ifIn, nixZ, ii_i64, o0, o1, isInT, isInF, tn14, tn12, tn2, tn21, tn47, tn48, tn49, tn471, tn472, Int.reduceToNat, Int.toNat_natCast, Int.reduceAdd, Int.reduceSub, Int.reduceMul, Int.reduceNeg, Nat.reduceAdd, Nat.reduceSub, Nat.reduceMul, HF_chance_L21, HF_chance_L21_b, R_chance_L23, R_chance_L23_b, E, C.2.2.2.2.2.1, R.2.2.2.2.1, C_lat M V HWd, R_lat D V HWd, C_t4 C HWd, R_t4 R, l64_mul]
          exact ⟨(y * (10 - fkM hd k 4), z * fkM hd k 4), _, rfl, rfl, rfl, by simp only; omega, by simp only; omega⟩
  · rw [if_neg q]
    simp (disch := omega) only [Option.bind_some, if_true, if_false, not_true_eq_false, not_false_eq_true, z0, ii_add, ii_sub, ii_mul, ifLeT, ifLeF, ifLtT, ifLtF, ifEqT, ifEqF, ifNeT, ifNeF, ifIn, nixZ, ii_i64, o0, o1, isInT, isInF, tn14, tn12, tn2, tn21, tn47, tn48, tn49, tn471, tn472, Int.reduceToNat, Int.toNat_natCast, Int.reduceAdd, Int.reduceSub, Int.reduceMul, Int.reduceNeg, Nat.reduceAdd, Nat.reduceSub, Nat.reduceMul]
    exact ⟨_, rfl, rfl⟩
/-! where a fork may go: row a of the reference, moor p of the class -/
theorem bit_tb {c : Int} (h0 : 0 ≤ c) (h1 : c < 32) (i : Nat) : tb (bitI c) i = decide ((i : Int) = c) := by
  obtain ⟨n, rfl⟩ := Int.eq_ofNat_of_zero_le h0
  rw [tb_bit (by omega)]
  congr 1
  exact propext ⟨fun z => by omega, fun z => by omega⟩
/-- the cell a fork would come to -/
def goM (hd : Nat → Int) (d : DY) (f : Nat) (way : Int) : Int := if 0 ≤ way ∧ way ≤ 3 then (if nb (hd 0) (hd 1) (vI (d (2 * f))) way = -1 then -1 else if tb (d (13 - (fkM hd f 5).toNat)) (nb (hd 0) (hd 1) (vI (d (2 * f))) way).toNat then -1 else nb (hd 0) (hd 1) (vI (d (2 * f))) way) else -1
theorem goM_lo (W : HW hd) (f : Nat) (way : Int) : goM hd d f way = -1 ∨ (0 ≤ goM hd d f way ∧ goM hd d f way < cellsM hd) := by
  unfold goM
  split
  · split
    · exact Or.inl rfl
    · split
      · exact Or.inl rfl
      · rename_i q _
        exact Or.inr (nb_in (by have := W.1; omega) q)
  · exact Or.inl rfl
theorem C_goal {p : Nat} (E : h.2.2 0 13 = o) (C : CH hd o h) (M : MR hd d wr (mvO h p)) (V : DW hd d) (W : HW hd) {f : Nat} (hf : (f : Int) < hd 7) {way : Int} (y0 : -2147483648 ≤ way) (y1 : way ≤ 2147483647) : f_HF_goal p (ii f) (ii way) h = some (ii (goM hd d f way)) := by
  have hw := W.1
  have hcl := W.cells
  have hp := V.plc (Or.inr W) hf
  have ep := C_placeOf M W hf
  rw [vI_ii (d (2 * f))] at ep
  have hfk := W.2.2.2.2 f hf
  unfold f_HF_goal goM
  by_cases q : 0 ≤ way ∧ way ≤ 3
  · rw [if_pos q]
    by_cases q1 : nb (hd 0) (hd 1) (vI (d (2 * f))) way = -1
    · rw [if_pos q1]
      simp (disch := omega) only [Option.bind_some, if_true, if_false, not_true_eq_false, not_false_eq_true, z0, ii_add, ii_sub, ii_mul, ifLeT, ifLeF, ifLtT, ifLtF, ifEqT, ifEqF, ifNeT, ifNeF, ifIn, nixZ, ii_i64, o0, o1, isInT, isInF, tn14, tn12, tn2, tn21, tn47, tn48, tn49, tn471, tn472, Int.reduceToNat, Int.toNat_natCast, Int.reduceAdd, Int.reduceSub, Int.reduceMul, Int.reduceNeg, Nat.reduceAdd, Nat.reduceSub, Nat.reduceMul, E, C_fin C (Or.inr W), ep, C_beyond C W, q1]
    · rw [if_neg q1]
      have hn := nb_in (by omega) q1
      have hn2 : nb (hd 0) (hd 1) (vI (d (2 * f))) way < cellsM hd := hn.2
      obtain ⟨u, hu⟩ := Int.eq_ofNat_of_zero_le hn.1
      have eh := C_holds (d (13 - (fkM hd f 5).toNat)) (n := u) (by omega)
      have hg : (12 + (1 - fkM hd f 5).toNat) = 13 - (fkM hd f 5).toNat := by omega
      simp (disch := omega) only [Option.bind_some, if_true, if_false, not_true_eq_false, not_false_eq_true, z0, ii_add, ii_sub, ii_mul, ifLeT, ifLeF, ifLtT, ifLtF, ifEqT, ifEqF, ifNeT, ifNeF, ifIn, nixZ, ii_i64, o0, o1, isInT, isInF, tn14, tn12, tn2, tn21, tn47, tn48, tn49, tn471, tn472, Int.reduceToNat, Int.toNat_natCast, Int.reduceAdd, Int.reduceSub, Int.reduceMul, Int.reduceNeg, Nat.reduceAdd, Nat.reduceSub, Nat.reduceMul, E, C_fin C (Or.inr W), ep, C_beyond C W, C_t5 C W hf, C_trailOf M, hg]
      rw [hu] at *
      simp only [Int.toNat_natCast]
      rw [eh]
      by_cases qt : tb (d (13 - (fkM hd f 5).toNat)) u = true
      · rw [if_pos qt, if_pos qt]
        simp (disch := omega) only [Option.bind_some, if_true, if_false, not_true_eq_false, not_false_eq_true, z0, ii_add, ii_sub, ii_mul, ifLeT, ifLeF, ifLtT, ifLtF, ifEqT, ifEqF, ifNeT, ifNeF, ifIn, nixZ, ii_i64, o0, o1, isInT, isInF, tn14, tn12, tn2, tn21, tn47, tn48, tn49, tn471, tn472, Int.reduceToNat, Int.toNat_natCast, Int.reduceAdd, Int.reduceSub, Int.reduceMul, Int.reduceNeg, Nat.reduceAdd, Nat.reduceSub, Nat.reduceMul]
      · rw [if_neg qt, if_neg qt]
        simp (disch := omega) only [Option.bind_some, if_true, if_false, not_true_eq_false, not_false_eq_true, z0, ii_add, ii_sub, ii_mul, ifLeT, ifLeF, ifLtT, ifLtF, ifEqT, ifEqF, ifNeT, ifNeF, ifIn, nixZ, ii_i64, o0, o1, isInT, isInF, tn14, tn12, tn2, tn21, tn47, tn48, tn49, tn471, tn472, Int.reduceToNat, Int.toNat_natCast, Int.reduceAdd, Int.reduceSub, Int.reduceMul, Int.reduceNeg, Nat.reduceAdd, Nat.reduceSub, Nat.reduceMul]
  · rw [if_neg q]
    simp (disch := omega) only [Option.bind_some, if_true, if_false, not_true_eq_false, not_false_eq_true, z0, ii_add, ii_sub, ii_mul, ifLeT, ifLeF, ifLtT, ifLtF, ifEqT, ifEqF, ifNeT, ifNeF, ifIn, nixZ, ii_i64, o0, o1, isInT, isInF, tn14, tn12, tn2, tn21, tn47, tn48, tn49, tn471, tn472, Int.reduceToNat, Int.toNat_natCast, Int.reduceAdd, Int.reduceSub, Int.reduceMul, Int.reduceNeg, Nat.reduceAdd, Nat.reduceSub, Nat.reduceMul, E, C_fin C (Or.inr W), ep, C_beyond_way C]
theorem C_goal_out {p : Nat} (E : h.2.2 0 13 = o) (C : CH hd o h) (W : HS hd) {f : Int} {a : Int32} (c0 : -2147483648 ≤ f) (c1 : f ≤ 2147483647) (hf : ¬ (0 ≤ f ∧ f < hd 7)) : f_HF_goal p (ii f) a h = some (ii (-1)) := by
  unfold f_HF_goal
  simp (disch := omega) only [Option.bind_some, if_true, if_false, not_true_eq_false, not_false_eq_true, z0, ii_add, ii_sub, ii_mul, ifLeT, ifLeF, ifLtT, ifLtF, ifEqT, ifEqF, ifNeT, ifNeF, ifIn, nixZ, ii_i64, o0, o1, isInT, isInF, tn14, tn12, tn2, tn21, tn47, tn48, tn49, tn471, tn472, Int.reduceToNat, Int.toNat_natCast, Int.reduceAdd, Int.reduceSub, Int.reduceMul, Int.reduceNeg, Nat.reduceAdd, Nat.reduceSub, Nat.reduceMul, E, C_fout C W c0 c1 hf]
theorem R_where {a : Nat} (R : RH hd g) (D : RDy d g a) (V : DW hd d) (W : HW hd) {f : Nat} (hf : (f : Int) < hd 7) {way : Int} (y0 : -2147483648 ≤ way) (y1 : way ≤ 2147483647) : f_R_whereTo 227 a (ii f) (ii way) g = some (ii (goM hd d f way)) := by
  have hw := W.1
  have hcl := W.cells
  have hp := V.plc (Or.inr W) hf
  have ep := D.i (j := 2 * f) (by omega)
  have hfk := W.2.2.2.2 f hf
  have hif := R_isFork R (Or.inr W) (c := f) (by omega) (by omega)
  rw [if_pos (by omega)] at hif
  unfold f_R_whereTo goM
  by_cases q : 0 ≤ way ∧ way ≤ 3
  · rw [if_pos q]
    by_cases q1 : nb (hd 0) (hd 1) (vI (d (2 * f))) way = -1
    · rw [if_pos q1]
      simp (disch := omega) only [Option.bind_some, if_true, if_false, not_true_eq_false, not_false_eq_true, z0, ii_add, ii_sub, ii_mul, ifLeT, ifLeF, ifLtT, ifLtF, ifEqT, ifEqF, ifNeT, ifNeF, ifIn, nixZ, ii_i64, o0, o1, isInT, isInF, tn14, tn12, tn2, tn21, tn47, tn48, tn49, tn471, tn472, Int.reduceToNat, Int.toNat_natCast, Int.reduceAdd, Int.reduceSub, Int.reduceMul, Int.reduceNeg, Nat.reduceAdd, Nat.reduceSub, Nat.reduceMul, hif, ep, R_stepTo R W, q1]
    · rw [if_neg q1]
      have hn := nb_in (by omega) q1
      have hn2 : nb (hd 0) (hd 1) (vI (d (2 * f))) way < cellsM hd := hn.2
      obtain ⟨u, hu⟩ := Int.eq_ofNat_of_zero_le hn.1
      have eh := R_has (d (13 - (fkM hd f 5).toNat)) (n := u) (by omega)
      have hg : (13 - fkM hd f 5).toNat = 13 - (fkM hd f 5).toNat := by omega
      have et := D (13 - (fkM hd f 5).toNat) (by omega)
      simp (disch := omega) only [Option.bind_some, if_true, if_false, not_true_eq_false, not_false_eq_true, z0, ii_add, ii_sub, ii_mul, ifLeT, ifLeF, ifLtT, ifLtF, ifEqT, ifEqF, ifNeT, ifNeF, ifIn, nixZ, ii_i64, o0, o1, isInT, isInF, tn14, tn12, tn2, tn21, tn47, tn48, tn49, tn471, tn472, Int.reduceToNat, Int.toNat_natCast, Int.reduceAdd, Int.reduceSub, Int.reduceMul, Int.reduceNeg, Nat.reduceAdd, Nat.reduceSub, Nat.reduceMul, hif, ep, R_stepTo R W, R_t5 R, hg, et]
      rw [hu] at *
      simp only [Int.toNat_natCast]
      rw [eh]
      by_cases qt : tb (d (13 - (fkM hd f 5).toNat)) u = true
      · rw [if_pos qt, if_pos qt]
        simp (disch := omega) only [Option.bind_some, if_true, if_false, not_true_eq_false, not_false_eq_true, z0, ii_add, ii_sub, ii_mul, ifLeT, ifLeF, ifLtT, ifLtF, ifEqT, ifEqF, ifNeT, ifNeF, ifIn, nixZ, ii_i64, o0, o1, isInT, isInF, tn14, tn12, tn2, tn21, tn47, tn48, tn49, tn471, tn472, Int.reduceToNat, Int.toNat_natCast, Int.reduceAdd, Int.reduceSub, Int.reduceMul, Int.reduceNeg, Nat.reduceAdd, Nat.reduceSub, Nat.reduceMul]
      · rw [if_neg qt, if_neg qt]
        simp (disch := omega) only [Option.bind_some, if_true, if_false, not_true_eq_false, not_false_eq_true, z0, ii_add, ii_sub, ii_mul, ifLeT, ifLeF, ifLtT, ifLtF, ifEqT, ifEqF, ifNeT, ifNeF, ifIn, nixZ, ii_i64, o0, o1, isInT, isInF, tn14, tn12, tn2, tn21, tn47, tn48, tn49, tn471, tn472, Int.reduceToNat, Int.toNat_natCast, Int.reduceAdd, Int.reduceSub, Int.reduceMul, Int.reduceNeg, Nat.reduceAdd, Nat.reduceSub, Nat.reduceMul]
  · rw [if_neg q]
    simp (disch := omega) only [Option.bind_some, if_true, if_false, not_true_eq_false, not_false_eq_true, z0, ii_add, ii_sub, ii_mul, ifLeT, ifLeF, ifLtT, ifLtF, ifEqT, ifEqF, ifNeT, ifNeF, ifIn, nixZ, ii_i64, o0, o1, isInT, isInF, tn14, tn12, tn2, tn21, tn47, tn48, tn49, tn471, tn472, Int.reduceToNat, Int.toNat_natCast, Int.reduceAdd, Int.reduceSub, Int.reduceMul, Int.reduceNeg, Nat.reduceAdd, Nat.reduceSub, Nat.reduceMul, hif]
theorem R_where_out {a n : Nat} (R : RH hd g) (W : HS hd) {f : Int} {b : Int32} (c0 : -2147483648 ≤ f) (c1 : f ≤ 2147483647) (hf : ¬ (0 ≤ f ∧ f < hd 7)) : f_R_whereTo n a (ii f) b g = some (ii (-1)) := by
  have hif := R_isFork R W c0 c1
  rw [if_neg hf] at hif
  unfold f_R_whereTo
  simp (disch := omega) only [Option.bind_some, if_true, if_false, not_true_eq_false, not_false_eq_true, z0, ii_add, ii_sub, ii_mul, ifLeT, ifLeF, ifLtT, ifLtF, ifEqT, ifEqF, ifNeT, ifNeF, ifIn, nixZ, ii_i64, o0, o1, isInT, isInF, tn14, tn12, tn2, tn21, tn47, tn48, tn49, tn471, tn472, Int.reduceToNat, Int.toNat_natCast, Int.reduceAdd, Int.reduceSub, Int.reduceMul, Int.reduceNeg, Nat.reduceAdd, Nat.reduceSub, Nat.reduceMul, hif]
end Q5
