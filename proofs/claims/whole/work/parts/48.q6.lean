/-! reads: brings, loses, driest, stuck, reach -/
section Q6
variable {hd : Nat → Int} {d : DY} {o wr : Nat} {h g : AH}
theorem and_or (x y z : Int32) : (x ||| y) &&& z = (x &&& z) ||| (y &&& z) := by
  apply tb_ext
  intro i hi
  rw [tb_and, tb_or, tb_or, tb_and, tb_and]
  cases tb x i <;> cases tb y i <;> cases tb z i <;> rfl
theorem or_as (x y z : Int32) : (x ||| y) ||| z = x ||| (y ||| z) := by
  apply tb_ext
  intro i hi
  rw [tb_or, tb_or, tb_or, tb_or, Bool.or_assoc]
theorem z_and (x : Int32) : ii 0 &&& x = ii 0 := by
  apply tb_ext
  intro i hi
  rw [tb_and, tb_0, Bool.false_and]
/-- in the set, of a cell -/
def inS (w : Int32) (c : Int) : Bool := tb w c.toNat
theorem sel_and {w hh c way : Int} (x : Int32) (hw : 0 < w) (h30 : w * hh ≤ 30) : (if nb w hh c way = -1 then ii 0 else bitI (nb w hh c way)) &&& x = selM w hh c way (inS x (nb w hh c way)) := by
  unfold selM inS
  by_cases q : nb w hh c way = -1
  · rw [if_pos q, if_pos q, z_and]
  · rw [if_neg q, if_neg q]
    have hn := nb_in hw q
    apply tb_ext
    intro i hi
    rw [tb_and, bit_tb hn.1 (by omega)]
    by_cases e : (i : Int) = nb w hh c way
    · rw [← e]
      simp only [Int.toNat_natCast, decide_true, Bool.true_and]
      by_cases t : tb x i = true
      · rw [if_pos t, bit_tb (by omega) (by omega), t]; simp
      · rw [if_neg t, tb_0]; simpa using t
    · by_cases t : tb x (nb w hh c way).toNat = true
      · rw [if_pos t, bit_tb hn.1 (by omega)]; simp [e]
      · rw [if_neg t, tb_0]; simp [e]
/-- how many of a set lie beside a cell -/
def adjM (hd : Nat → Int) (x : Int32) (c : Int) : Int := selN (hd 0) (hd 1) c 0 (inS x (nb (hd 0) (hd 1) c 0)) + selN (hd 0) (hd 1) c 1 (inS x (nb (hd 0) (hd 1) c 1)) + selN (hd 0) (hd 1) c 2 (inS x (nb (hd 0) (hd 1) c 2)) + selN (hd 0) (hd 1) c 3 (inS x (nb (hd 0) (hd 1) c 3))
theorem selN_lo (w hh c way : Int) (b : Bool) : 0 ≤ selN w hh c way b ∧ selN w hh c way b ≤ 1 := by
  unfold selN
  split
  · omega
  · split <;> omega
theorem adjM_lo (x : Int32) (c : Int) : 0 ≤ adjM hd x c ∧ adjM hd x c ≤ 4 := by
  have h0 := selN_lo (hd 0) (hd 1) c 0 (inS x (nb (hd 0) (hd 1) c 0))
  have h1 := selN_lo (hd 0) (hd 1) c 1 (inS x (nb (hd 0) (hd 1) c 1))
  have h2 := selN_lo (hd 0) (hd 1) c 2 (inS x (nb (hd 0) (hd 1) c 2))
  have h3 := selN_lo (hd 0) (hd 1) c 3 (inS x (nb (hd 0) (hd 1) c 3))
  unfold adjM
  omega
def b4 (a b c d : Bool) : Nat := (if a then 1 else 0) + (if b then 2 else 0) + (if c then 4 else 0) + (if d then 8 else 0)
theorem b4_t : ∀ a b c d : Bool, b4 a b c d < 16 ∧ (b4 a b c d).testBit 0 = a ∧ (b4 a b c d).testBit 1 = b ∧ (b4 a b c d).testBit 2 = c ∧ (b4 a b c d).testBit 3 = d := by
  intro a b c d
  cases a <;> cases b <;> cases c <;> cases d <;> decide
theorem pc_bes (W : HW hd) (x : Int32) {c : Int} (h0 : 0 ≤ c) (h1 : c < cellsM hd) : p_Int_bitCount (besM hd c &&& x) = ii (adjM hd x c) := by
  have hw := W.1
  have hc := W.cells
  have h30 : hd 0 * hd 1 ≤ 30 := hc.2
  unfold besM
  rw [and_or, and_or, and_or, and_or, z_and, sel_and x (by omega) h30, sel_and x (by omega) h30, sel_and x (by omega) h30, sel_and x (by omega) h30]
  unfold adjM
  generalize inS x (nb (hd 0) (hd 1) c 0) = q0
  generalize inS x (nb (hd 0) (hd 1) c 1) = q1
  generalize inS x (nb (hd 0) (hd 1) c 2) = q2
  generalize inS x (nb (hd 0) (hd 1) c 3) = q3
  obtain ⟨s, s0, s1, s2, s3⟩ := b4_t q0 q1 q2 q3
  obtain ⟨w, ew⟩ := Int.eq_ofNat_of_zero_le (show 0 ≤ hd 0 by omega)
  obtain ⟨hh, eh⟩ := Int.eq_ofNat_of_zero_le (show 0 ≤ hd 1 by omega)
  obtain ⟨n, rfl⟩ := Int.eq_ofNat_of_zero_le h0
  unfold cellsM at h1
  rw [ew, eh] at h1 ⊢
  have hlt : n < w * hh := by exact_mod_cast h1
  have := pc_grid1 w (by omega) hh (by omega) n hlt (b4 q0 q1 q2 q3) s
  rw [s0, s1, s2, s3] at this
  exact this
/-- what a well sunk to z brings, if x are wells -/
def brM (hd : Nat → Int) (z : Int) (x : Int32) (c s : Int) : Int := if watM hd c s = -1 ∨ z < watM hd c s then 0 else if 0 ≤ 10 - watM hd c s / 10 - adjM hd x c then 10 - watM hd c s / 10 - adjM hd x c else 0
theorem brM_lo (W : HW hd) (z : Int) (x : Int32) (c s : Int) : 0 ≤ brM hd z x c s ∧ brM hd z x c s ≤ 10 := by
  have h1 := watM_lo W c s
  have h2 := adjM_lo (hd := hd) x c
  unfold brM
  split
  · omega
  · split <;> omega
theorem max0 {x : Int} (h1 : -2147483648 ≤ x) (h2 : x ≤ 2147483647) : p_Math_max (ii 0) (ii x) = ii (if 0 ≤ x then x else 0) := by
  unfold p_Math_max
  by_cases q : 0 < x
  · rw [if_pos (show (0 : Int) ≤ x by omega)]; simp (disch := omega) only [Option.bind_some, if_true, if_false, not_true_eq_false, not_false_eq_true, z0, ii_add, ii_sub, ii_mul, ifLeT, ifLeF, ifLtT, ifLtF, ifEqT, ifEqF, ifNeT, ifNeF, ifIn, nixZ, ii_i64, o0, o1, isInT, isInF, tn14, tn12, tn2, tn21, tn47, tn48, tn49, tn471, tn472, Int.reduceToNat, Int.toNat_natCast, Int.reduceAdd, Int.reduceSub, Int.reduceMul, Int.reduceNeg, Nat.reduceAdd, Nat.reduceSub, Nat.reduceMul]
  · by_cases q2 : 0 ≤ x
    · rw [if_pos q2, show x = 0 by omega]; simp (disch := omega) only [Option.bind_some, if_true, if_false, not_true_eq_false, not_false_eq_true, z0, ii_add, ii_sub, ii_mul, ifLeT, ifLeF, ifLtT, ifLtF, ifEqT, ifEqF, ifNeT, ifNeF, ifIn, nixZ, ii_i64, o0, o1, isInT, isInF, tn14, tn12, tn2, tn21, tn47, tn48, tn49, tn471, tn472, Int.reduceToNat, Int.toNat_natCast, Int.reduceAdd, Int.reduceSub, Int.reduceMul, Int.reduceNeg, Nat.reduceAdd, Nat.reduceSub, Nat.reduceMul]
    · rw [if_neg q2]; simp (disch := omega) only [Option.bind_some, if_true, if_false, not_true_eq_false, not_false_eq_true, z0, ii_add, ii_sub, ii_mul, ifLeT, ifLeF, ifLtT, ifLtF, ifEqT, ifEqF, ifNeT, ifNeF, ifIn, nixZ, ii_i64, o0, o1, isInT, isInF, tn14, tn12, tn2, tn21, tn47, tn48, tn49, tn471, tn472, Int.reduceToNat, Int.toNat_natCast, Int.reduceAdd, Int.reduceSub, Int.reduceMul, Int.reduceNeg, Nat.reduceAdd, Nat.reduceSub, Nat.reduceMul]
theorem C_wellBrings (E : h.2.2 0 13 = o) (C : CH hd o h) (M : MR hd d wr (mvO h 13)) (V : DW hd d) (W : HW hd) {c s : Int} (x : Int32) (h0 : 0 ≤ c) (h1 : c < cellsM hd) (s0 : 0 ≤ s) (s1 : s ≤ 3) : f_HF_wellBrings (ii c) (ii s) x h = some (ii (brM hd (vI (d (14 + c.toNat))) x c s)) := by
  have hcl := W.cells
  have hl := watM_lo W c s
  have ha := adjM_lo (hd := hd) x c
  obtain ⟨n, rfl⟩ := Int.eq_ofNat_of_zero_le h0
  have hwl := V.wel (c := n) (by omega)
  have es := C_sunkTo M (c := n) (by omega)
  rw [vI_ii (d (14 + n))] at es
  unfold f_HF_wellBrings brM
  simp only [Int.toNat_natCast]
  by_cases q1 : watM hd n s = -1
  · rw [if_pos (Or.inl q1)]
    simp (disch := omega) only [Option.bind_some, if_true, if_false, not_true_eq_false, not_false_eq_true, z0, ii_add, ii_sub, ii_mul, ifLeT, ifLeF, ifLtT, ifLtF, ifEqT, ifEqF, ifNeT, ifNeF, ifIn, nixZ, ii_i64, o0, o1, isInT, isInF, tn14, tn12, tn2, tn21, tn47, tn48, tn49, tn471, tn472, Int.reduceToNat, Int.toNat_natCast, Int.reduceAdd, Int.reduceSub, Int.reduceMul, Int.reduceNeg, Nat.reduceAdd, Nat.reduceSub, Nat.reduceMul, E, C_waterIn C W]
  · by_cases q2 : vI (d (14 + n)) < watM hd n s
    · rw [if_pos (Or.inr q2)]
      simp (disch := omega) only [Option.bind_some, if_true, if_false, not_true_eq_false, not_false_eq_true, z0, ii_add, ii_sub, ii_mul, ifLeT, ifLeF, ifLtT, ifLtF, ifEqT, ifEqF, ifNeT, ifNeF, ifIn, nixZ, ii_i64, o0, o1, isInT, isInF, tn14, tn12, tn2, tn21, tn47, tn48, tn49, tn471, tn472, Int.reduceToNat, Int.toNat_natCast, Int.reduceAdd, Int.reduceSub, Int.reduceMul, Int.reduceNeg, Nat.reduceAdd, Nat.reduceSub, Nat.reduceMul, E, C_waterIn C W, es]
    · rw [if_neg (by omega)]
      simp (disch := omega) only [Option.bind_some, if_true, if_false, not_true_eq_false, not_false_eq_true, z0, ii_add, ii_sub, ii_mul, ifLeT, ifLeF, ifLtT, ifLtF, ifEqT, ifEqF, ifNeT, ifNeF, ifIn, nixZ, ii_i64, o0, o1, isInT, isInF, tn14, tn12, tn2, tn21, tn47, tn48, tn49, tn471, tn472, Int.reduceToNat, Int.toNat_natCast, Int.reduceAdd, Int.reduceSub, Int.reduceMul, Int.reduceNeg, Nat.reduceAdd, Nat.reduceSub, Nat.reduceMul, E, C_waterIn C W, es, C_besideOf C W, pc_bes W, ii_div, max0]
def alM (hd : Nat → Int) (x : Int32) (s : Int) (d : DY) : Nat → Int
  | 0 => 0
  | c + 1 => alM hd x s d c + (if vI (d (14 + c)) = 0 then 0 else brM hd (vI (d (14 + c))) x c s)
theorem alM_lo (W : HW hd) (x : Int32) (s : Int) : ∀ n : Nat, 0 ≤ alM hd x s d n ∧ alM hd x s d n ≤ 10 * n
  | 0 => by unfold alM; omega
  | n + 1 => by
    have h1 := alM_lo W x s n
    have h2 := brM_lo W (vI (d (14 + n))) x n s
    unfold alM
    split <;> omega
theorem C_allBring (E : h.2.2 0 13 = o) (C : CH hd o h) (M : MR hd d wr (mvO h 13)) (V : DW hd d) (W : HW hd) {s : Int} (x : Int32) (s0 : 0 ≤ s) (s1 : s ≤ 3) : f_HF_allBring (ii s) x h = some (ii (alM hd x s d (cellsM hd).toNat)) := by
  have hcl := W.cells
  unfold f_HF_allBring
  refine lup (fun n k (a : Int) => HF_allBring_L5 n (ii s) x (ii a) (ii k) h) (cellsM hd).toNat (fun k a => a = alM hd x s d k) (fun y => y = some (ii (alM hd x s d (cellsM hd).toNat))) ?_ ?_ (cellsM hd).toNat 0 FU 0 (by omega) (by unfold FU; omega) rfl
  · rintro n a r
    subst r
    simp (disch := omega) only [Option.bind_some, if_true, if_false, not_true_eq_false, not_false_eq_true, z0, ii_add, ii_sub, ii_mul, ifLeT, ifLeF, ifLtT, ifLtF, ifEqT, ifEqF, ifNeT, ifNeF, ifIn, nixZ, ii_i64, o0, o1, isInT, isInF, tn14, tn12, tn2, tn21, tn47, tn48, tn49, tn471, tn472, Int.reduceToNat, Int.toNat_natCast, Int.reduceAdd, Int.reduceSub, Int.reduceMul, Int.reduceNeg, Nat.reduceAdd, Nat.reduceSub, Nat.reduceMul, HF_allBring_L5, HF_allBring_L5_b, E, C.2.2.2.2.1]
  · rintro n k a hk r
    subst r
    right
    have hwl := V.wel (c := k) (by omega)
    have et : alM hd x s d (k + 1) = alM hd x s d k + (if vI (d (14 + k)) = 0 then 0 else brM hd (vI (d (14 + k))) x k s) := rfl
    rw [et]
    by_cases q : vI (d (14 + k)) = 0
    · rw [if_pos q]
      simp (disch := omega) only [Option.bind_some, if_true, if_false, not_true_eq_false, not_false_eq_true, z0, ii_add, ii_sub, ii_mul, ifLeT, ifLeF, ifLtT, ifLtF, ifEqT, ifEqF, ifNeT, ifNeF, ifIn, nixZ, ii_i64, o0, o1, isInT, isInF, tn14, tn12, tn2, tn21, tn47, tn48, tn49, tn471, tn472, Int.reduceToNat, Int.toNat_natCast, Int.reduceAdd, Int.reduceSub, Int.reduceMul, Int.reduceNeg, Nat.reduceAdd, Nat.reduceSub, Nat.reduceMul, HF_allBring_L5, HF_allBring_L5_b, E, C.2.2.2.2.1, M_wlF M V]
      exact ⟨_, rfl, by omega⟩
    · rw [if_neg q]
      simp (disch := omega) only [Option.bind_some, if_true, if_false, not_true_eq_false, not_false_eq_true, z0, ii_add, ii_sub, ii_mul, ifLeT, ifLeF, ifLtT, ifLtF, ifEqT, ifEqF, ifNeT, ifNeF, ifIn, nixZ, ii_i64, o0, o1, isInT, isInF, tn14, tn12, tn2, tn21, tn47, tn48, tn49, tn471, tn472, Int.reduceToNat, Int.toNat_natCast, Int.reduceAdd, Int.reduceSub, Int.reduceMul, Int.reduceNeg, Nat.reduceAdd, Nat.reduceSub, Nat.reduceMul, HF_allBring_L5, HF_allBring_L5_b, E, C.2.2.2.2.1, M_wlT M V, C_wellBrings E C M V W]
      exact ⟨_, rfl, rfl⟩
theorem wl_tb (V : DW hd d) {n : Nat} (hn : n < 30) : tb (wlM d) n = decide (vI (d (14 + n)) ≠ 0) := by
  unfold wlM
  rw [tb_mk _ (by omega)]
  have : (d (14 + n) != 0) = decide (vI (d (14 + n)) ≠ 0) := by
    by_cases q : vI (d (14 + n)) = 0
    · have : d (14 + n) = 0 := by rw [vI_ii (d (14 + n)), q]; rfl
      rw [this]; rfl
    · have : d (14 + n) ≠ 0 := fun z => q (by rw [z]; rfl)
      simp [q, this]
  simp only [hn, decide_true, Bool.true_and]
  exact this
theorem wl_tb2 (V : DW hd d) (W : HS hd) {n : Nat} (hn : cellsM hd ≤ n) : tb (wlM d) n = false := by
  have := W.cells
  by_cases q : n < 30
  · rw [wl_tb V q]
    have := (V.wel q).2.2 hn
    simp [this]
  · unfold wlM
    rw [tb_mk _ (by omega)]
    simp [q]
/-- row a of the reference, with wells of its own -/
theorem R_bringsOf {a : Nat} (R : RH hd g) (D : RDy d g a) (V : DW hd d) (W : HW hd) {c s : Int} (h0 : 0 ≤ c) (h1 : c < cellsM hd) (s0 : 0 ≤ s) (s1 : s ≤ 3) : f_R_bringsOf 227 a (ii c) (ii s) g = some (ii (brM hd (vI (d (14 + c.toNat))) (wlM d) c s)) := by
  have hcl := W.cells
  have hw := W.1
  have hl := watM_lo W c s
  have ha := adjM_lo (hd := hd) (wlM d) c
  obtain ⟨n, rfl⟩ := Int.eq_ofNat_of_zero_le h0
  have hwl := V.wel (c := n) (by omega)
  have e14 := D.i (j := 14 + n) (by omega)
  unfold f_R_bringsOf brM
  simp only [Int.toNat_natCast]
  by_cases q1 : watM hd n s = -1
  · rw [if_pos (Or.inl q1)]
    simp (disch := omega) only [Option.bind_some, if_true, if_false, not_true_eq_false, not_false_eq_true, z0, ii_add, ii_sub, ii_mul, ifLeT, ifLeF, ifLtT, ifLtF, ifEqT, ifEqF, ifNeT, ifNeF, ifIn, nixZ, ii_i64, o0, o1, isInT, isInF, tn14, tn12, tn2, tn21, tn47, tn48, tn49, tn471, tn472, Int.reduceToNat, Int.toNat_natCast, Int.reduceAdd, Int.reduceSub, Int.reduceMul, Int.reduceNeg, Nat.reduceAdd, Nat.reduceSub, Nat.reduceMul, R_depthOf R W]
  · by_cases q2 : vI (d (14 + n)) < watM hd n s
    · rw [if_pos (Or.inr q2)]
      simp (disch := omega) only [Option.bind_some, if_true, if_false, not_true_eq_false, not_false_eq_true, z0, ii_add, ii_sub, ii_mul, ifLeT, ifLeF, ifLtT, ifLtF, ifEqT, ifEqF, ifNeT, ifNeF, ifIn, nixZ, ii_i64, o0, o1, isInT, isInF, tn14, tn12, tn2, tn21, tn47, tn48, tn49, tn471, tn472, Int.reduceToNat, Int.toNat_natCast, Int.reduceAdd, Int.reduceSub, Int.reduceMul, Int.reduceNeg, Nat.reduceAdd, Nat.reduceSub, Nat.reduceMul, R_depthOf R W, e14]
    · rw [if_neg (by omega)]
      have step : ∀ (k : Int) (v : Int) (m : Nat), 0 ≤ k → k < 4 → -100 ≤ v → v ≤ 100 → R_bringsOf_L40 (m + 1) 227 a (ii n) (ii v) (ii k) g = R_bringsOf_L40 m 227 a (ii n) (ii (v - selN (hd 0) (hd 1) n k (inS (wlM d) (nb (hd 0) (hd 1) n k)))) (ii (k + 1)) g := by
        intro k v m hk0 hk v0 v1
        unfold selN inS
        by_cases z1 : nb (hd 0) (hd 1) n k = -1
        · rw [if_pos z1]
          simp (disch := omega) only [Option.bind_some, if_true, if_false, not_true_eq_false, not_false_eq_true, z0, ii_add, ii_sub, ii_mul, ifLeT, ifLeF, ifLtT, ifLtF, ifEqT, ifEqF, ifNeT, ifNeF, ifIn, nixZ, ii_i64, o0, o1, isInT, isInF, tn14, tn12, tn2, tn21, tn47, tn48, tn49, tn471, tn472, Int.reduceToNat, Int.toNat_natCast, Int.reduceAdd, Int.reduceSub, Int.reduceMul, Int.reduceNeg, Nat.reduceAdd, Nat.reduceSub, Nat.reduceMul, R_bringsOf_L40, R_bringsOf_L40_b, R_stepTo R W, z1]
        · rw [if_neg z1]
          have hn := nb_in (by omega) z1
          have hn2 : nb (hd 0) (hd 1) n k < cellsM hd := hn.2
          obtain ⟨u, hu⟩ := Int.eq_ofNat_of_zero_le hn.1
          have hwu := V.wel (c := u) (by omega)
          have eu := D.i (j := 14 + u) (by omega)
          rw [hu] at hn2
          have est := R_stepTo R W (c := (n : Int)) (way := k) h0 h1 (by omega) (by omega)
          rw [hu] at est
          rw [hu]
          simp only [Int.toNat_natCast]
          by_cases z2 : vI (d (14 + u)) = 0
          · have ht : tb (wlM d) u = false := by rw [wl_tb V (by omega)]; simp [z2]
            rw [if_neg (by rw [ht]; decide)]
            simp (disch := omega) only [Option.bind_some, if_true, if_false, not_true_eq_false, not_false_eq_true, z0, ii_add, ii_sub, ii_mul, ifLeT, ifLeF, ifLtT, ifLtF, ifEqT, ifEqF, ifNeT, ifNeF, ifIn, nixZ, ii_i64, o0, o1, isInT, isInF, tn14, tn12, tn2, tn21, tn47, tn48, tn49, tn471, tn472, Int.reduceToNat, Int.toNat_natCast, Int.reduceAdd, Int.reduceSub, Int.reduceMul, Int.reduceNeg, Nat.reduceAdd, Nat.reduceSub, Nat.reduceMul, R_bringsOf_L40, R_bringsOf_L40_b, est, eu]
          · have ht : tb (wlM d) u = true := by rw [wl_tb V (by omega)]; simp [z2]
            rw [if_pos ht]
            simp (disch := omega) only [Option.bind_some, if_true, if_false, not_true_eq_false, not_false_eq_true, z0, ii_add, ii_sub, ii_mul, ifLeT, ifLeF, ifLtT, ifLtF, ifEqT, ifEqF, ifNeT, ifNeF, ifIn, nixZ, ii_i64, o0, o1, isInT, isInF, tn14, tn12, tn2, tn21, tn47, tn48, tn49, tn471, tn472, Int.reduceToNat, Int.toNat_natCast, Int.reduceAdd, Int.reduceSub, Int.reduceMul, Int.reduceNeg, Nat.reduceAdd, Nat.reduceSub, Nat.reduceMul, R_bringsOf_L40, R_bringsOf_L40_b, est, eu]
      have n0 := selN_lo (hd 0) (hd 1) n 0 (inS (wlM d) (nb (hd 0) (hd 1) n 0))
      have n1 := selN_lo (hd 0) (hd 1) n 1 (inS (wlM d) (nb (hd 0) (hd 1) n 1))
      have n2 := selN_lo (hd 0) (hd 1) n 2 (inS (wlM d) (nb (hd 0) (hd 1) n 2))
      have n3 := selN_lo (hd 0) (hd 1) n 3 (inS (wlM d) (nb (hd 0) (hd 1) n 3))
      simp (disch := omega) only [Option.bind_some, if_true, if_false, not_true_eq_false, not_false_eq_true, z0, ii_add, ii_sub, ii_mul, ifLeT, ifLeF, ifLtT, ifLtF, ifEqT, ifEqF, ifNeT, ifNeF, ifIn, nixZ, ii_i64, o0, o1, isInT, isInF, tn14, tn12, tn2, tn21, tn47, tn48, tn49, tn471, tn472, Int.reduceToNat, Int.toNat_natCast, Int.reduceAdd, Int.reduceSub, Int.reduceMul, Int.reduceNeg, Nat.reduceAdd, Nat.reduceSub, Nat.reduceMul, R_depthOf R W, e14, ii_div]
      obtain ⟨N, hN⟩ : ∃ N, FU = N + 1 + 1 + 1 + 1 + 1 := ⟨99995, rfl⟩
      rw [hN]
      refine (step 0 _ _ (by omega) (by omega) (by omega) (by omega)).trans ?_
      refine (step 1 _ _ (by omega) (by omega) (by omega) (by omega)).trans ?_
      refine (step 2 _ _ (by omega) (by omega) (by omega) (by omega)).trans ?_
      refine (step 3 _ _ (by omega) (by omega) (by omega) (by omega)).trans ?_
      have ea : adjM hd (wlM d) n = selN (hd 0) (hd 1) n 0 (inS (wlM d) (nb (hd 0) (hd 1) n 0)) + selN (hd 0) (hd 1) n 1 (inS (wlM d) (nb (hd 0) (hd 1) n 1)) + selN (hd 0) (hd 1) n 2 (inS (wlM d) (nb (hd 0) (hd 1) n 2)) + selN (hd 0) (hd 1) n 3 (inS (wlM d) (nb (hd 0) (hd 1) n 3)) := rfl
      simp (disch := omega) only [Option.bind_some, if_true, if_false, not_true_eq_false, not_false_eq_true, z0, ii_add, ii_sub, ii_mul, ifLeT, ifLeF, ifLtT, ifLtF, ifEqT, ifEqF, ifNeT, ifNeF, ifIn, nixZ, ii_i64, o0, o1, isInT, isInF, tn14, tn12, tn2, tn21, tn47, tn48, tn49, tn471, tn472, Int.reduceToNat, Int.toNat_natCast, Int.reduceAdd, Int.reduceSub, Int.reduceMul, Int.reduceNeg, Nat.reduceAdd, Nat.reduceSub, Nat.reduceMul, R_bringsOf_L40, R_bringsOf_L40_b, max0]
      congr 2
      split <;> split <;> omega
theorem R_bringsAll {a : Nat} (R : RH hd g) (D : RDy d g a) (V : DW hd d) (W : HW hd) {s : Int} (s0 : 0 ≤ s) (s1 : s ≤ 3) : f_R_bringsAll 227 a (ii s) g = some (ii (alM hd (wlM d) s d (cellsM hd).toNat)) := by
  have hcl := W.cells
  unfold f_R_bringsAll
  refine lup (fun n k (b : Int) => R_bringsAll_L5 n 227 a (ii s) (ii b) (ii k) g) (cellsM hd).toNat (fun k b => b = alM hd (wlM d) s d k) (fun y => y = some (ii (alM hd (wlM d) s d (cellsM hd).toNat))) ?_ ?_ (cellsM hd).toNat 0 FU 0 (by omega) (by unfold FU; omega) rfl
  · rintro n b r
    subst r
    simp (disch := omega) only [Option.bind_some, if_true, if_false, not_true_eq_false, not_false_eq_true, z0, ii_add, ii_sub, ii_mul, ifLeT, ifLeF, ifLtT, ifLtF, ifEqT, ifEqF, ifNeT, ifNeF, ifIn, nixZ, ii_i64, o0, o1, isInT, isInF, tn14, tn12, tn2, tn21, tn47, tn48, tn49, tn471, tn472, Int.reduceToNat, Int.toNat_natCast, Int.reduceAdd, Int.reduceSub, Int.reduceMul, Int.reduceNeg, Nat.reduceAdd, Nat.reduceSub, Nat.reduceMul, R_bringsAll_L5, R_bringsAll_L5_b, R.2.2.2.2.2.1]
  · rintro n k b hk r
    subst r
    right
    have hwl := V.wel (c := k) (by omega)
    have e14 := D.i (j := 14 + k) (by omega)
    have et : alM hd (wlM d) s d (k + 1) = alM hd (wlM d) s d k + (if vI (d (14 + k)) = 0 then 0 else brM hd (vI (d (14 + k))) (wlM d) k s) := rfl
    rw [et]
    by_cases q : vI (d (14 + k)) = 0
    · rw [if_pos q]
      simp (disch := omega) only [Option.bind_some, if_true, if_false, not_true_eq_false, not_false_eq_true, z0, ii_add, ii_sub, ii_mul, ifLeT, ifLeF, ifLtT, ifLtF, ifEqT, ifEqF, ifNeT, ifNeF, ifIn, nixZ, ii_i64, o0, o1, isInT, isInF, tn14, tn12, tn2, tn21, tn47, tn48, tn49, tn471, tn472, Int.reduceToNat, Int.toNat_natCast, Int.reduceAdd, Int.reduceSub, Int.reduceMul, Int.reduceNeg, Nat.reduceAdd, Nat.reduceSub, Nat.reduceMul, R_bringsAll_L5, R_bringsAll_L5_b, R.2.2.2.2.2.1, e14]
      exact ⟨_, rfl, by omega⟩
    · rw [if_neg q]
      simp (disch := omega) only [Option.bind_some, if_true, if_false, not_true_eq_false, not_false_eq_true, z0, ii_add, ii_sub, ii_mul, ifLeT, ifLeF, ifLtT, ifLtF, ifEqT, ifEqF, ifNeT, ifNeF, ifIn, nixZ, ii_i64, o0, o1, isInT, isInF, tn14, tn12, tn2, tn21, tn47, tn48, tn49, tn471, tn472, Int.reduceToNat, Int.toNat_natCast, Int.reduceAdd, Int.reduceSub, Int.reduceMul, Int.reduceNeg, Nat.reduceAdd, Nat.reduceSub, Nat.reduceMul, R_bringsAll_L5, R_bringsAll_L5_b, R.2.2.2.2.2.1, e14, R_bringsOf R D V W]
      exact ⟨_, rfl, rfl⟩
end Q6
