/-! reads: brings, driest, loses, stuck, reach -/
section Q7
variable {hd : Nat → Int} {d : DY} {o wr : Nat} {h g : AH}
theorem q_brings (X : RX hd d o wr h (wI g 80 0 (ii 0))) {c s : Int} (c0 : -2147483648 ≤ c) (c1 : c ≤ 2147483647) (a0 : -2147483648 ≤ s) (a1 : s ≤ 2147483647) : ∃ x, f_HF_brings (ii c) (ii s) h = some x ∧ f_R_brings (ii c) (ii s) g = some (x, wI g 80 0 (ii 0)) := by
  obtain ⟨E, C, M, R, D, W, V⟩ := X
  have hc := W.cells
  unfold f_R_brings f_HF_brings
  generalize wI g 80 0 (ii 0) = g at *
  by_cases q : cellsM hd = 0
  · simp (disch := omega) only [Option.bind_some, if_true, if_false, not_true_eq_false, not_false_eq_true, z0, ii_add, ii_sub, ii_mul, ifLeT, ifLeF, ifLtT, ifLtF, ifEqT, ifEqF, ifNeT, ifNeF, ifIn, nixZ, ii_i64, o0, o1, isInT, isInF, tn14, tn12, tn2, tn21, tn47, tn48, tn49, tn471, tn472, Int.reduceToNat, Int.toNat_natCast, Int.reduceAdd, Int.reduceSub, Int.reduceMul, Int.reduceNeg, Nat.reduceAdd, Nat.reduceSub, Nat.reduceMul, C_hhF E C, R.2.2.2.2.2.1]
    exact ⟨_, rfl, rfl⟩
  · have HWd := W.hw (c := 0) (by omega) (by omega)
    have ic := C_isCell C W c0 c1
    have ir := R_isCell R W c0 c1
    by_cases q2 : 0 ≤ s ∧ s ≤ 3
    · by_cases q3 : c = -1
      · simp (disch := omega) only [Option.bind_some, if_true, if_false, not_true_eq_false, not_false_eq_true, z0, ii_add, ii_sub, ii_mul, ifLeT, ifLeF, ifLtT, ifLtF, ifEqT, ifEqF, ifNeT, ifNeF, ifIn, nixZ, ii_i64, o0, o1, isInT, isInF, tn14, tn12, tn2, tn21, tn47, tn48, tn49, tn471, tn472, Int.reduceToNat, Int.toNat_natCast, Int.reduceAdd, Int.reduceSub, Int.reduceMul, Int.reduceNeg, Nat.reduceAdd, Nat.reduceSub, Nat.reduceMul, C_hhT E C W, R.2.2.2.2.2.1, C_allBring E C M V HWd, R_bringsAll R D V HWd, M_wells M]
        exact ⟨_, rfl, rfl⟩
      · by_cases q4 : 0 ≤ c ∧ c < cellsM hd
        · rw [if_pos q4] at ic ir
          obtain ⟨n, rfl⟩ := Int.eq_ofNat_of_zero_le q4.1
          have hwl := V.wel (c := n) (by omega)
          have e14 := D.i (j := 14 + n) (by omega)
          by_cases q5 : vI (d (14 + n)) = 0
          · simp (disch := omega) only [Option.bind_some, if_true, if_false, not_true_eq_false, not_false_eq_true, z0, ii_add, ii_sub, ii_mul, ifLeT, ifLeF, ifLtT, ifLtF, ifEqT, ifEqF, ifNeT, ifNeF, ifIn, nixZ, ii_i64, o0, o1, isInT, isInF, tn14, tn12, tn2, tn21, tn47, tn48, tn49, tn471, tn472, Int.reduceToNat, Int.toNat_natCast, Int.reduceAdd, Int.reduceSub, Int.reduceMul, Int.reduceNeg, Nat.reduceAdd, Nat.reduceSub, Nat.reduceMul, C_hhT E C W, R.2.2.2.2.2.1, E, ic, ir, M_wlF M V, e14]
            exact ⟨_, rfl, rfl⟩
          · simp (disch := omega) only [Option.bind_some, if_true, if_false, not_true_eq_false, not_false_eq_true, z0, ii_add, ii_sub, ii_mul, ifLeT, ifLeF, ifLtT, ifLtF, ifEqT, ifEqF, ifNeT, ifNeF, ifIn, nixZ, ii_i64, o0, o1, isInT, isInF, tn14, tn12, tn2, tn21, tn47, tn48, tn49, tn471, tn472, Int.reduceToNat, Int.toNat_natCast, Int.reduceAdd, Int.reduceSub, Int.reduceMul, Int.reduceNeg, Nat.reduceAdd, Nat.reduceSub, Nat.reduceMul, C_hhT E C W, R.2.2.2.2.2.1, E, ic, ir, M_wlT M V, e14, C_wellBrings E C M V HWd, R_bringsOf R D V HWd]
            exact ⟨_, rfl, by rw [M_wells M]⟩
        · rw [if_neg q4] at ic ir
          simp (disch := omega) only [Option.bind_some, if_true, if_false, not_true_eq_false, not_false_eq_true, z0, ii_add, ii_sub, ii_mul, ifLeT, ifLeF, ifLtT, ifLtF, ifEqT, ifEqF, ifNeT, ifNeF, ifIn, nixZ, ii_i64, o0, o1, isInT, isInF, tn14, tn12, tn2, tn21, tn47, tn48, tn49, tn471, tn472, Int.reduceToNat, Int.toNat_natCast, Int.reduceAdd, Int.reduceSub, Int.reduceMul, Int.reduceNeg, Nat.reduceAdd, Nat.reduceSub, Nat.reduceMul, C_hhT E C W, R.2.2.2.2.2.1, E, ic, ir]
          exact ⟨_, rfl, rfl⟩
    · by_cases q3 : s < 0
      · simp (disch := omega) only [Option.bind_some, if_true, if_false, not_true_eq_false, not_false_eq_true, z0, ii_add, ii_sub, ii_mul, ifLeT, ifLeF, ifLtT, ifLtF, ifEqT, ifEqF, ifNeT, ifNeF, ifIn, nixZ, ii_i64, o0, o1, isInT, isInF, tn14, tn12, tn2, tn21, tn47, tn48, tn49, tn471, tn472, Int.reduceToNat, Int.toNat_natCast, Int.reduceAdd, Int.reduceSub, Int.reduceMul, Int.reduceNeg, Nat.reduceAdd, Nat.reduceSub, Nat.reduceMul, C_hhT E C W, R.2.2.2.2.2.1]
        exact ⟨_, rfl, rfl⟩
      · simp (disch := omega) only [Option.bind_some, if_true, if_false, not_true_eq_false, not_false_eq_true, z0, ii_add, ii_sub, ii_mul, ifLeT, ifLeF, ifLtT, ifLtF, ifEqT, ifEqF, ifNeT, ifNeF, ifIn, nixZ, ii_i64, o0, o1, isInT, isInF, tn14, tn12, tn2, tn21, tn47, tn48, tn49, tn471, tn472, Int.reduceToNat, Int.toNat_natCast, Int.reduceAdd, Int.reduceSub, Int.reduceMul, Int.reduceNeg, Nat.reduceAdd, Nat.reduceSub, Nat.reduceMul, C_hhT E C W, R.2.2.2.2.2.1]
        exact ⟨_, rfl, rfl⟩
theorem q_driest (X : RX hd d o wr h (wI g 80 0 (ii 0))) : ∃ x, f_HF_driest h = some x ∧ f_R_driest g = some (x, wI g 80 0 (ii 0)) := by
  obtain ⟨E, C, M, R, D, W, V⟩ := X
  have hc := W.cells
  unfold f_R_driest f_HF_driest
  generalize wI g 80 0 (ii 0) = g at *
  by_cases q : cellsM hd = 0
  · simp (disch := omega) only [Option.bind_some, if_true, if_false, not_true_eq_false, not_false_eq_true, z0, ii_add, ii_sub, ii_mul, ifLeT, ifLeF, ifLtT, ifLtF, ifEqT, ifEqF, ifNeT, ifNeF, ifIn, nixZ, ii_i64, o0, o1, isInT, isInF, tn14, tn12, tn2, tn21, tn47, tn48, tn49, tn471, tn472, Int.reduceToNat, Int.toNat_natCast, Int.reduceAdd, Int.reduceSub, Int.reduceMul, Int.reduceNeg, Nat.reduceAdd, Nat.reduceSub, Nat.reduceMul, C_hhF E C, R.2.2.2.2.2.1]
    exact ⟨_, rfl, rfl⟩
  · have HWd := W.hw (c := 0) (by omega) (by omega)
    simp (disch := omega) only [Option.bind_some, if_true, if_false, not_true_eq_false, not_false_eq_true, z0, ii_add, ii_sub, ii_mul, ifLeT, ifLeF, ifLtT, ifLtF, ifEqT, ifEqF, ifNeT, ifNeF, ifIn, nixZ, ii_i64, o0, o1, isInT, isInF, tn14, tn12, tn2, tn21, tn47, tn48, tn49, tn471, tn472, Int.reduceToNat, Int.toNat_natCast, Int.reduceAdd, Int.reduceSub, Int.reduceMul, Int.reduceNeg, Nat.reduceAdd, Nat.reduceSub, Nat.reduceMul, C_hhT E C W, R.2.2.2.2.2.1]
    refine lrel (fun n k (a : Nat) => HF_driest_L13 n (ii a) (ii k) h) (fun n k (b : Nat) => R_driest_L18 n (ii b) (ii k) g) 4 (fun k a b => a = b ∧ a < 4) (fun x y => ∃ z, x = some z ∧ y = some (z, g)) ?_ ?_ 3 1 FU FU 0 0 (by omega) (by unfold FU; omega) (by unfold FU; omega) ⟨rfl, by omega⟩
    · rintro n m a b ⟨r1, r2⟩
      subst r1
      simp (disch := omega) only [Option.bind_some, if_true, if_false, not_true_eq_false, not_false_eq_true, z0, ii_add, ii_sub, ii_mul, ifLeT, ifLeF, ifLtT, ifLtF, ifEqT, ifEqF, ifNeT, ifNeF, ifIn, nixZ, ii_i64, o0, o1, isInT, isInF, tn14, tn12, tn2, tn21, tn47, tn48, tn49, tn471, tn472, Int.reduceToNat, Int.toNat_natCast, Int.reduceAdd, Int.reduceSub, Int.reduceMul, Int.reduceNeg, Nat.reduceAdd, Nat.reduceSub, Nat.reduceMul, HF_driest_L13, HF_driest_L13_b, R_driest_L18, R_driest_L18_b, Int.cast_ofNat_Int]
      exact ⟨_, rfl, rfl⟩
    · rintro n m k a b hk ⟨r1, r2⟩
      subst r1
      right
      have t1 := alM_lo HWd (d := d) (wlM d) a (cellsM hd).toNat
      have t2 := alM_lo HWd (d := d) (wlM d) k (cellsM hd).toNat
      by_cases q1 : alM hd (wlM d) a d (cellsM hd).toNat ≤ alM hd (wlM d) k d (cellsM hd).toNat
      · simp (disch := omega) only [Option.bind_some, if_true, if_false, not_true_eq_false, not_false_eq_true, z0, ii_add, ii_sub, ii_mul, ifLeT, ifLeF, ifLtT, ifLtF, ifEqT, ifEqF, ifNeT, ifNeF, ifIn, nixZ, ii_i64, o0, o1, isInT, isInF, tn14, tn12, tn2, tn21, tn47, tn48, tn49, tn471, tn472, Int.reduceToNat, Int.toNat_natCast, Int.reduceAdd, Int.reduceSub, Int.reduceMul, Int.reduceNeg, Nat.reduceAdd, Nat.reduceSub, Nat.reduceMul, HF_driest_L13, HF_driest_L13_b, R_driest_L18, R_driest_L18_b, M_wells M, C_allBring E C M V HWd, R_bringsAll R D V HWd]
        exact ⟨a, a, rfl, rfl, rfl, by omega⟩
      · simp (disch := omega) only [Option.bind_some, if_true, if_false, not_true_eq_false, not_false_eq_true, z0, ii_add, ii_sub, ii_mul, ifLeT, ifLeF, ifLtT, ifLtF, ifEqT, ifEqF, ifNeT, ifNeF, ifIn, nixZ, ii_i64, o0, o1, isInT, isInF, tn14, tn12, tn2, tn21, tn47, tn48, tn49, tn471, tn472, Int.reduceToNat, Int.toNat_natCast, Int.reduceAdd, Int.reduceSub, Int.reduceMul, Int.reduceNeg, Nat.reduceAdd, Nat.reduceSub, Nat.reduceMul, HF_driest_L13, HF_driest_L13_b, R_driest_L18, R_driest_L18_b, M_wells M, C_allBring E C M V HWd, R_bringsAll R D V HWd]
        exact ⟨k, k, rfl, rfl, rfl, by omega⟩
/-! copies of rows -/
theorem R_cp {m0 u0 m1 u1 : Nat} (ho : u0 ≠ u1) (hn : m1 ≤ m0) (hm : m1 ≤ 90000) (g : AH) : ∃ g1, f_R_copy m0 u0 m1 u1 g = some g1 ∧ (∀ j, j < m1 → g1.1 u1 j = g.1 u0 j) ∧ Ag [u1] g g1 := by
  unfold f_R_copy
  refine lup (fun n k (a : AH) => R_copy_L2 n m0 u0 m1 u1 (ii k) a) m1 (fun k a => (∀ j, j < k → a.1 u1 j = g.1 u0 j) ∧ Ag [u1] g a) (fun x => ∃ g1, x = some g1 ∧ (∀ j, j < m1 → g1.1 u1 j = g.1 u0 j) ∧ Ag [u1] g g1) ?_ ?_ m1 0 FU g (by omega) (by unfold FU; omega) ⟨fun j hj => by omega, Ag.rf _ _⟩
  · rintro n a ⟨r1, r2⟩
    simp (disch := omega) only [Option.bind_some, if_true, if_false, not_true_eq_false, not_false_eq_true, z0, ii_add, ii_sub, ii_mul, ifLeT, ifLeF, ifLtT, ifLtF, ifEqT, ifEqF, ifNeT, ifNeF, ifIn, nixZ, ii_i64, o0, o1, isInT, isInF, tn14, tn12, tn2, tn21, tn47, tn48, tn49, tn471, tn472, Int.reduceToNat, Int.toNat_natCast, Int.reduceAdd, Int.reduceSub, Int.reduceMul, Int.reduceNeg, Nat.reduceAdd, Nat.reduceSub, Nat.reduceMul, R_copy_L2, R_copy_L2_b]
    exact ⟨_, rfl, r1, r2⟩
  · rintro n k a hk ⟨r1, r2⟩
    right
    simp (disch := omega) only [Option.bind_some, if_true, if_false, not_true_eq_false, not_false_eq_true, z0, ii_add, ii_sub, ii_mul, ifLeT, ifLeF, ifLtT, ifLtF, ifEqT, ifEqF, ifNeT, ifNeF, ifIn, nixZ, ii_i64, o0, o1, isInT, isInF, tn14, tn12, tn2, tn21, tn47, tn48, tn49, tn471, tn472, Int.reduceToNat, Int.toNat_natCast, Int.reduceAdd, Int.reduceSub, Int.reduceMul, Int.reduceNeg, Nat.reduceAdd, Nat.reduceSub, Nat.reduceMul, R_copy_L2, R_copy_L2_b]
    refine ⟨_, rfl, fun j hj => ?_, r2.pI (by simp)⟩
    rw [wI_rd, if_pos rfl]
    by_cases e : j = k
    · rw [if_pos e, e, r2.1 u0 (by simp [ho])]
    · rw [if_neg e]; exact r1 j (by omega)
theorem RKeep.ag {S : List Nat} {h h' : AH} (a : Ag S h h') (hs : ∀ o, o ∈ [80, 81, 82, 83, 84, 85, 87, 89, 91, 93, 95, 96, 97, 99, 100, 101, 102, 104] → o ∉ S) : RKeep h h' := by
  refine ⟨fun l j hj => by rw [a.1 84 (hs 84 (by decide))]; exact l j hj, fun o ho => a.1 o (hs o ?_), fun j _ => by rw [a.1 95 (hs 95 (by decide))], fun j _ => by rw [a.1 96 (hs 96 (by decide))], fun j _ => by rw [a.1 80 (hs 80 (by decide))]⟩
  simp only [List.mem_cons, List.not_mem_nil, or_false] at ho ⊢
  omega
/-- the reference's scratch -/
def RS (g g1 : AH) : Prop := RKeep g g1 ∧ KC g g1
theorem RS.rf (g : AH) : RS g g := ⟨RKeep.rf g, KC.rf g⟩
theorem RS.tr {g g1 g2 : AH} (a : RS g g1) (b : RS g1 g2) : RS g g2 := ⟨a.1.tr b.1, a.2.tr b.2⟩
theorem RS.t0 (g : AH) {v : Int32} : RS g (wI g 80 0 v) := ⟨RKeep.sf g (by decide), KC.wI (by omega)⟩
theorem RS.a98 {g g1 : AH} (a : Ag [98] g g1) : RS g g1 := ⟨RKeep.ag a (by decide), KC.ag a (by decide)⟩
theorem RDy.ag {d : DY} {S : List Nat} {g g1 : AH} {a : Nat} (D : RDy d g a) (A : Ag S g g1) (h : a ∉ S) : RDy d g1 a := fun j hj => by rw [A.1 a h]; exact D j hj
theorem DW.set {hd : Nat → Int} {d : DY} (V : DW hd d) {c : Nat} {z : Int} (hc : c < 30) (hcc : (c : Int) < cellsM hd) (z0 : 0 ≤ z) (z1 : z ≤ 60) (W : HS hd) : DW hd (upd d (14 + c) (ii z)) := by
  have hf := W.nf
  obtain ⟨v1, v2, v3, v4, v5⟩ := V
  have e46 : upd d (14 + c) (ii z) 46 = d 46 := upd_ne (by omega)
  have eb : bL (upd d (14 + c) (ii z)) = bL d := by unfold bL; rw [e46]
  refine ⟨by rw [upd_ne (by omega)]; exact v1, fun f hf => by rw [upd_ne (by omega)]; exact v2 f hf, fun k hk => ?_, by rw [eb, e46]; exact v4, fun j hj => ?_⟩
  · by_cases e : k = c
    · subst e
      exact ⟨z, z0, z1, upd_self, fun q => by omega⟩
    · rw [upd_ne (by omega)]; exact v3 k hk
  · rw [eb] at hj
    rw [upd_ne (by omega), upd_ne (by omega), upd_ne (by omega)]
    exact v5 j hj
theorem wlM_set {d : DY} {c : Nat} {z : Int} (hc : c < 30) (z0 : 0 < z) (z1 : z ≤ 60) : wlM (upd d (14 + c) (ii z)) = wlM d ||| bitI c := by
  apply tb_ext
  intro i hi
  rw [tb_or, tb_bit (by omega)]
  unfold wlM
  rw [tb_mk _ (by omega), tb_mk _ (by omega)]
  by_cases e : i = c
  · subst e
    rw [upd_self]
    have : (ii z != 0) = true := by
      simp only [bne_iff_ne, ne_eq]
      rw [ii_z (by omega) (by omega)]; omega
    simp [hc, this]
  · rw [upd_ne (by omega)]
    simp [e]
theorem alM_set {d : DY} {c : Nat} {z : Int} {x : Int32} {s : Int} (e : vI (d (14 + c)) = 0) (z0 : 0 < z) (z1 : z ≤ 60) : ∀ n : Nat, alM hd x s (upd d (14 + c) (ii z)) n = alM hd x s d n + (if c < n then brM hd z x c s else 0)
  | 0 => by simp [alM]
  | n + 1 => by
    have ih := alM_set (x := x) (s := s) e z0 z1 n
    unfold alM
    rw [ih]
    by_cases q : n = c
    · subst q
      rw [upd_self, ii_vI rfl (by omega) (by omega), if_neg (show ¬ z = 0 by omega), if_pos e, if_neg (Nat.lt_irrefl n), if_pos (Nat.lt_succ_self n)]
    · rw [upd_ne (by omega)]
      by_cases q2 : c < n
      · rw [if_pos q2, if_pos (show c < n + 1 by omega)]; omega
      · rw [if_neg q2, if_neg (show ¬ c < n + 1 by omega)]; omega
theorem alM_lo2 (W : HW hd) (x : Int32) (s : Int) (d : DY) (n : Nat) (hn : n ≤ 30) : 0 ≤ alM hd x s d n ∧ alM hd x s d n ≤ 300 := by
  have := alM_lo W (d := d) x s n
  omega
theorem wdM_pos (W : HW hd) (c : Int) {s : Int} : 1 ≤ wdM hd c s := by
  have hw := W.1
  have hl := depM_lo W c
  have ha : 0 ≤ addM hd s := by unfold addM; split; omega; split <;> omega
  unfold wdM watM cap99
  by_cases q : depM hd c = -1
  · rw [if_pos q]; simp
  · rw [if_neg q]
    split <;> split <;> omega
theorem q_loses (X : RX hd d o wr h (wI g 80 0 (ii 0))) {c : Int} (c0 : -2147483648 ≤ c) (c1 : c ≤ 2147483647) : ∃ x g1, f_HF_loses (ii c) h = some x ∧ f_R_loses (ii c) g = some (x, g1) ∧ RS (wI g 80 0 (ii 0)) g1 := by
  obtain ⟨E, C, M, R, D, W, V⟩ := X
  have hc := W.cells
  have hs := V.sea
  unfold f_R_loses f_HF_loses p_HF_canSink
  generalize wI g 80 0 (ii 0) = g at *
  have ic := C_isCell C W c0 c1
  have ir := R_isCell R W c0 c1
  by_cases q : 0 ≤ c ∧ c < cellsM hd
  · rw [if_pos q] at ic ir
    have HWd := W.hw q.1 q.2
    obtain ⟨n, rfl⟩ := Int.eq_ofNat_of_zero_le q.1
    have hwl := V.wel (c := n) (by omega)
    have e14 := D.i (j := 14 + n) (by omega)
    by_cases q3 : vI (d (14 + n)) = 0
    · obtain ⟨g1, ec, ej, ea⟩ := R_cp (m0 := 227) (u0 := 97) (m1 := 227) (u1 := 98) (by omega) (by omega) (by omega) g
      have K1 := (RS.a98 ea)
      have R1 := R.keep K1.1
      have D1 : RDy d g1 97 := D.ag ea (by decide)
      have hwd := wdM_lo HWd n (vI (d 45))
      have hwp := wdM_pos HWd n (s := vI (d 45))
      have A2 : Ag [98] g1 (wI g1 98 (14 + n) (ii (wdM hd n (vI (d 45))))) := (Ag.rf [98] g1).pI (by decide)
      have e45 := D1.i (j := 45) (by omega)
      have D2 : RDy d (wI g1 98 (14 + n) (ii (wdM hd n (vI (d 45))))) 97 := D1.ag A2 (by decide)
      have e45' := D2.i (j := 45) (by omega)
      have R2 := R1.keep (RS.a98 A2).1
      have V2 := V.set (c := n) (z := wdM hd n (vI (d 45))) (by omega) q.2 (by omega) (by omega) W
      have D3 : RDy (upd d (14 + n) (ii (wdM hd n (vI (d 45))))) (wI g1 98 (14 + n) (ii (wdM hd n (vI (d 45))))) 98 := by
        intro j hj
        rw [wI_self]
        by_cases e : j = 14 + n
        · rw [e, upd_self, upd_self]
        · rw [upd_ne e, upd_ne e, ej j hj]; exact D j hj
      have l1 := alM_lo2 HWd (wlM d) (vI (d 45)) d (cellsM hd).toNat (by omega)
      have hF := M_wlF M V (c := n) (by omega) q3
      rw [M_wells M] at hF
      simp (disch := omega) only [Option.bind_some, if_true, if_false, not_true_eq_false, not_false_eq_true, z0, ii_add, ii_sub, ii_mul, ifLeT, ifLeF, ifLtT, ifLtF, ifEqT, ifEqF, ifNeT, ifNeF, ifIn, nixZ, ii_i64, o0, o1, isInT, isInF, tn14, tn12, tn2, tn21, tn47, tn48, tn49, tn471, tn472, Int.reduceToNat, Int.toNat_natCast, Int.reduceAdd, Int.reduceSub, Int.reduceMul, Int.reduceNeg, Nat.reduceAdd, Nat.reduceSub, Nat.reduceMul, E, ic, ir, hF, e14, ec, e45, R_sunkTo R1 HWd, M_sea M, M_wells M, C_allBring E C M V HWd, e45', R_bringsAll R2 D2 V HWd, R_bringsAll R2 D3 V2 HWd, R_bringsOf R2 D3 V2 HWd]
      refine ⟨_, _, rfl, ?_, K1.tr (RS.a98 A2)⟩
      rw [alM_set q3 (by omega) hwd.2, wlM_set (by omega) (by omega) hwd.2, upd_self, ii_vI rfl (by omega) (by omega), if_pos (by omega)]
      have ex : ∀ a b c : Int, a - (b + c) + c = a - b := fun a b c => by omega
      rw [ex, C_bit]
    · simp (disch := omega) only [Option.bind_some, if_true, if_false, not_true_eq_false, not_false_eq_true, z0, ii_add, ii_sub, ii_mul, ifLeT, ifLeF, ifLtT, ifLtF, ifEqT, ifEqF, ifNeT, ifNeF, ifIn, nixZ, ii_i64, o0, o1, isInT, isInF, tn14, tn12, tn2, tn21, tn47, tn48, tn49, tn471, tn472, Int.reduceToNat, Int.toNat_natCast, Int.reduceAdd, Int.reduceSub, Int.reduceMul, Int.reduceNeg, Nat.reduceAdd, Nat.reduceSub, Nat.reduceMul, E, ic, ir, M_wlT M V, e14]
      exact ⟨_, _, rfl, rfl, RS.rf _⟩
  · rw [if_neg q] at ic ir
    simp (disch := omega) only [Option.bind_some, if_true, if_false, not_true_eq_false, not_false_eq_true, z0, ii_add, ii_sub, ii_mul, ifLeT, ifLeF, ifLtT, ifLtF, ifEqT, ifEqF, ifNeT, ifNeF, ifIn, nixZ, ii_i64, o0, o1, isInT, isInF, tn14, tn12, tn2, tn21, tn47, tn48, tn49, tn471, tn472, Int.reduceToNat, Int.toNat_natCast, Int.reduceAdd, Int.reduceSub, Int.reduceMul, Int.reduceNeg, Nat.reduceAdd, Nat.reduceSub, Nat.reduceMul, E, ic, ir]
    exact ⟨_, _, rfl, rfl, RS.rf _⟩
end Q7
