/-! veins that fit: lines, what was heard -/
section H1
variable {hd : Nat → Int} {o : Nat} {h g : AH}
theorem sh_1 (x : Int32) {n : Nat} (hn : n < 32) : shrI x (ii n) &&& ii 1 = ii (if tb x n = true then 1 else 0) := by
  rw [sh_and x hn]
  split <;> rfl
def wyM (w : Int32) (k : Nat) : Int := if tb w k = true then 1 else 0
theorem wyM_lo (w : Int32) (k : Nat) : 0 ≤ wyM w k ∧ wyM w k ≤ 3 := by unfold wyM; split <;> omega
/-- the line from c on by k more turns -/
def lnM (hd : Nat → Int) (w : Int32) : Nat → Int → Int32 → Option Int32
  | 0, _, b => some b
  | k + 1, c, b => if nb (hd 0) (hd 1) c (wyM w k) = -1 then none else lnM hd w k (nb (hd 0) (hd 1) c (wyM w k)) (b ||| bitI (nb (hd 0) (hd 1) c (wyM w k)))
def okLi (b : Int32) : Prop := b ≠ ii 0 ∧ ∀ i, 30 ≤ i → tb b i = false
theorem lnM_ok (W : HW hd) (w : Int32) : ∀ (k : Nat) (c : Int) (b x : Int32), okLi b → lnM hd w k c b = some x → okLi x
  | 0, c, b, x, hb, e => by cases e; exact hb
  | k + 1, c, b, x, hb, e => by
    have hw := W.1
    have h30 : hd 0 * hd 1 ≤ 30 := W.cells.2
    unfold lnM at e
    by_cases q : nb (hd 0) (hd 1) c (wyM w k) = -1
    · rw [if_pos q] at e; cases e
    · rw [if_neg q] at e
      have hn := nb_in (by omega) q
      refine lnM_ok W w k _ _ x ⟨?_, ?_⟩ e
      · intro z
        apply hb.1
        apply tb_ext
        intro i hi
        have := congrArg (fun y => tb y i) z
        simp only [tb_or, tb_0, Bool.or_eq_false_iff] at this
        rw [this.1, tb_0]
      · intro i hi
        rw [tb_or, hb.2 i hi, bit_tb hn.1 (by omega)]
        simp only [Bool.false_or, decide_eq_false_iff_not]
        omega
theorem okLi_bit {c : Int} (h0 : 0 ≤ c) (h1 : c < 30) : okLi (bitI c) := by
  obtain ⟨n, rfl⟩ := Int.eq_ofNat_of_zero_le h0
  refine ⟨fun z => ?_, fun i hi => ?_⟩
  · have := congrArg (fun y => tb y n) z
    simp only [tb_0] at this
    rw [tb_bit (by omega)] at this
    simp at this
  · rw [tb_bit (by omega)]
    simp only [decide_eq_false_iff_not]; omega
theorem okLi_m1 {b : Int32} (hb : okLi b) : b ≠ ii (-1) := by
  intro z
  have := hb.2 31 (by omega)
  rw [z] at this
  exact absurd this (by decide)
theorem C_ln (C : CH hd o h) (W : HW hd) (w : Int32) : ∀ (k : Nat) (c : Int) (b : Int32) (n : Nat), k < 6 → k < n → 0 ≤ c → c < cellsM hd → Heard_veinBits_L14 n o w b (ii c) (ii ((k : Int) - 1)) h = some ((lnM hd w k c b).getD (ii 0)) := by
  have hw := W.1
  have hcl := W.cells
  intro k
  induction k with
  | zero =>
    intro c b n _ hn c0 c1
    obtain ⟨n, rfl⟩ : ∃ z, n = z + 1 := ⟨n - 1, by omega⟩
    simp (disch := omega) only [Option.bind_some, if_true, if_false, not_true_eq_false, not_false_eq_true, z0, ii_add, ii_sub, ii_mul, ifLeT, ifLeF, ifLtT, ifLtF, ifEqT, ifEqF, ifNeT, ifNeF, ifIn, nixZ, ii_i64, o0, o1, isInT, isInF, tn14, tn12, tn2, tn21, tn47, tn48, tn49, tn471, tn472, Int.reduceToNat, Int.toNat_natCast, Int.reduceAdd, Int.reduceSub, Int.reduceMul, Int.reduceNeg, Nat.reduceAdd, Nat.reduceSub, Nat.reduceMul, Heard_veinBits_L14, Heard_veinBits_L14_b, Int.natCast_zero]
    rfl
  | succ k ih =>
    intro c b n hk hn c0 c1
    obtain ⟨n, rfl⟩ : ∃ z, n = z + 1 := ⟨n - 1, by omega⟩
    have ek : (((k + 1 : Nat) : Int) - 1) = (k : Int) := by omega
    have hy := wyM_lo w k
    have es : shrI w (ii k) &&& ii 1 = ii (wyM w k) := sh_1 w (by omega)
    have hb := C_beyond C W (c := c) (way := wyM w k) c0 c1 hy.1 hy.2
    have el : lnM hd w (k + 1) c b = if nb (hd 0) (hd 1) c (wyM w k) = -1 then none else lnM hd w k (nb (hd 0) (hd 1) c (wyM w k)) (b ||| bitI (nb (hd 0) (hd 1) c (wyM w k))) := rfl
    rw [el, ek]
    by_cases q : nb (hd 0) (hd 1) c (wyM w k) = -1
    · rw [if_pos q]
      simp (disch := omega) only [Option.bind_some, if_true, if_false, not_true_eq_false, not_false_eq_true, z0, ii_add, ii_sub, ii_mul, ifLeT, ifLeF, ifLtT, ifLtF, ifEqT, ifEqF, ifNeT, ifNeF, ifIn, nixZ, ii_i64, o0, o1, isInT, isInF, tn14, tn12, tn2, tn21, tn47, tn48, tn49, tn471, tn472, Int.reduceToNat, Int.toNat_natCast, Int.reduceAdd, Int.reduceSub, Int.reduceMul, Int.reduceNeg, Nat.reduceAdd, Nat.reduceSub, Nat.reduceMul, Heard_veinBits_L14, Heard_veinBits_L14_b, es, hb, q]
      rfl
    · rw [if_neg q]
      have hn := nb_in (by omega) q
      have hn2 : nb (hd 0) (hd 1) c (wyM w k) < cellsM hd := hn.2
      simp (disch := omega) only [Option.bind_some, if_true, if_false, not_true_eq_false, not_false_eq_true, z0, ii_add, ii_sub, ii_mul, ifLeT, ifLeF, ifLtT, ifLtF, ifEqT, ifEqF, ifNeT, ifNeF, ifIn, nixZ, ii_i64, o0, o1, isInT, isInF, tn14, tn12, tn2, tn21, tn47, tn48, tn49, tn471, tn472, Int.reduceToNat, Int.toNat_natCast, Int.reduceAdd, Int.reduceSub, Int.reduceMul, Int.reduceNeg, Nat.reduceAdd, Nat.reduceSub, Nat.reduceMul, Heard_veinBits_L14, Heard_veinBits_L14_b, es, hb]
      exact ih _ _ n (by omega) (by omega) hn.1 hn2
theorem R_ln (R : RH hd g) (W : HW hd) (w : Int32) : ∀ (k : Nat) (c : Int) (b : Int32) (n : Nat), k < 6 → k < n → 0 ≤ c → c < cellsM hd → R_lineOf_L13 n w (ii c) b (ii ((k : Int) - 1)) g = some ((lnM hd w k c b).getD (ii (-1))) := by
  have hw := W.1
  have hcl := W.cells
  intro k
  induction k with
  | zero =>
    intro c b n _ hn c0 c1
    obtain ⟨n, rfl⟩ : ∃ z, n = z + 1 := ⟨n - 1, by omega⟩
    simp (disch := omega) only [Option.bind_some, if_true, if_false, not_true_eq_false, not_false_eq_true, z0, ii_add, ii_sub, ii_mul, ifLeT, ifLeF, ifLtT, ifLtF, ifEqT, ifEqF, ifNeT, ifNeF, ifIn, nixZ, ii_i64, o0, o1, isInT, isInF, tn14, tn12, tn2, tn21, tn47, tn48, tn49, tn471, tn472, Int.reduceToNat, Int.toNat_natCast, Int.reduceAdd, Int.reduceSub, Int.reduceMul, Int.reduceNeg, Nat.reduceAdd, Nat.reduceSub, Nat.reduceMul, R_lineOf_L13, R_lineOf_L13_b, Int.natCast_zero]
    rfl
  | succ k ih =>
    intro c b n hk hn c0 c1
    obtain ⟨n, rfl⟩ : ∃ z, n = z + 1 := ⟨n - 1, by omega⟩
    have ek : (((k + 1 : Nat) : Int) - 1) = (k : Int) := by omega
    have hy := wyM_lo w k
    have es : shrI w (ii k) &&& ii 1 = ii (wyM w k) := sh_1 w (by omega)
    have hb := R_stepTo R W (c := c) (way := wyM w k) c0 c1 hy.1 hy.2
    have el : lnM hd w (k + 1) c b = if nb (hd 0) (hd 1) c (wyM w k) = -1 then none else lnM hd w k (nb (hd 0) (hd 1) c (wyM w k)) (b ||| bitI (nb (hd 0) (hd 1) c (wyM w k))) := rfl
    rw [el, ek]
    by_cases q : nb (hd 0) (hd 1) c (wyM w k) = -1
    · rw [if_pos q]
      simp (disch := omega) only [Option.bind_some, if_true, if_false, not_true_eq_false, not_false_eq_true, z0, ii_add, ii_sub, ii_mul, ifLeT, ifLeF, ifLtT, ifLtF, ifEqT, ifEqF, ifNeT, ifNeF, ifIn, nixZ, ii_i64, o0, o1, isInT, isInF, tn14, tn12, tn2, tn21, tn47, tn48, tn49, tn471, tn472, Int.reduceToNat, Int.toNat_natCast, Int.reduceAdd, Int.reduceSub, Int.reduceMul, Int.reduceNeg, Nat.reduceAdd, Nat.reduceSub, Nat.reduceMul, R_lineOf_L13, R_lineOf_L13_b, es, hb, q]
      rfl
    · rw [if_neg q]
      have hn := nb_in (by omega) q
      have hn2 : nb (hd 0) (hd 1) c (wyM w k) < cellsM hd := hn.2
      simp (disch := omega) only [Option.bind_some, if_true, if_false, not_true_eq_false, not_false_eq_true, z0, ii_add, ii_sub, ii_mul, ifLeT, ifLeF, ifLtT, ifLtF, ifEqT, ifEqF, ifNeT, ifNeF, ifIn, nixZ, ii_i64, o0, o1, isInT, isInF, tn14, tn12, tn2, tn21, tn47, tn48, tn49, tn471, tn472, Int.reduceToNat, Int.toNat_natCast, Int.reduceAdd, Int.reduceSub, Int.reduceMul, Int.reduceNeg, Nat.reduceAdd, Nat.reduceSub, Nat.reduceMul, R_lineOf_L13, R_lineOf_L13_b, es, hb]
      exact ih _ _ n (by omega) (by omega) hn.1 hn2
/-- the line of n cells from c on -/
def linM (hd : Nat → Int) (n c w : Nat) : Option Int32 := lnM hd (ii w) (n - 1) c (bitI c)
theorem C_line (C : CH hd o h) (W : HW hd) {n c w : Nat} (h2 : 2 ≤ n) (h5 : n ≤ 5) (hc : (c : Int) < cellsM hd) : f_Heard_veinBits o (ii c) (ii n) (ii w) h = some ((linM hd n c w).getD (ii 0)) := by
  unfold f_Heard_veinBits linM
  have := C_ln C W (ii w) (n - 1) c (bitI c) FU (by omega) (by unfold FU; omega) (by omega) hc
  rw [show ((n - 1 : Nat) : Int) - 1 = (n : Int) - 2 by omega] at this
  simp (disch := omega) only [Option.bind_some, if_true, if_false, not_true_eq_false, not_false_eq_true, z0, ii_add, ii_sub, ii_mul, ifLeT, ifLeF, ifLtT, ifLtF, ifEqT, ifEqF, ifNeT, ifNeF, ifIn, nixZ, ii_i64, o0, o1, isInT, isInF, tn14, tn12, tn2, tn21, tn47, tn48, tn49, tn471, tn472, Int.reduceToNat, Int.toNat_natCast, Int.reduceAdd, Int.reduceSub, Int.reduceMul, Int.reduceNeg, Nat.reduceAdd, Nat.reduceSub, Nat.reduceMul]
  exact this
theorem R_line (R : RH hd g) (W : HW hd) {n c w : Nat} (h2 : 2 ≤ n) (h5 : n ≤ 5) (hc : (c : Int) < cellsM hd) : f_R_lineOf (ii c) (ii w) (ii n) g = some ((linM hd n c w).getD (ii (-1))) := by
  unfold f_R_lineOf linM
  have := R_ln R W (ii w) (n - 1) c (bitI c) FU (by omega) (by unfold FU; omega) (by omega) hc
  rw [show ((n - 1 : Nat) : Int) - 1 = (n : Int) - 2 by omega] at this
  simp (disch := omega) only [Option.bind_some, if_true, if_false, not_true_eq_false, not_false_eq_true, z0, ii_add, ii_sub, ii_mul, ifLeT, ifLeF, ifLtT, ifLtF, ifEqT, ifEqF, ifNeT, ifNeF, ifIn, nixZ, ii_i64, o0, o1, isInT, isInF, tn14, tn12, tn2, tn21, tn47, tn48, tn49, tn471, tn472, Int.reduceToNat, Int.toNat_natCast, Int.reduceAdd, Int.reduceSub, Int.reduceMul, Int.reduceNeg, Nat.reduceAdd, Nat.reduceSub, Nat.reduceMul]
  exact this
/-- what the k-th that was heard says of a line -/
def okE (x : Nat × Nat × Bool) (b : Int32) (wo : Int) : Prop := (x.1 : Int) = wo ∨ tb b x.2.1 = x.2.2
abbrev hA (he : HE) (k : Nat) : Nat × Nat × Bool := he.getD k (0, 0, false)
def soM (he : HE) (b : Int32) (wo : Int) : Prop := ∀ k, k < he.length → okE (hA he k) b wo
def HEw (hd : Nat → Int) (he : HE) : Prop := he.length ≤ 12 ∧ ∀ x ∈ he, (x.1 : Int) < hd 7 ∧ (x.2.1 : Int) < cellsM hd
theorem R_so {he : HE} (RE : RHe he g) (W : HS hd) (H : HEw hd he) (b : Int32) {wo : Int} (w0 : -1 ≤ wo) (w1 : wo < 100) : (soM he b wo → f_R_isSo b (ii wo) g = some (ii 1)) ∧ (¬ soM he b wo → f_R_isSo b (ii wo) g = some (ii 0)) := by
  have hcl := W.cells
  have hf := W.nf
  have key : (soM he b wo ∧ f_R_isSo b (ii wo) g = some (ii 1)) ∨ (¬ soM he b wo ∧ f_R_isSo b (ii wo) g = some (ii 0)) := by
    unfold f_R_isSo
    refine lup (fun n k (_ : Unit) => R_isSo_L2 n b (ii wo) (ii k) g) he.length (fun k _ => ∀ j, j < k → okE (hA he j) b wo) (fun x => (soM he b wo ∧ x = some (ii 1)) ∨ (¬ soM he b wo ∧ x = some (ii 0))) ?_ ?_ he.length 0 FU () (by omega) (by unfold FU; have := H.1; omega) (fun j hj => by omega)
    · rintro n _ r
      have := H.1
      simp (disch := omega) only [Option.bind_some, if_true, if_false, not_true_eq_false, not_false_eq_true, z0, ii_add, ii_sub, ii_mul, ifLeT, ifLeF, ifLtT, ifLtF, ifEqT, ifEqF, ifNeT, ifNeF, ifIn, nixZ, ii_i64, o0, o1, isInT, isInF, tn14, tn12, tn2, tn21, tn47, tn48, tn49, tn471, tn472, Int.reduceToNat, Int.toNat_natCast, Int.reduceAdd, Int.reduceSub, Int.reduceMul, Int.reduceNeg, Nat.reduceAdd, Nat.reduceSub, Nat.reduceMul, R_isSo_L2, R_isSo_L2_b, RE.1]
      exact Or.inl ⟨r, trivial⟩
    · rintro n k _ hk r
      have h12 := H.1
      have hm := H.2 (hA he k) (getD_mem _ hk)
      obtain ⟨e1, e2, e3⟩ := RE.2 k hk
      have e1' : g.1 100 k = ii (hA he k).1 := e1
      have e2' : g.1 101 k = ii (hA he k).2.1 := e2
      have e3' : g.1 102 k = bI (hA he k).2.2 := e3
      by_cases q : ((hA he k).1 : Int) = wo
      · right
        simp (disch := omega) only [Option.bind_some, if_true, if_false, not_true_eq_false, not_false_eq_true, z0, ii_add, ii_sub, ii_mul, ifLeT, ifLeF, ifLtT, ifLtF, ifEqT, ifEqF, ifNeT, ifNeF, ifIn, nixZ, ii_i64, o0, o1, isInT, isInF, tn14, tn12, tn2, tn21, tn47, tn48, tn49, tn471, tn472, Int.reduceToNat, Int.toNat_natCast, Int.reduceAdd, Int.reduceSub, Int.reduceMul, Int.reduceNeg, Nat.reduceAdd, Nat.reduceSub, Nat.reduceMul, R_isSo_L2, R_isSo_L2_b, RE.1, e1']
        refine ⟨(), rfl, fun j hj => ?_⟩
        by_cases e : j = k
        · subst e; exact Or.inl q
        · exact r j (by omega)
      · have eh := R_has b (n := (hA he k).2.1) (by omega)
        have eh' : p_R_has b (ii (hA he k).2.1) = bI (tb b (hA he k).2.1) := eh
        by_cases q2 : tb b (hA he k).2.1 = (hA he k).2.2
        · right
          simp (disch := omega) only [Option.bind_some, if_true, if_false, not_true_eq_false, not_false_eq_true, z0, ii_add, ii_sub, ii_mul, ifLeT, ifLeF, ifLtT, ifLtF, ifEqT, ifEqF, ifNeT, ifNeF, ifIn, nixZ, ii_i64, o0, o1, isInT, isInF, tn14, tn12, tn2, tn21, tn47, tn48, tn49, tn471, tn472, Int.reduceToNat, Int.toNat_natCast, Int.reduceAdd, Int.reduceSub, Int.reduceMul, Int.reduceNeg, Nat.reduceAdd, Nat.reduceSub, Nat.reduceMul, R_isSo_L2, R_isSo_L2_b, RE.1, e1', e2', e3', eh', q2]
          refine ⟨(), rfl, fun j hj => ?_⟩
          by_cases e : j = k
          · subst e; exact Or.inr q2
          · exact r j (by omega)
        · left
          right
          have hne : ¬ bI (tb b (hA he k).2.1) = bI (hA he k).2.2 := by
            intro z
            apply q2
            revert z
            cases tb b (hA he k).2.1 <;> cases (hA he k).2.2 <;> decide
          simp (disch := omega) only [Option.bind_some, if_true, if_false, not_true_eq_false, not_false_eq_true, z0, ii_add, ii_sub, ii_mul, ifLeT, ifLeF, ifLtT, ifLtF, ifEqT, ifEqF, ifNeT, ifNeF, ifIn, nixZ, ii_i64, o0, o1, isInT, isInF, tn14, tn12, tn2, tn21, tn47, tn48, tn49, tn471, tn472, Int.reduceToNat, Int.toNat_natCast, Int.reduceAdd, Int.reduceSub, Int.reduceMul, Int.reduceNeg, Nat.reduceAdd, Nat.reduceSub, Nat.reduceMul, R_isSo_L2, R_isSo_L2_b, RE.1, e1', e2', e3', eh', hne]
          refine ⟨fun z => ?_, trivial⟩
          rcases z k hk with z | z
          · exact q z
          · exact q2 z
  rcases key with ⟨k1, k2⟩ | ⟨k1, k2⟩
  · exact ⟨fun _ => k2, fun z => absurd k1 z⟩
  · exact ⟨fun z => absurd z k1, fun _ => k2⟩
def yesM (he : HE) (wo : Int) : Nat → Int32
  | 0 => ii 0
  | k + 1 => if ((hA he k).1 : Int) ≠ wo ∧ (hA he k).2.2 = true then yesM he wo k ||| bitI ((hA he k).2.1 : Int) else yesM he wo k
def noM (he : HE) (wo : Int) : Nat → Int32
  | 0 => ii 0
  | k + 1 => if ((hA he k).1 : Int) ≠ wo ∧ (hA he k).2.2 = false then noM he wo k ||| bitI ((hA he k).2.1 : Int) else noM he wo k
theorem C_gather {he : HE} (CE : CHe he h) (W : HS hd) (H : HEw hd he) {wo : Int} (w0 : -1 ≤ wo) (w1 : wo < 100) : ∃ h1, f_Heard_gather (ii wo) h = some h1 ∧ Ag [33] h h1 ∧ (∀ j, j ≠ 6 → j ≠ 7 → h1.1 33 j = h.1 33 j) ∧ h1.1 33 6 = yesM he wo he.length ∧ h1.1 33 7 = noM he wo he.length := by
  have hcl := W.cells
  have hf := W.nf
  have h12 := H.1
  unfold f_Heard_gather
  refine lup (fun n k (a : AH) => Heard_gather_L12 n (ii wo) (ii k) a) he.length (fun k a => Ag [33] h a ∧ (∀ j, j ≠ 6 → j ≠ 7 → a.1 33 j = h.1 33 j) ∧ a.1 33 6 = yesM he wo k ∧ a.1 33 7 = noM he wo k) (fun x => ∃ h1, x = some h1 ∧ Ag [33] h h1 ∧ (∀ j, j ≠ 6 → j ≠ 7 → h1.1 33 j = h.1 33 j) ∧ h1.1 33 6 = yesM he wo he.length ∧ h1.1 33 7 = noM he wo he.length) ?_ ?_ he.length 0 FU _ (by omega) (by unfold FU; omega) ⟨((Ag.rf [33] h).pI (by decide)).pI (by decide), fun j j6 j7 => by rw [wI_self, upd_ne j7, wI_self, upd_ne j6], by rw [wI_self, upd_ne (by decide), wI_self, upd_self]; rfl, by rw [wI_self, upd_self]; rfl⟩
  · rintro n a ⟨r1, r2, r3, r4⟩
    have e5 : a.1 33 5 = ii he.length := by rw [r2 5 (by decide) (by decide)]; exact CE.1
    simp (disch := omega) only [Option.bind_some, if_true, if_false, not_true_eq_false, not_false_eq_true, z0, ii_add, ii_sub, ii_mul, ifLeT, ifLeF, ifLtT, ifLtF, ifEqT, ifEqF, ifNeT, ifNeF, ifIn, nixZ, ii_i64, o0, o1, isInT, isInF, tn14, tn12, tn2, tn21, tn47, tn48, tn49, tn471, tn472, Int.reduceToNat, Int.toNat_natCast, Int.reduceAdd, Int.reduceSub, Int.reduceMul, Int.reduceNeg, Nat.reduceAdd, Nat.reduceSub, Nat.reduceMul, Heard_gather_L12, Heard_gather_L12_b, e5]
    exact ⟨_, rfl, r1, r2, r3, r4⟩
  · rintro n k a hk ⟨r1, r2, r3, r4⟩
    right
    have e5 : a.1 33 5 = ii he.length := by rw [r2 5 (by decide) (by decide)]; exact CE.1
    have hm := H.2 (hA he k) (getD_mem _ hk)
    obtain ⟨e1, e2, e3⟩ := CE.2 k hk
    have e1' : a.1 34 k = ii (hA he k).1 := by rw [r1.1 34 (by decide)]; exact e1
    have e2' : a.1 35 k = ii (hA he k).2.1 := by rw [r1.1 35 (by decide)]; exact e2
    have e3' : a.1 36 k = bI (hA he k).2.2 := by rw [r1.1 36 (by decide)]; exact e3
    have ey : yesM he wo (k + 1) = if ((hA he k).1 : Int) ≠ wo ∧ (hA he k).2.2 = true then yesM he wo k ||| bitI ((hA he k).2.1 : Int) else yesM he wo k := rfl
    have en : noM he wo (k + 1) = if ((hA he k).1 : Int) ≠ wo ∧ (hA he k).2.2 = false then noM he wo k ||| bitI ((hA he k).2.1 : Int) else noM he wo k := rfl
    rw [ey, en]
    by_cases q : ((hA he k).1 : Int) = wo
    · rw [if_neg (fun z => z.1 q), if_neg (fun z => z.1 q)]
      simp (disch := omega) only [Option.bind_some, if_true, if_false, not_true_eq_false, not_false_eq_true, z0, ii_add, ii_sub, ii_mul, ifLeT, ifLeF, ifLtT, ifLtF, ifEqT, ifEqF, ifNeT, ifNeF, ifIn, nixZ, ii_i64, o0, o1, isInT, isInF, tn14, tn12, tn2, tn21, tn47, tn48, tn49, tn471, tn472, Int.reduceToNat, Int.toNat_natCast, Int.reduceAdd, Int.reduceSub, Int.reduceMul, Int.reduceNeg, Nat.reduceAdd, Nat.reduceSub, Nat.reduceMul, Heard_gather_L12, Heard_gather_L12_b, e5, e1']
      exact ⟨_, rfl, r1, r2, r3, r4⟩
    · cases hb : (hA he k).2.2
      · have eb : bI false = ii 0 := rfl
        rw [if_neg (fun z => absurd z.2 (by decide)), if_pos ⟨q, rfl⟩]
        simp (disch := omega) only [Option.bind_some, if_true, if_false, not_true_eq_false, not_false_eq_true, z0, ii_add, ii_sub, ii_mul, ifLeT, ifLeF, ifLtT, ifLtF, ifEqT, ifEqF, ifNeT, ifNeF, ifIn, nixZ, ii_i64, o0, o1, isInT, isInF, tn14, tn12, tn2, tn21, tn47, tn48, tn49, tn471, tn472, Int.reduceToNat, Int.toNat_natCast, Int.reduceAdd, Int.reduceSub, Int.reduceMul, Int.reduceNeg, Nat.reduceAdd, Nat.reduceSub, Nat.reduceMul, Heard_gather_L12, Heard_gather_L12_b, e5, e1', e2', e3', hb, eb]
        refine ⟨_, rfl, r1.pI (by decide), fun j j6 j7 => by rw [wI_self, upd_ne j7]; exact r2 j j6 j7, by rw [wI_self, upd_ne (by decide)]; exact r3, ?_⟩
        rw [wI_self, upd_self, r4]; rfl
      · have eb : bI true = ii 1 := rfl
        rw [if_pos ⟨q, rfl⟩, if_neg (fun z => absurd z.2 (by decide))]
        simp (disch := omega) only [Option.bind_some, if_true, if_false, not_true_eq_false, not_false_eq_true, z0, ii_add, ii_sub, ii_mul, ifLeT, ifLeF, ifLtT, ifLtF, ifEqT, ifEqF, ifNeT, ifNeF, ifIn, nixZ, ii_i64, o0, o1, isInT, isInF, tn14, tn12, tn2, tn21, tn47, tn48, tn49, tn471, tn472, Int.reduceToNat, Int.toNat_natCast, Int.reduceAdd, Int.reduceSub, Int.reduceMul, Int.reduceNeg, Nat.reduceAdd, Nat.reduceSub, Nat.reduceMul, Heard_gather_L12, Heard_gather_L12_b, e5, e1', e2', e3', hb, eb]
        refine ⟨_, rfl, r1.pI (by decide), fun j j6 j7 => by rw [wI_self, upd_ne j6]; exact r2 j j6 j7, ?_, by rw [wI_self, upd_ne (by decide)]; exact r4⟩
        rw [wI_self, upd_self, r3]; rfl
theorem yes_tb {he : HE} (W : HS hd) (H : HEw hd he) (wo : Int) (i : Nat) : ∀ k, k ≤ he.length → (tb (yesM he wo k) i = true ↔ ∃ j, j < k ∧ ((hA he j).1 : Int) ≠ wo ∧ (hA he j).2.2 = true ∧ (hA he j).2.1 = i)
  | 0, _ => by unfold yesM; rw [tb_0]; simp
  | k + 1, hk => by
    have ih := yes_tb W H wo i k (by omega)
    have hm := H.2 (hA he k) (getD_mem _ hk)
    have hcl := W.cells
    have ey : yesM he wo (k + 1) = if ((hA he k).1 : Int) ≠ wo ∧ (hA he k).2.2 = true then yesM he wo k ||| bitI ((hA he k).2.1 : Int) else yesM he wo k := rfl
    rw [ey]
    by_cases q : ((hA he k).1 : Int) ≠ wo ∧ (hA he k).2.2 = true
    · rw [if_pos q, tb_or, Bool.or_eq_true, ih, tb_bit (by omega), decide_eq_true_eq]
      constructor
      · rintro (⟨j, hj, z⟩ | z)
        · exact ⟨j, by omega, z⟩
        · exact ⟨k, by omega, q.1, q.2, z.symm⟩
      · rintro ⟨j, hj, z1, z2, z3⟩
        by_cases e : j = k
        · subst e; exact Or.inr z3.symm
        · exact Or.inl ⟨j, by omega, z1, z2, z3⟩
    · rw [if_neg q, ih]
      constructor
      · rintro ⟨j, hj, z⟩
        exact ⟨j, by omega, z⟩
      · rintro ⟨j, hj, z1, z2, z3⟩
        by_cases e : j = k
        · subst e; exact absurd ⟨z1, z2⟩ q
        · exact ⟨j, by omega, z1, z2, z3⟩
theorem no_tb {he : HE} (W : HS hd) (H : HEw hd he) (wo : Int) (i : Nat) : ∀ k, k ≤ he.length → (tb (noM he wo k) i = true ↔ ∃ j, j < k ∧ ((hA he j).1 : Int) ≠ wo ∧ (hA he j).2.2 = false ∧ (hA he j).2.1 = i)
  | 0, _ => by unfold noM; rw [tb_0]; simp
  | k + 1, hk => by
    have ih := no_tb W H wo i k (by omega)
    have hm := H.2 (hA he k) (getD_mem _ hk)
    have hcl := W.cells
    have ey : noM he wo (k + 1) = if ((hA he k).1 : Int) ≠ wo ∧ (hA he k).2.2 = false then noM he wo k ||| bitI ((hA he k).2.1 : Int) else noM he wo k := rfl
    rw [ey]
    by_cases q : ((hA he k).1 : Int) ≠ wo ∧ (hA he k).2.2 = false
    · rw [if_pos q, tb_or, Bool.or_eq_true, ih, tb_bit (by omega), decide_eq_true_eq]
      constructor
      · rintro (⟨j, hj, z⟩ | z)
        · exact ⟨j, by omega, z⟩
        · exact ⟨k, by omega, q.1, q.2, z.symm⟩
      · rintro ⟨j, hj, z1, z2, z3⟩
        by_cases e : j = k
        · subst e; exact Or.inr z3.symm
        · exact Or.inl ⟨j, by omega, z1, z2, z3⟩
    · rw [if_neg q, ih]
      constructor
      · rintro ⟨j, hj, z⟩
        exact ⟨j, by omega, z⟩
      · rintro ⟨j, hj, z1, z2, z3⟩
        by_cases e : j = k
        · subst e; exact absurd ⟨z1, z2⟩ q
        · exact ⟨j, by omega, z1, z2, z3⟩
theorem so_iff {he : HE} (W : HS hd) (H : HEw hd he) (b : Int32) (wo : Int) : soM he b wo ↔ (b &&& yesM he wo he.length = yesM he wo he.length ∧ b &&& noM he wo he.length = ii 0) := by
  have hcl := W.cells
  constructor
  · intro s
    constructor
    · apply tb_ext
      intro i hi
      rw [tb_and]
      cases hy : tb (yesM he wo he.length) i
      · simp
      · obtain ⟨j, hj, z1, z2, z3⟩ := (yes_tb W H wo i _ (Nat.le_refl _)).mp hy
        rcases s j hj with z | z
        · exact absurd z z1
        · rw [z3, z2] at z; rw [z]; rfl
    · apply tb_ext
      intro i hi
      rw [tb_and, tb_0]
      cases hy : tb (noM he wo he.length) i
      · simp
      · obtain ⟨j, hj, z1, z2, z3⟩ := (no_tb W H wo i _ (Nat.le_refl _)).mp hy
        rcases s j hj with z | z
        · exact absurd z z1
        · rw [z3, z2] at z; rw [z]; rfl
  · rintro ⟨s1, s2⟩ k hk
    by_cases q : ((hA he k).1 : Int) = wo
    · exact Or.inl q
    · right
      cases hb : (hA he k).2.2
      · have := (no_tb W H wo (hA he k).2.1 _ (Nat.le_refl _)).mpr ⟨k, hk, q, hb, rfl⟩
        have z := congrArg (fun y => tb y (hA he k).2.1) s2
        simp only [tb_and, tb_0, this, Bool.and_true] at z
        exact z
      · have := (yes_tb W H wo (hA he k).2.1 _ (Nat.le_refl _)).mpr ⟨k, hk, q, hb, rfl⟩
        have z := congrArg (fun y => tb y (hA he k).2.1) s1
        simp only [tb_and, this, Bool.and_true] at z
        exact z
end H1
