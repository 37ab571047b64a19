/-! fits, sure, ask, wrong -/
section H3
variable {hd : Nat → Int} {he : HE} {d : DY} {o wr : Nat} {h g : AH}
theorem fiW_pre1 (wo : Int) (n c k : Nat) : fiW hd he wo n c k <+: fiW hd he wo n c (k + 1) := by
  rw [fiW]; exact List.prefix_append _ _
theorem fiW_pre (wo : Int) (n c : Nat) {k : Nat} : ∀ {K : Nat}, k ≤ K → fiW hd he wo n c k <+: fiW hd he wo n c K
  | 0, h => by rw [show k = 0 by omega]; exact List.prefix_refl _
  | K + 1, h => by
    by_cases e : k = K + 1
    · rw [e]; exact List.prefix_refl _
    · exact (fiW_pre wo n c (show k ≤ K by omega)).trans (fiW_pre1 wo n c K)
theorem fiC_pre (wo : Int) (n : Nat) {k : Nat} : ∀ {K : Nat}, k ≤ K → fiC hd he wo n k <+: fiC hd he wo n K
  | 0, h => by rw [show k = 0 by omega]; exact List.prefix_refl _
  | K + 1, h => by
    by_cases e : k = K + 1
    · rw [e]; exact List.prefix_refl _
    · refine (fiC_pre wo n (show k ≤ K by omega)).trans ?_
      rw [fiC]; exact List.prefix_append _ _
theorem pre_get {L p : FL} {x : Nat × Int32} (h : p ++ [x] <+: L) : p.length < L.length ∧ L.getD p.length (0, 0) = x := by
  obtain ⟨r, rfl⟩ := h
  refine ⟨by simp, ?_⟩
  rw [List.getD_eq_getElem?_getD, List.append_assoc, List.getElem?_append_right (Nat.le_refl _)]
  simp
theorem sm_l {α β γ : Type} (a : α) (f : α → γ) (k : β → γ) : sm (.inl a) f k = f a := rfl
theorem sm_r {α β γ : Type} (b : β) (f : α → γ) (k : β → γ) : sm (.inr b) f k = k b := rfl
/-- no exit yet -/
def nxt (i : Int) (L : FL) : Prop := i = -1 ∨ (L.length : Int) ≤ i
theorem R_fitW (R : RH hd g) (RE : RHe he g) (W : HW hd) (H : HEw hd he) {wo i : Int} {n c : Nat} (h2 : 2 ≤ n) (h5 : n ≤ 5) (hc : (c : Int) < cellsM hd) (w0 : -1 ≤ wo) (w1 : wo < 100) (i0 : -1 ≤ i) (i1 : i ≤ 2147483647) {l : FL} (hl : l.length ≤ c * 2 ^ (n - 1)) (hx : nxt i l) :
    (R_fitsBy_L18 FU (ii n) (ii i) (ii wo) (ii l.length) (ii c) (ii 0) g = some (.inr (ii (l ++ fiW hd he wo n c (2 ^ (n - 1))).length)) ∧ nxt i (l ++ fiW hd he wo n c (2 ^ (n - 1)))) ∨ (∃ (p : FL) (code : Nat) (b : Int32), R_fitsBy_L18 FU (ii n) (ii i) (ii wo) (ii l.length) (ii c) (ii 0) g = some (.inl (ii code)) ∧ (p.length : Int) = i ∧ p ++ [((code : Nat), b)] <+: l ++ fiW hd he wo n c (2 ^ (n - 1))) := by
  have hcl := W.cells
  obtain ⟨k2, k16, kb⟩ := kM_lo h2 h5
  have hlc : l.length + 2 ^ (n - 1) ≤ 480 := by
    have : c * 2 ^ (n - 1) + 2 ^ (n - 1) ≤ 30 * 16 := by
      have h1 : c * 2 ^ (n - 1) + 2 ^ (n - 1) = (c + 1) * 2 ^ (n - 1) := by rw [Nat.add_mul]; omega
      rw [h1]
      exact Nat.mul_le_mul (by omega) k16
    omega
  have kb' : shlI (ii 1) (ii ((n : Int) - 1)) = ii ((2 ^ (n - 1) : Nat) : Int) := kb
  refine lup (fun m k (a : Nat) => R_fitsBy_L18 m (ii n) (ii i) (ii wo) (ii a) (ii c) (ii k) g) (2 ^ (n - 1)) (fun k a => a = (l ++ fiW hd he wo n c k).length ∧ nxt i (l ++ fiW hd he wo n c k)) (fun x => (x = some (.inr (ii (l ++ fiW hd he wo n c (2 ^ (n - 1))).length)) ∧ nxt i (l ++ fiW hd he wo n c (2 ^ (n - 1)))) ∨ (∃ (p : FL) (code : Nat) (b : Int32), x = some (.inl (ii code)) ∧ (p.length : Int) = i ∧ p ++ [((code : Nat), b)] <+: l ++ fiW hd he wo n c (2 ^ (n - 1)))) ?_ ?_ (2 ^ (n - 1)) 0 FU l.length (by omega) (by unfold FU; omega) ⟨by simp [fiW], by simpa [fiW] using hx⟩
  · rintro m a ⟨r1, r2⟩
    subst r1
    simp (disch := omega) only [Option.bind_some, if_true, if_false, not_true_eq_false, not_false_eq_true, z0, ii_add, ii_sub, ii_mul, ifLeT, ifLeF, ifLtT, ifLtF, ifEqT, ifEqF, ifNeT, ifNeF, ifIn, nixZ, ii_i64, o0, o1, isInT, isInF, tn14, tn12, tn2, tn21, tn47, tn48, tn49, tn471, tn472, Int.reduceToNat, Int.toNat_natCast, Int.reduceAdd, Int.reduceSub, Int.reduceMul, Int.reduceNeg, Nat.reduceAdd, Nat.reduceSub, Nat.reduceMul, R_fitsBy_L18, R_fitsBy_L18_b, kb']
    exact Or.inl ⟨trivial, r2⟩
  · rintro m k a hk ⟨r1, r2⟩
    have ex := R_line R W (w := k) h2 h5 hc
    have hfl := fiW_len (hd := hd) (he := he) wo n c k
    have hal : a = l.length + (fiW hd he wo n c k).length := by rw [r1, List.length_append]
    cases e : linM hd n c k with
    | none =>
      right
      rw [e] at ex
      simp only [Option.getD_none] at ex
      simp (disch := omega) only [Option.bind_some, if_true, if_false, not_true_eq_false, not_false_eq_true, z0, ii_add, ii_sub, ii_mul, ifLeT, ifLeF, ifLtT, ifLtF, ifEqT, ifEqF, ifNeT, ifNeF, ifIn, nixZ, ii_i64, o0, o1, isInT, isInF, tn14, tn12, tn2, tn21, tn47, tn48, tn49, tn471, tn472, Int.reduceToNat, Int.toNat_natCast, Int.reduceAdd, Int.reduceSub, Int.reduceMul, Int.reduceNeg, Nat.reduceAdd, Nat.reduceSub, Nat.reduceMul, R_fitsBy_L18, R_fitsBy_L18_b, kb', ex]
      exact ⟨a, rfl, by rw [fiW_N e]; exact ⟨r1, r2⟩⟩
    | some b =>
      rw [e] at ex
      simp only [Option.getD_some] at ex
      have hok : okLi b := lnM_ok W _ _ _ _ _ (okLi_bit (by omega) (by omega)) e
      have hb0 : ¬ b = ii (-1) := okLi_m1 hok
      by_cases s : soM he b wo
      · have so := (R_so RE (Or.inr W) H b w0 w1).1 s
        by_cases q : (a : Int) = i
        · left
          right
          have ec : 100 * (c : Int) + k = ((100 * c + k : Nat) : Int) := by omega
          simp (disch := omega) only [Option.bind_some, if_true, if_false, not_true_eq_false, not_false_eq_true, z0, ii_add, ii_sub, ii_mul, ifLeT, ifLeF, ifLtT, ifLtF, ifEqT, ifEqF, ifNeT, ifNeF, ifIn, nixZ, ii_i64, o0, o1, isInT, isInF, tn14, tn12, tn2, tn21, tn47, tn48, tn49, tn471, tn472, Int.reduceToNat, Int.toNat_natCast, Int.reduceAdd, Int.reduceSub, Int.reduceMul, Int.reduceNeg, Nat.reduceAdd, Nat.reduceSub, Nat.reduceMul, R_fitsBy_L18, R_fitsBy_L18_b, kb', ex, hb0, so, ec]
          refine ⟨l ++ fiW hd he wo n c k, 100 * c + k, b, rfl, by rw [← r1]; exact q, ?_⟩
          rw [List.append_assoc, ← fiW_T e s]
          exact (List.prefix_append_right_inj l).mpr (fiW_pre wo n c hk)
        · right
          simp (disch := omega) only [Option.bind_some, if_true, if_false, not_true_eq_false, not_false_eq_true, z0, ii_add, ii_sub, ii_mul, ifLeT, ifLeF, ifLtT, ifLtF, ifEqT, ifEqF, ifNeT, ifNeF, ifIn, nixZ, ii_i64, o0, o1, isInT, isInF, tn14, tn12, tn2, tn21, tn47, tn48, tn49, tn471, tn472, Int.reduceToNat, Int.toNat_natCast, Int.reduceAdd, Int.reduceSub, Int.reduceMul, Int.reduceNeg, Nat.reduceAdd, Nat.reduceSub, Nat.reduceMul, R_fitsBy_L18, R_fitsBy_L18_b, kb', ex, hb0, so]
          refine ⟨a + 1, rfl, ?_, ?_⟩
          · rw [fiW_T e s]; simp; omega
          · rw [fiW_T e s]
            rcases r2 with z | z
            · exact Or.inl z
            · right; simp only [List.length_append, List.length_cons, List.length_nil] at z ⊢; omega
      · have so := (R_so RE (Or.inr W) H b w0 w1).2 s
        right
        simp (disch := omega) only [Option.bind_some, if_true, if_false, not_true_eq_false, not_false_eq_true, z0, ii_add, ii_sub, ii_mul, ifLeT, ifLeF, ifLtT, ifLtF, ifEqT, ifEqF, ifNeT, ifNeF, ifIn, nixZ, ii_i64, o0, o1, isInT, isInF, tn14, tn12, tn2, tn21, tn47, tn48, tn49, tn471, tn472, Int.reduceToNat, Int.toNat_natCast, Int.reduceAdd, Int.reduceSub, Int.reduceMul, Int.reduceNeg, Nat.reduceAdd, Nat.reduceSub, Nat.reduceMul, R_fitsBy_L18, R_fitsBy_L18_b, kb', ex, hb0, so]
        exact ⟨a, rfl, by rw [fiW_F e s]; exact ⟨r1, r2⟩⟩
/-- what is answered of a row of fits -/
def ansF (L : FL) (i : Int) : Int := if i = -1 then L.length else if i < L.length then ((L.getD i.toNat (0, 0)).1 : Int) else -1
theorem R_fits (R : RH hd g) (RE : RHe he g) (W : HW hd) (H : HEw hd he) {wo i : Int} {n : Nat} (h2 : 2 ≤ n) (h5 : n ≤ 5) (w0 : -1 ≤ wo) (w1 : wo < 100) (i0 : -1 ≤ i) (i1 : i ≤ 2147483647) : f_R_fitsBy (ii n) (ii i) (ii wo) g = some (ii (ansF (fiC hd he wo n (cellsM hd).toNat) i)) := by
  have hcl := W.cells
  unfold f_R_fitsBy
  refine lup (fun m k (a : Nat) => R_fitsBy_L6 m (ii n) (ii i) (ii wo) (ii a) (ii k) g) (cellsM hd).toNat (fun k a => a = (fiC hd he wo n k).length ∧ nxt i (fiC hd he wo n k)) (fun x => x = some (ii (ansF (fiC hd he wo n (cellsM hd).toNat) i))) ?_ ?_ (cellsM hd).toNat 0 FU 0 (by omega) (by unfold FU; omega) ⟨by simp [fiC], by
    unfold nxt; simp only [fiC, List.length_nil]; omega⟩
  · rintro m a ⟨r1, r2⟩
    subst r1
    unfold ansF
    rcases r2 with z | z
    · rw [if_pos z]
      simp (disch := omega) only [Option.bind_some, if_true, if_false, not_true_eq_false, not_false_eq_true, z0, ii_add, ii_sub, ii_mul, ifLeT, ifLeF, ifLtT, ifLtF, ifEqT, ifEqF, ifNeT, ifNeF, ifIn, nixZ, ii_i64, o0, o1, isInT, isInF, tn14, tn12, tn2, tn21, tn47, tn48, tn49, tn471, tn472, Int.reduceToNat, Int.toNat_natCast, Int.reduceAdd, Int.reduceSub, Int.reduceMul, Int.reduceNeg, Nat.reduceAdd, Nat.reduceSub, Nat.reduceMul, R_fitsBy_L6, R_fitsBy_L6_b, R.2.2.2.2.2.1]
    · rw [if_neg (by omega), if_neg (by omega)]
      simp (disch := omega) only [Option.bind_some, if_true, if_false, not_true_eq_false, not_false_eq_true, z0, ii_add, ii_sub, ii_mul, ifLeT, ifLeF, ifLtT, ifLtF, ifEqT, ifEqF, ifNeT, ifNeF, ifIn, nixZ, ii_i64, o0, o1, isInT, isInF, tn14, tn12, tn2, tn21, tn47, tn48, tn49, tn471, tn472, Int.reduceToNat, Int.toNat_natCast, Int.reduceAdd, Int.reduceSub, Int.reduceMul, Int.reduceNeg, Nat.reduceAdd, Nat.reduceSub, Nat.reduceMul, R_fitsBy_L6, R_fitsBy_L6_b, R.2.2.2.2.2.1]
  · rintro m k a hk ⟨r1, r2⟩
    subst r1
    rcases R_fitW R RE W H (wo := wo) (i := i) h2 h5 (c := k) (by omega) w0 w1 i0 i1 (fiC_len wo n k) r2 with ⟨z1, z2⟩ | ⟨p, code, b, z1, z2, z3⟩
    · right
      simp (disch := omega) only [Option.bind_some, if_true, if_false, not_true_eq_false, not_false_eq_true, z0, ii_add, ii_sub, ii_mul, ifLeT, ifLeF, ifLtT, ifLtF, ifEqT, ifEqF, ifNeT, ifNeF, ifIn, nixZ, ii_i64, o0, o1, isInT, isInF, tn14, tn12, tn2, tn21, tn47, tn48, tn49, tn471, tn472, Int.reduceToNat, Int.toNat_natCast, Int.reduceAdd, Int.reduceSub, Int.reduceMul, Int.reduceNeg, Nat.reduceAdd, Nat.reduceSub, Nat.reduceMul, R_fitsBy_L6, R_fitsBy_L6_b, R.2.2.2.2.2.1, z1, sm_r]
      exact ⟨_, rfl, rfl, z2⟩
    · left
      have z4 : p ++ [(code, b)] <+: fiC hd he wo n (cellsM hd).toNat := by
        refine z3.trans ?_
        have : fiC hd he wo n k ++ fiW hd he wo n k (2 ^ (n - 1)) = fiC hd he wo n (k + 1) := rfl
        rw [this]
        exact fiC_pre wo n hk
      obtain ⟨y1, y2⟩ := pre_get z4
      simp (disch := omega) only [Option.bind_some, if_true, if_false, not_true_eq_false, not_false_eq_true, z0, ii_add, ii_sub, ii_mul, ifLeT, ifLeF, ifLtT, ifLtF, ifEqT, ifEqF, ifNeT, ifNeF, ifIn, nixZ, ii_i64, o0, o1, isInT, isInF, tn14, tn12, tn2, tn21, tn47, tn48, tn49, tn471, tn472, Int.reduceToNat, Int.toNat_natCast, Int.reduceAdd, Int.reduceSub, Int.reduceMul, Int.reduceNeg, Nat.reduceAdd, Nat.reduceSub, Nat.reduceMul, R_fitsBy_L6, R_fitsBy_L6_b, R.2.2.2.2.2.1, z1, sm_l]
      unfold ansF
      rw [if_neg (by omega), if_pos (by omega), show i.toNat = p.length by omega, y2]
theorem R_sureW (R : RH hd g) (RE : RHe he g) (W : HW hd) (H : HEw hd he) {n c : Nat} (h2 : 2 ≤ n) (h5 : n ≤ 5) (hc : (c : Int) < cellsM hd) {l : FL} : R_sure_L47 FU (ii n) (andM hd l) (ii c) (ii 0) g = some (andM hd (l ++ fiW hd he (-1) n c (2 ^ (n - 1)))) := by
  have hcl := W.cells
  obtain ⟨k2, k16, kb⟩ := kM_lo h2 h5
  have kb' : shlI (ii 1) (ii ((n : Int) - 1)) = ii ((2 ^ (n - 1) : Nat) : Int) := kb
  refine lup (fun m k (a : Int32) => R_sure_L47 m (ii n) a (ii c) (ii k) g) (2 ^ (n - 1)) (fun k a => a = andM hd (l ++ fiW hd he (-1) n c k)) (fun x => x = some (andM hd (l ++ fiW hd he (-1) n c (2 ^ (n - 1))))) ?_ ?_ (2 ^ (n - 1)) 0 FU (andM hd l) (by omega) (by unfold FU; omega) (by simp [fiW])
  · rintro m a r
    subst r
    simp (disch := omega) only [Option.bind_some, if_true, if_false, not_true_eq_false, not_false_eq_true, z0, ii_add, ii_sub, ii_mul, ifLeT, ifLeF, ifLtT, ifLtF, ifEqT, ifEqF, ifNeT, ifNeF, ifIn, nixZ, ii_i64, o0, o1, isInT, isInF, tn14, tn12, tn2, tn21, tn47, tn48, tn49, tn471, tn472, Int.reduceToNat, Int.toNat_natCast, Int.reduceAdd, Int.reduceSub, Int.reduceMul, Int.reduceNeg, Nat.reduceAdd, Nat.reduceSub, Nat.reduceMul, R_sure_L47, R_sure_L47_b, kb']
  · rintro m k a hk r
    subst r
    right
    have ex := R_line R W (w := k) h2 h5 hc
    cases e : linM hd n c k with
    | none =>
      rw [e] at ex
      simp only [Option.getD_none] at ex
      simp (disch := omega) only [Option.bind_some, if_true, if_false, not_true_eq_false, not_false_eq_true, z0, ii_add, ii_sub, ii_mul, ifLeT, ifLeF, ifLtT, ifLtF, ifEqT, ifEqF, ifNeT, ifNeF, ifIn, nixZ, ii_i64, o0, o1, isInT, isInF, tn14, tn12, tn2, tn21, tn47, tn48, tn49, tn471, tn472, Int.reduceToNat, Int.toNat_natCast, Int.reduceAdd, Int.reduceSub, Int.reduceMul, Int.reduceNeg, Nat.reduceAdd, Nat.reduceSub, Nat.reduceMul, R_sure_L47, R_sure_L47_b, kb', ex]
      exact ⟨_, rfl, by rw [fiW_N e]⟩
    | some b =>
      rw [e] at ex
      simp only [Option.getD_some] at ex
      have hok : okLi b := lnM_ok W _ _ _ _ _ (okLi_bit (by omega) (by omega)) e
      have hb0 : ¬ b = ii (-1) := okLi_m1 hok
      by_cases s : soM he b (-1)
      · have so := (R_so RE (Or.inr W) H b (wo := -1) (by omega) (by omega)).1 s
        simp (disch := omega) only [Option.bind_some, if_true, if_false, not_true_eq_false, not_false_eq_true, z0, ii_add, ii_sub, ii_mul, ifLeT, ifLeF, ifLtT, ifLtF, ifEqT, ifEqF, ifNeT, ifNeF, ifIn, nixZ, ii_i64, o0, o1, isInT, isInF, tn14, tn12, tn2, tn21, tn47, tn48, tn49, tn471, tn472, Int.reduceToNat, Int.toNat_natCast, Int.reduceAdd, Int.reduceSub, Int.reduceMul, Int.reduceNeg, Nat.reduceAdd, Nat.reduceSub, Nat.reduceMul, R_sure_L47, R_sure_L47_b, kb', ex, hb0, so]
        exact ⟨_, rfl, by rw [fiW_T e s, ← List.append_assoc, andM_s]⟩
      · have so := (R_so RE (Or.inr W) H b (wo := -1) (by omega) (by omega)).2 s
        simp (disch := omega) only [Option.bind_some, if_true, if_false, not_true_eq_false, not_false_eq_true, z0, ii_add, ii_sub, ii_mul, ifLeT, ifLeF, ifLtT, ifLtF, ifEqT, ifEqF, ifNeT, ifNeF, ifIn, nixZ, ii_i64, o0, o1, isInT, isInF, tn14, tn12, tn2, tn21, tn47, tn48, tn49, tn471, tn472, Int.reduceToNat, Int.toNat_natCast, Int.reduceAdd, Int.reduceSub, Int.reduceMul, Int.reduceNeg, Nat.reduceAdd, Nat.reduceSub, Nat.reduceMul, R_sure_L47, R_sure_L47_b, kb', ex, hb0, so]
        exact ⟨_, rfl, by rw [fiW_F e s]⟩
theorem R_sure (R : RH hd g) (RE : RHe he g) (W : HW hd) (H : HEw hd he) {n : Nat} (h2 : 2 ≤ n) (h5 : n ≤ 5) : R_sure_L36 FU (ii n) (andM hd []) (ii 0) g = some (andM hd (fiC hd he (-1) n (cellsM hd).toNat), g) := by
  have hcl := W.cells
  refine lup (fun m k (a : Int32) => R_sure_L36 m (ii n) a (ii k) g) (cellsM hd).toNat (fun k a => a = andM hd (fiC hd he (-1) n k)) (fun x => x = some (andM hd (fiC hd he (-1) n (cellsM hd).toNat), g)) ?_ ?_ (cellsM hd).toNat 0 FU _ (by omega) (by unfold FU; omega) rfl
  · rintro m a r
    subst r
    simp (disch := omega) only [Option.bind_some, if_true, if_false, not_true_eq_false, not_false_eq_true, z0, ii_add, ii_sub, ii_mul, ifLeT, ifLeF, ifLtT, ifLtF, ifEqT, ifEqF, ifNeT, ifNeF, ifIn, nixZ, ii_i64, o0, o1, isInT, isInF, tn14, tn12, tn2, tn21, tn47, tn48, tn49, tn471, tn472, Int.reduceToNat, Int.toNat_natCast, Int.reduceAdd, Int.reduceSub, Int.reduceMul, Int.reduceNeg, Nat.reduceAdd, Nat.reduceSub, Nat.reduceMul, R_sure_L36, R_sure_L36_b, R.2.2.2.2.2.1]
  · rintro m k a hk r
    subst r
    right
    simp (disch := omega) only [Option.bind_some, if_true, if_false, not_true_eq_false, not_false_eq_true, z0, ii_add, ii_sub, ii_mul, ifLeT, ifLeF, ifLtT, ifLtF, ifEqT, ifEqF, ifNeT, ifNeF, ifIn, nixZ, ii_i64, o0, o1, isInT, isInF, tn14, tn12, tn2, tn21, tn47, tn48, tn49, tn471, tn472, Int.reduceToNat, Int.toNat_natCast, Int.reduceAdd, Int.reduceSub, Int.reduceMul, Int.reduceNeg, Nat.reduceAdd, Nat.reduceSub, Nat.reduceMul, R_sure_L36, R_sure_L36_b, R.2.2.2.2.2.1, R_sureW R RE W H h2 h5 (c := k) (show (k : Int) < cellsM hd by omega)]
    exact ⟨_, rfl, rfl⟩
/-- the class's scratch -/
def CS (h h1 : AH) : Prop := CKeep h h1 ∧ KR h h1
theorem CS.rf (h : AH) : CS h h := ⟨CKeep.rf h, KR.rf h⟩
theorem CS.tr {h h1 h2 : AH} (a : CS h h1) (b : CS h1 h2) : CS h h2 := ⟨a.1.tr b.1, a.2.tr b.2⟩
theorem CS.scan {h h1 : AH} (a : Ag [33, 37, 38] h h1) (e : h1.1 33 5 = h.1 33 5) : CS h h1 := by
  refine ⟨⟨fun o ho hs => a.1 o ?_, by rw [a.1 1 (by decide)], e, fun o ho => congrFun (a.1 o ?_) 2, fun o ho => by rw [a.2]⟩, KR.ag a (by decide)⟩
  · intro z
    simp only [List.mem_cons, List.not_mem_nil, or_false] at z
    rcases z with z | z | z <;> subst z <;> exact absurd hs (by decide)
  · intro z
    simp only [List.mem_cons, List.not_mem_nil, or_false] at z ho
    omega
theorem C_canT (E : h.2.2 0 13 = o) (C : CH hd o h) (W : HW hd) {n : Int} (h2 : 2 ≤ n) (h5 : n ≤ 5) : p_HF_canScan (ii n) h = ii 1 := by
  have := W.cells
  unfold p_HF_canScan
  simp (disch := omega) only [Option.bind_some, if_true, if_false, not_true_eq_false, not_false_eq_true, z0, ii_add, ii_sub, ii_mul, ifLeT, ifLeF, ifLtT, ifLtF, ifEqT, ifEqF, ifNeT, ifNeF, ifIn, nixZ, ii_i64, o0, o1, isInT, isInF, tn14, tn12, tn2, tn21, tn47, tn48, tn49, tn471, tn472, Int.reduceToNat, Int.toNat_natCast, Int.reduceAdd, Int.reduceSub, Int.reduceMul, Int.reduceNeg, Nat.reduceAdd, Nat.reduceSub, Nat.reduceMul, C_hhT E C (Or.inr W)]
theorem C_canF (E : h.2.2 0 13 = o) (C : CH hd o h) (W : HS hd) {n : Int} (n0 : -2147483648 ≤ n) (n1 : n ≤ 2147483647) (hn : cellsM hd = 0 ∨ n < 2 ∨ 5 < n) : p_HF_canScan (ii n) h = ii 0 := by
  have := W.cells
  unfold p_HF_canScan
  by_cases q : cellsM hd = 0
  · simp (disch := omega) only [Option.bind_some, if_true, if_false, not_true_eq_false, not_false_eq_true, z0, ii_add, ii_sub, ii_mul, ifLeT, ifLeF, ifLtT, ifLtF, ifEqT, ifEqF, ifNeT, ifNeF, ifIn, nixZ, ii_i64, o0, o1, isInT, isInF, tn14, tn12, tn2, tn21, tn47, tn48, tn49, tn471, tn472, Int.reduceToNat, Int.toNat_natCast, Int.reduceAdd, Int.reduceSub, Int.reduceMul, Int.reduceNeg, Nat.reduceAdd, Nat.reduceSub, Nat.reduceMul, C_hhF E C]
  · by_cases q2 : n < 2
    · simp (disch := omega) only [Option.bind_some, if_true, if_false, not_true_eq_false, not_false_eq_true, z0, ii_add, ii_sub, ii_mul, ifLeT, ifLeF, ifLtT, ifLtF, ifEqT, ifEqF, ifNeT, ifNeF, ifIn, nixZ, ii_i64, o0, o1, isInT, isInF, tn14, tn12, tn2, tn21, tn47, tn48, tn49, tn471, tn472, Int.reduceToNat, Int.toNat_natCast, Int.reduceAdd, Int.reduceSub, Int.reduceMul, Int.reduceNeg, Nat.reduceAdd, Nat.reduceSub, Nat.reduceMul, C_hhT E C W]
    · simp (disch := omega) only [Option.bind_some, if_true, if_false, not_true_eq_false, not_false_eq_true, z0, ii_add, ii_sub, ii_mul, ifLeT, ifLeF, ifLtT, ifLtF, ifEqT, ifEqF, ifNeT, ifNeF, ifIn, nixZ, ii_i64, o0, o1, isInT, isInF, tn14, tn12, tn2, tn21, tn47, tn48, tn49, tn471, tn472, Int.reduceToNat, Int.toNat_natCast, Int.reduceAdd, Int.reduceSub, Int.reduceMul, Int.reduceNeg, Nat.reduceAdd, Nat.reduceSub, Nat.reduceMul, C_hhT E C W]
theorem R_lgT (R : RH hd g) (W : HW hd) {n : Int} (h2 : 2 ≤ n) (h5 : n ≤ 5) : p_R_isLong (ii n) g = ii 1 := by
  have := W.cells
  unfold p_R_isLong
  simp (disch := omega) only [Option.bind_some, if_true, if_false, not_true_eq_false, not_false_eq_true, z0, ii_add, ii_sub, ii_mul, ifLeT, ifLeF, ifLtT, ifLtF, ifEqT, ifEqF, ifNeT, ifNeF, ifIn, nixZ, ii_i64, o0, o1, isInT, isInF, tn14, tn12, tn2, tn21, tn47, tn48, tn49, tn471, tn472, Int.reduceToNat, Int.toNat_natCast, Int.reduceAdd, Int.reduceSub, Int.reduceMul, Int.reduceNeg, Nat.reduceAdd, Nat.reduceSub, Nat.reduceMul, R.2.2.2.2.2.1]
theorem R_lgF (R : RH hd g) (W : HS hd) {n : Int} (n0 : -2147483648 ≤ n) (n1 : n ≤ 2147483647) (hn : cellsM hd = 0 ∨ n < 2 ∨ 5 < n) : p_R_isLong (ii n) g = ii 0 := by
  have := W.cells
  unfold p_R_isLong
  by_cases q : cellsM hd = 0
  · simp (disch := omega) only [Option.bind_some, if_true, if_false, not_true_eq_false, not_false_eq_true, z0, ii_add, ii_sub, ii_mul, ifLeT, ifLeF, ifLtT, ifLtF, ifEqT, ifEqF, ifNeT, ifNeF, ifIn, nixZ, ii_i64, o0, o1, isInT, isInF, tn14, tn12, tn2, tn21, tn47, tn48, tn49, tn471, tn472, Int.reduceToNat, Int.toNat_natCast, Int.reduceAdd, Int.reduceSub, Int.reduceMul, Int.reduceNeg, Nat.reduceAdd, Nat.reduceSub, Nat.reduceMul, R.2.2.2.2.2.1]
  · simp (disch := omega) only [Option.bind_some, if_true, if_false, not_true_eq_false, not_false_eq_true, z0, ii_add, ii_sub, ii_mul, ifLeT, ifLeF, ifLtT, ifLtF, ifEqT, ifEqF, ifNeT, ifNeF, ifIn, nixZ, ii_i64, o0, o1, isInT, isInF, tn14, tn12, tn2, tn21, tn47, tn48, tn49, tn471, tn472, Int.reduceToNat, Int.toNat_natCast, Int.reduceAdd, Int.reduceSub, Int.reduceMul, Int.reduceNeg, Nat.reduceAdd, Nat.reduceSub, Nat.reduceMul, R.2.2.2.2.2.1]
theorem q_fits (X : RX hd d o wr h (wI g 80 0 (ii 0))) (ho : o = 43 ∨ o = 49) (CE : CHe he h) (RE : RHe he (wI g 80 0 (ii 0))) (H : HEw hd he) {n i : Int} (n0 : -2147483648 ≤ n) (n1 : n ≤ 2147483647) (i0 : -2147483648 ≤ i) (i1 : i ≤ 2147483647) : ∃ x h1, f_HF_fits (ii n) (ii i) h = some (x, h1) ∧ f_R_fits (ii n) (ii i) g = some (x, wI g 80 0 (ii 0)) ∧ CS h h1 := by
  obtain ⟨E, C, M, R, D, W, V⟩ := X
  have hc := W.cells
  unfold f_R_fits f_HF_fits
  generalize wI g 80 0 (ii 0) = g at *
  by_cases q : cellsM hd = 0 ∨ n < 2 ∨ 5 < n
  · simp (disch := omega) only [Option.bind_some, if_true, if_false, not_true_eq_false, not_false_eq_true, z0, ii_add, ii_sub, ii_mul, ifLeT, ifLeF, ifLtT, ifLtF, ifEqT, ifEqF, ifNeT, ifNeF, ifIn, nixZ, ii_i64, o0, o1, isInT, isInF, tn14, tn12, tn2, tn21, tn47, tn48, tn49, tn471, tn472, Int.reduceToNat, Int.toNat_natCast, Int.reduceAdd, Int.reduceSub, Int.reduceMul, Int.reduceNeg, Nat.reduceAdd, Nat.reduceSub, Nat.reduceMul, C_canF E C W n0 n1 q, R_lgF R W n0 n1 q]
    exact ⟨_, _, rfl, rfl, CS.rf _⟩
  · have HWd := W.hw (c := 0) (by omega) (by omega)
    obtain ⟨m, rfl⟩ := Int.eq_ofNat_of_zero_le (show 0 ≤ n by omega)
    have ct := C_canT E C HWd (n := m) (by omega) (by omega)
    have rt := R_lgT R HWd (n := m) (by omega) (by omega)
    obtain ⟨a, ea, a1, a2, a3, a4, a5, a6⟩ := C_scan C ho CE HWd H (wo := -1) (n := m) (by omega) (by omega) (by omega) (by omega)
    rw [ct, rt, E, if_neg i10, if_neg i10, bind_eq ea]
    by_cases q1 : i < -1
    · unfold f_Heard_codeAt
      simp (disch := omega) only [Option.bind_some, if_true, if_false, not_true_eq_false, not_false_eq_true, z0, ii_add, ii_sub, ii_mul, ifLeT, ifLeF, ifLtT, ifLtF, ifEqT, ifEqF, ifNeT, ifNeF, ifIn, nixZ, ii_i64, o0, o1, isInT, isInF, tn14, tn12, tn2, tn21, tn47, tn48, tn49, tn471, tn472, Int.reduceToNat, Int.toNat_natCast, Int.reduceAdd, Int.reduceSub, Int.reduceMul, Int.reduceNeg, Nat.reduceAdd, Nat.reduceSub, Nat.reduceMul]
      exact ⟨_, _, rfl, rfl, CS.scan a1 a2⟩
    · have hr := R_fits R RE HWd H (wo := -1) (i := i) (n := m) (by omega) (by omega) (by omega) (by omega) (by omega) i1
      have hlen := fiC_len (hd := hd) (he := he) (-1) m (cellsM hd).toNat
      obtain ⟨k2, k16, kb⟩ := kM_lo (n := m) (by omega) (by omega)
      have h480 : (fiC hd he (-1) m (cellsM hd).toNat).length ≤ 480 := by
        have : (cellsM hd).toNat * 2 ^ (m - 1) ≤ 30 * 16 := Nat.mul_le_mul (by omega) k16
        omega
      rw [bind_eq hr]
      unfold ansF f_Heard_codeAt
      by_cases q2 : i = -1
      · rw [if_pos q2]
        simp (disch := omega) only [Option.bind_some, if_true, if_false, not_true_eq_false, not_false_eq_true, z0, ii_add, ii_sub, ii_mul, ifLeT, ifLeF, ifLtT, ifLtF, ifEqT, ifEqF, ifNeT, ifNeF, ifIn, nixZ, ii_i64, o0, o1, isInT, isInF, tn14, tn12, tn2, tn21, tn47, tn48, tn49, tn471, tn472, Int.reduceToNat, Int.toNat_natCast, Int.reduceAdd, Int.reduceSub, Int.reduceMul, Int.reduceNeg, Nat.reduceAdd, Nat.reduceSub, Nat.reduceMul, a3]
        exact ⟨_, _, rfl, rfl, CS.scan a1 a2⟩
      · rw [if_neg q2]
        by_cases q3 : i < (fiC hd he (-1) m (cellsM hd).toNat).length
        · rw [if_pos q3]
          have e5 := a5 i.toNat (by omega)
          simp (disch := omega) only [Option.bind_some, if_true, if_false, not_true_eq_false, not_false_eq_true, z0, ii_add, ii_sub, ii_mul, ifLeT, ifLeF, ifLtT, ifLtF, ifEqT, ifEqF, ifNeT, ifNeF, ifIn, nixZ, ii_i64, o0, o1, isInT, isInF, tn14, tn12, tn2, tn21, tn47, tn48, tn49, tn471, tn472, Int.reduceToNat, Int.toNat_natCast, Int.reduceAdd, Int.reduceSub, Int.reduceMul, Int.reduceNeg, Nat.reduceAdd, Nat.reduceSub, Nat.reduceMul, a3, e5]
          exact ⟨_, _, rfl, rfl, CS.scan a1 a2⟩
        · rw [if_neg q3]
          simp (disch := omega) only [Option.bind_some, if_true, if_false, not_true_eq_false, not_false_eq_true, z0, ii_add, ii_sub, ii_mul, ifLeT, ifLeF, ifLtT, ifLtF, ifEqT, ifEqF, ifNeT, ifNeF, ifIn, nixZ, ii_i64, o0, o1, isInT, isInF, tn14, tn12, tn2, tn21, tn47, tn48, tn49, tn471, tn472, Int.reduceToNat, Int.toNat_natCast, Int.reduceAdd, Int.reduceSub, Int.reduceMul, Int.reduceNeg, Nat.reduceAdd, Nat.reduceSub, Nat.reduceMul, a3]
          exact ⟨_, _, rfl, rfl, CS.scan a1 a2⟩
theorem q_sure (X : RX hd d o wr h (wI g 80 0 (ii 0))) (ho : o = 43 ∨ o = 49) (CE : CHe he h) (RE : RHe he (wI g 80 0 (ii 0))) (H : HEw hd he) {n : Int} (n0 : -2147483648 ≤ n) (n1 : n ≤ 2147483647) : ∃ x h1, f_HF_sure (ii n) h = some (x, h1) ∧ f_R_sure (ii n) g = some (x, wI g 80 0 (ii 0)) ∧ CS h h1 := by
  obtain ⟨E, C, M, R, D, W, V⟩ := X
  have hc := W.cells
  unfold f_R_sure f_HF_sure
  generalize wI g 80 0 (ii 0) = g at *
  by_cases q : cellsM hd = 0 ∨ n < 2 ∨ 5 < n
  · simp (disch := omega) only [Option.bind_some, if_true, if_false, not_true_eq_false, not_false_eq_true, z0, ii_add, ii_sub, ii_mul, ifLeT, ifLeF, ifLtT, ifLtF, ifEqT, ifEqF, ifNeT, ifNeF, ifIn, nixZ, ii_i64, o0, o1, isInT, isInF, tn14, tn12, tn2, tn21, tn47, tn48, tn49, tn471, tn472, Int.reduceToNat, Int.toNat_natCast, Int.reduceAdd, Int.reduceSub, Int.reduceMul, Int.reduceNeg, Nat.reduceAdd, Nat.reduceSub, Nat.reduceMul, C_canF E C W n0 n1 q, R_lgF R W n0 n1 q]
    exact ⟨_, _, rfl, rfl, CS.rf _⟩
  · have HWd := W.hw (c := 0) (by omega) (by omega)
    obtain ⟨m, rfl⟩ := Int.eq_ofNat_of_zero_le (show 0 ≤ n by omega)
    have ct := C_canT E C HWd (n := m) (by omega) (by omega)
    have rt := R_lgT R HWd (n := m) (by omega) (by omega)
    obtain ⟨a, ea, a1, a2, a3, a4, a5, a6⟩ := C_scan C ho CE HWd H (wo := -1) (n := m) (by omega) (by omega) (by omega) (by omega)
    have hr := R_fits R RE HWd H (wo := -1) (i := -1) (n := m) (by omega) (by omega) (by omega) (by omega) (by omega) (by omega)
    rw [ct, rt, E, if_neg i10, if_neg i10, bind_eq ea, bind_eq hr, a3, a4, R.2.2.2.2.2.1]
    have hlen := fiC_len (hd := hd) (he := he) (-1) m (cellsM hd).toNat
    obtain ⟨k2, k16, kb⟩ := kM_lo (n := m) (by omega) (by omega)
    have h480 : (fiC hd he (-1) m (cellsM hd).toNat).length ≤ 480 := by
      have : (cellsM hd).toNat * 2 ^ (m - 1) ≤ 30 * 16 := Nat.mul_le_mul (by omega) k16
      omega
    have e1 : ansF (fiC hd he (-1) m (cellsM hd).toNat) (-1) = (fiC hd he (-1) m (cellsM hd).toNat).length := rfl
    rw [e1]
    by_cases q2 : (fiC hd he (-1) m (cellsM hd).toNat).length = 0
    · simp (disch := omega) only [Option.bind_some, if_true, if_false, not_true_eq_false, not_false_eq_true, z0, ii_add, ii_sub, ii_mul, ifLeT, ifLeF, ifLtT, ifLtF, ifEqT, ifEqF, ifNeT, ifNeF, ifIn, nixZ, ii_i64, o0, o1, isInT, isInF, tn14, tn12, tn2, tn21, tn47, tn48, tn49, tn471, tn472, Int.reduceToNat, Int.toNat_natCast, Int.reduceAdd, Int.reduceSub, Int.reduceMul, Int.reduceNeg, Nat.reduceAdd, Nat.reduceSub, Nat.reduceMul]
      exact ⟨_, _, rfl, rfl, CS.scan a1 a2⟩
    · have hs := R_sure R RE HWd H (n := m) (by omega) (by omega)
      have hs' : R_sure_L36 FU (ii m) (shlI (ii 1) (ii (cellsM hd)) - ii 1) (ii 0) g = some (andM hd (fiC hd he (-1) m (cellsM hd).toNat), g) := hs
      rw [if_neg (show ¬ ii ((fiC hd he (-1) m (cellsM hd).toNat).length : Int) = 0 by rw [ii_z (by omega) (by omega)]; omega), if_neg (show ¬ ii ((fiC hd he (-1) m (cellsM hd).toNat).length : Int) = 0 by rw [ii_z (by omega) (by omega)]; omega), hs']
      exact ⟨_, _, rfl, rfl, CS.scan a1 a2⟩
theorem q_wrong (X : RX hd d o wr h (wI g 80 0 (ii 0))) (ho : o = 43 ∨ o = 49) (CE : CHe he h) (RE : RHe he (wI g 80 0 (ii 0))) (H : HEw hd he) {n : Int} (n0 : -2147483648 ≤ n) (n1 : n ≤ 2147483647) : ∃ x h1, f_HF_wrong (ii n) h = some (x, h1) ∧ f_R_wrong (ii n) g = some (x, wI g 80 0 (ii 0)) ∧ CS h h1 := by
  obtain ⟨E, C, M, R, D, W, V⟩ := X
  have hc := W.cells
  unfold f_R_wrong f_HF_wrong
  generalize wI g 80 0 (ii 0) = g at *
  by_cases q : cellsM hd = 0 ∨ n < 2 ∨ 5 < n
  · simp (disch := omega) only [Option.bind_some, if_true, if_false, not_true_eq_false, not_false_eq_true, z0, ii_add, ii_sub, ii_mul, ifLeT, ifLeF, ifLtT, ifLtF, ifEqT, ifEqF, ifNeT, ifNeF, ifIn, nixZ, ii_i64, o0, o1, isInT, isInF, tn14, tn12, tn2, tn21, tn47, tn48, tn49, tn471, tn472, Int.reduceToNat, Int.toNat_natCast, Int.reduceAdd, Int.reduceSub, Int.reduceMul, Int.reduceNeg, Nat.reduceAdd, Nat.reduceSub, Nat.reduceMul, C_canF E C W n0 n1 q, R_lgF R W n0 n1 q]
    exact ⟨_, _, rfl, rfl, CS.rf _⟩
  · have HWd := W.hw (c := 0) (by omega) (by omega)
    have hw := HWd.1
    obtain ⟨m, rfl⟩ := Int.eq_ofNat_of_zero_le (show 0 ≤ n by omega)
    have ct := C_canT E C HWd (n := m) (by omega) (by omega)
    have rt := R_lgT R HWd (n := m) (by omega) (by omega)
    obtain ⟨a, ea, a1, a2, a3, a4, a5, a6⟩ := C_scan C ho CE HWd H (wo := -1) (n := m) (by omega) (by omega) (by omega) (by omega)
    obtain ⟨k2, k16, kb⟩ := kM_lo (n := m) (by omega) (by omega)
    have h480 : ∀ wo : Int, (fiC hd he wo m (cellsM hd).toNat).length ≤ 480 := by
      intro wo
      have hlen := fiC_len (hd := hd) (he := he) wo m (cellsM hd).toNat
      have : (cellsM hd).toNat * 2 ^ (m - 1) ≤ 30 * 16 := Nat.mul_le_mul (by omega) k16
      omega
    have hr : ∀ wo : Int, -1 ≤ wo → wo < 100 → f_R_fitsBy (ii m) (ii (-1)) (ii wo) g = some (ii (fiC hd he wo m (cellsM hd).toNat).length) := fun wo z1 z2 => R_fits R RE HWd H (wo := wo) (i := -1) (n := m) (by omega) (by omega) z1 z2 (by omega) (by omega)
    rw [ct, rt, E, if_neg i10, if_neg i10, bind_eq ea, bind_eq (hr (-1) (by omega) (by omega)), a3]
    have h1 := h480 (-1)
    by_cases q2 : (fiC hd he (-1) m (cellsM hd).toNat).length = 0
    · rw [if_pos (show ii ((fiC hd he (-1) m (cellsM hd).toNat).length : Int) ≤ 0 by rw [q2]; decide), if_pos (show ii ((fiC hd he (-1) m (cellsM hd).toNat).length : Int) ≤ 0 by rw [q2]; decide)]
      refine lrel (fun n k (x : Int32 × AH) => HF_wrong_L39 n (ii m) x.1 (ii k) x.2) (fun n k (b : Int32) => R_wrong_L31 n (ii m) b (ii k) g) (hd 7).toNat (fun k x b => x.1 = b ∧ Ag [33, 37, 38] h x.2 ∧ x.2.1 33 5 = h.1 33 5) (fun x y => ∃ z h1, x = some (z, h1) ∧ y = some (z, g) ∧ CS h h1) ?_ ?_ (hd 7).toNat 0 FU FU (ii 0, a) (ii 0) (by omega) (by unfold FU; omega) (by unfold FU; omega) ⟨rfl, a1, a2⟩
      · rintro n m' ⟨x1, x2⟩ b ⟨r1, r2, r3⟩
        simp only at r1 r2 r3
        subst r1
        have Cx : CH hd o x2 := C.ag (fun i hi => r2.1 (o + i) (by rcases ho with e | e <;> subst e <;> simp <;> omega))
        have Ex : x2.2.2 0 13 = o := by rw [r2.2]; exact E
        simp (disch := omega) only [Option.bind_some, if_true, if_false, not_true_eq_false, not_false_eq_true, z0, ii_add, ii_sub, ii_mul, ifLeT, ifLeF, ifLtT, ifLtF, ifEqT, ifEqF, ifNeT, ifNeF, ifIn, nixZ, ii_i64, o0, o1, isInT, isInF, tn14, tn12, tn2, tn21, tn47, tn48, tn49, tn471, tn472, Int.reduceToNat, Int.toNat_natCast, Int.reduceAdd, Int.reduceSub, Int.reduceMul, Int.reduceNeg, Nat.reduceAdd, Nat.reduceSub, Nat.reduceMul, HF_wrong_L39, HF_wrong_L39_b, R_wrong_L31, R_wrong_L31_b, Ex, Cx.2.2.2.2.2.1, R.2.2.2.2.1]
        exact ⟨_, _, rfl, rfl, CS.scan r2 r3⟩
      · rintro n m' k ⟨x1, x2⟩ b hk ⟨r1, r2, r3⟩
        simp only at r1 r2 r3
        subst r1
        right
        have Cx : CH hd o x2 := C.ag (fun i hi => r2.1 (o + i) (by rcases ho with e | e <;> subst e <;> simp <;> omega))
        have Ex : x2.2.2 0 13 = o := by rw [r2.2]; exact E
        have CEx : CHe he x2 := ⟨by rw [r3]; exact CE.1, fun i hi => by rw [r2.1 34 (by decide), r2.1 35 (by decide), r2.1 36 (by decide)]; exact CE.2 i hi⟩
        obtain ⟨y, ey, y1, y2, y3, y4, y5, y6⟩ := C_scan Cx ho CEx HWd H (wo := k) (n := m) (by omega) (by omega) (by omega) (by omega)
        have hrk := hr k (by omega) (by omega)
        have hk4 := h480 k
        by_cases q3 : (fiC hd he k m (cellsM hd).toNat).length = 0
        · simp (disch := omega) only [Option.bind_some, if_true, if_false, not_true_eq_false, not_false_eq_true, z0, ii_add, ii_sub, ii_mul, ifLeT, ifLeF, ifLtT, ifLtF, ifEqT, ifEqF, ifNeT, ifNeF, ifIn, nixZ, ii_i64, o0, o1, isInT, isInF, tn14, tn12, tn2, tn21, tn47, tn48, tn49, tn471, tn472, Int.reduceToNat, Int.toNat_natCast, Int.reduceAdd, Int.reduceSub, Int.reduceMul, Int.reduceNeg, Nat.reduceAdd, Nat.reduceSub, Nat.reduceMul, HF_wrong_L39, HF_wrong_L39_b, R_wrong_L31, R_wrong_L31_b, Ex, Cx.2.2.2.2.2.1, R.2.2.2.2.1, ey, hrk, y3, or_0]
          exact ⟨(x1, y), x1, rfl, rfl, rfl, r2.tr y1, y2.trans r3⟩
        · simp (disch := omega) only [Option.bind_some, if_true, if_false, not_true_eq_false, not_false_eq_true, z0, ii_add, ii_sub, ii_mul, ifLeT, ifLeF, ifLtT, ifLtF, ifEqT, ifEqF, ifNeT, ifNeF, ifIn, nixZ, ii_i64, o0, o1, isInT, isInF, tn14, tn12, tn2, tn21, tn47, tn48, tn49, tn471, tn472, Int.reduceToNat, Int.toNat_natCast, Int.reduceAdd, Int.reduceSub, Int.reduceMul, Int.reduceNeg, Nat.reduceAdd, Nat.reduceSub, Nat.reduceMul, HF_wrong_L39, HF_wrong_L39_b, R_wrong_L31, R_wrong_L31_b, Ex, Cx.2.2.2.2.2.1, R.2.2.2.2.1, ey, hrk, y3]
          exact ⟨(x1 ||| p_HF_bit (ii k), y), _, rfl, rfl, rfl, r2.tr y1, y2.trans r3⟩
    · rw [if_neg (show ¬ ii ((fiC hd he (-1) m (cellsM hd).toNat).length : Int) ≤ 0 by rw [z0, ii_le (by omega) (by omega) (by omega) (by omega)]; omega), if_neg (show ¬ ii ((fiC hd he (-1) m (cellsM hd).toNat).length : Int) ≤ 0 by rw [z0, ii_le (by omega) (by omega) (by omega) (by omega)]; omega)]
      exact ⟨_, _, rfl, rfl, CS.scan a1 a2⟩
end H3
