/-! the cheapest wells: what is searched, and the class's search -/
theorem pc_0 : p_Int_bitCount (ii 0) = ii 0 := by decide +kernel
theorem pc_1 : ∀ a : Nat, a < 30 → p_Int_bitCount (bitI a) = ii 1 := by decide +kernel
theorem pc_2 : ∀ b : Nat, b < 30 → ∀ a : Nat, a < b → p_Int_bitCount (bitI a ||| bitI b) = ii 2 := by decide +kernel
theorem pc_3 : ∀ c : Nat, c < 30 → ∀ b : Nat, b < c → ∀ a : Nat, a < b → p_Int_bitCount ((bitI a ||| bitI b) ||| bitI c) = ii 3 := by decide +kernel
theorem z_or (x : Int32) : ii 0 ||| x = x := by
  apply tb_ext
  intro i hi
  rw [tb_or, tb_0, Bool.false_or]
abbrev BST : Type := Option (Int32 × Int × Int)
/-- better than the best so far -/
def bet (st : BST) (s : Int32) (p k : Int) : Prop := match st with
  | none => True
  | some (bs, bp, bk) => p < bp ∨ (p = bp ∧ (k < bk ∨ (k = bk ∧ ¬ bs ≤ s)))
noncomputable def cns (st : BST) (s : Int32) (p k : Int) (y : Int) (n : Int) : BST := @ite _ (bet st s p k ∧ n ≤ y) (Classical.propDecidable _) (some (s, p, k)) st
theorem cns_T {st : BST} {s : Int32} {p k y n : Int} (h : bet st s p k) (h' : n ≤ y) : cns st s p k y n = some (s, p, k) := by
  unfold cns; rw [if_pos ⟨h, h'⟩]
theorem cns_F {st : BST} {s : Int32} {p k y n : Int} (h : ¬ bet st s p k ∨ y < n) : cns st s p k y n = st := by
  unfold cns
  rw [if_neg]
  rintro ⟨z1, z2⟩
  rcases h with h | h
  · exact h z1
  · omega
def fo (f : Nat → BST → BST) (s : Nat) : Nat → BST → BST
  | 0, st => st
  | m + 1, st => f (s + m) (fo f s m st)
section P1
variable {hd : Nat → Int} {d : DY} {o wr : Nat} {h g : AH}
/-- deep enough now -/
def wetP (hd : Nat → Int) (d : DY) (c : Nat) : Prop := watM hd c 2 ≠ -1 ∧ watM hd c 2 ≤ (if vI (d (14 + c)) = 0 then 60 else vI (d (14 + c)))
def opB (hd : Nat → Int) (d : DY) (c : Nat) : Bool := decide (vI (d (14 + c)) = 0 ∧ watM hd c 2 ≠ -1 ∧ watM hd c 2 ≤ 60)
noncomputable def ylM (hd : Nat → Int) (d : DY) (c : Nat) : Int := @ite _ (wetP hd d c) (Classical.propDecidable _) (10 - watM hd c 2 / 10) 0
def prM (hd : Nat → Int) (c : Nat) : Int := watM hd c 2 * (hd 3 + rkM hd c)
def max0M (x : Int) : Int := if 0 ≤ x then x else 0
noncomputable def yM (hd : Nat → Int) (d : DY) (s : Int32) : Nat → Int
  | 0 => 0
  | c + 1 => yM hd d s c + (if tb (wlM d ||| s) c = true then max0M (ylM hd d c - adjM hd (wlM d ||| s) c) else 0)
theorem ylM_T {c : Nat} (w : wetP hd d c) : ylM hd d c = 10 - watM hd c 2 / 10 := by unfold ylM; rw [if_pos w]
theorem ylM_F {c : Nat} (w : ¬ wetP hd d c) : ylM hd d c = 0 := by unfold ylM; rw [if_neg w]
theorem ylM_lo (W : HW hd) (c : Nat) : 0 ≤ ylM hd d c ∧ ylM hd d c ≤ 10 := by
  have := watM_lo W c 2
  by_cases w : wetP hd d c
  · rw [ylM_T w]; have := w.1; omega
  · rw [ylM_F w]; omega
theorem yM_lo (W : HW hd) (s : Int32) : ∀ n : Nat, 0 ≤ yM hd d s n ∧ yM hd d s n ≤ 10 * n
  | 0 => by unfold yM; omega
  | n + 1 => by
    have ih := yM_lo W s n
    have h1 := ylM_lo W (d := d) n
    have h2 := adjM_lo (hd := hd) (wlM d ||| s) n
    unfold yM max0M
    split
    · split <;> omega
    · omega
theorem thM_lo {b : Nat} {c : Int} : ∀ (n k : Nat), (∀ i, k ≤ i → i < k + n → 1 ≤ hd (b + 2 * i + 1) ∧ hd (b + 2 * i + 1) ≤ 9) → 0 ≤ thM hd b c 0 n k ∧ thM hd b c 0 n k ≤ 9
  | 0, k, _ => by unfold thM; omega
  | n + 1, k, h => by
    unfold thM
    split
    · have := h k (Nat.le_refl _) (by omega); omega
    · exact thM_lo n (k + 1) (fun i h1 h2 => h i (by omega) (by omega))
theorem rkM_lo (W : HW hd) (c : Int) : 0 ≤ rkM hd c ∧ rkM hd c ≤ 9 := by
  have hw := W.1
  unfold rkM
  exact thM_lo _ 0 (fun i _ h => by have := W.2.2.2.1 i (by omega); omega)
theorem prM_lo (W : HW hd) {c : Nat} (ho : opB hd d c = true) : 0 ≤ prM hd c ∧ prM hd c ≤ 1080 := by
  have hw := W.1
  have hl := watM_lo W c 2
  have hr := rkM_lo W c
  unfold opB at ho
  rw [decide_eq_true_eq] at ho
  unfold prM
  refine ⟨Int.mul_nonneg (by omega) (by omega), ?_⟩
  have := Int.mul_le_mul (show watM hd c 2 ≤ 60 by omega) (show hd 3 + rkM hd c ≤ 18 by omega) (by omega) (by omega)
  omega
theorem op_wet {c : Nat} (ho : opB hd d c = true) : wetP hd d c := by
  unfold opB at ho
  rw [decide_eq_true_eq] at ho
  unfold wetP
  rw [if_pos ho.1]
  exact ho.2
/-- the plan, prepared -/
def PP (hd : Nat → Int) (d : DY) (n : Int) (x : AH) : Prop := x.1 39 3 = ii (cellsM hd) ∧ x.1 39 4 = wlM d ∧ x.1 39 5 = mkI (opB hd d) (cellsM hd).toNat ∧ x.1 39 6 = ii n ∧ ∀ c : Nat, (c : Int) < cellsM hd → x.1 40 c = ii (ylM hd d c) ∧ (wetP hd d c → x.1 41 c = ii (prM hd c)) ∧ x.1 42 c = besM hd c
theorem C_prep (E : h.2.2 0 13 = o) (C : CH hd o h) (ho : o = 43 ∨ o = 49) (M : MR hd d wr (mvO h 13)) (V : DW hd d) (W : HW hd) (n : Int) : ∃ x, f_Plan_prepare o 13 (ii n) h = some x ∧ Ag [39, 40, 41, 42] h x ∧ x.1 39 7 = ii 0 ∧ PP hd d n x := by
  have hcl := W.cells
  unfold f_Plan_prepare
  obtain ⟨b, hb⟩ : ∃ b, b = (wI (wI (wI (wI (wI h 39 3 (p_Math_min (h.1 o 9) (ii 30))) 39 4 ((wI h 39 3 (p_Math_min (h.1 o 9) (ii 30))).1 13 6)) 39 6 (ii n)) 39 5 (ii 0)) 39 7 (ii 0)) := ⟨_, rfl⟩
  rw [← hb]
  have em : p_Math_min (h.1 o 9) (ii 30) = ii (cellsM hd) := by
    unfold p_Math_min
    by_cases q : cellsM hd = 30
    · simp (disch := omega) only [Option.bind_some, if_true, if_false, not_true_eq_false, not_false_eq_true, z0, ii_add, ii_sub, ii_mul, ifLeT, ifLeF, ifLtT, ifLtF, ifEqT, ifEqF, ifNeT, ifNeF, ifIn, nixZ, ii_i64, o0, o1, isInT, isInF, tn14, tn12, tn2, tn21, tn47, tn48, tn49, tn471, tn472, Int.reduceToNat, Int.toNat_natCast, Int.reduceAdd, Int.reduceSub, Int.reduceMul, Int.reduceNeg, Nat.reduceAdd, Nat.reduceSub, Nat.reduceMul, C.2.2.2.2.1, q]
    · simp (disch := omega) only [Option.bind_some, if_true, if_false, not_true_eq_false, not_false_eq_true, z0, ii_add, ii_sub, ii_mul, ifLeT, ifLeF, ifLtT, ifLtF, ifEqT, ifEqF, ifNeT, ifNeF, ifIn, nixZ, ii_i64, o0, o1, isInT, isInF, tn14, tn12, tn2, tn21, tn47, tn48, tn49, tn471, tn472, Int.reduceToNat, Int.toNat_natCast, Int.reduceAdd, Int.reduceSub, Int.reduceMul, Int.reduceNeg, Nat.reduceAdd, Nat.reduceSub, Nat.reduceMul, C.2.2.2.2.1]
  have b0 : Ag [39, 40, 41, 42] h b := by rw [hb]; exact (((((Ag.rf _ _).pI (by decide)).pI (by decide)).pI (by decide)).pI (by decide)).pI (by decide)
  have b3 : b.1 39 3 = ii (cellsM hd) := by
    rw [hb, wI_self, upd_ne (by decide), wI_self, upd_ne (by decide), wI_self, upd_ne (by decide), wI_self, upd_ne (by decide), wI_self, upd_self, em]
  have b4 : b.1 39 4 = wlM d := by
    rw [hb, wI_self, upd_ne (by decide), wI_self, upd_ne (by decide), wI_self, upd_ne (by decide), wI_self, upd_self, wI_ne (by decide), M_wells M]
  have b6 : b.1 39 6 = ii n := by
    rw [hb, wI_self, upd_ne (by decide), wI_self, upd_ne (by decide), wI_self, upd_self]
  have b5 : b.1 39 5 = ii 0 := by rw [hb, wI_self, upd_ne (by decide), wI_self, upd_self]
  have b7 : b.1 39 7 = ii 0 := by rw [hb, wI_self, upd_self]
  clear hb
  refine lup (fun m k (x : AH) => Plan_prepare_L39 m o 13 (ii k) x) (cellsM hd).toNat (fun k x => Ag [39, 40, 41, 42] h x ∧ (∀ j, j ≠ 5 → x.1 39 j = b.1 39 j) ∧ x.1 39 5 = mkI (opB hd d) k ∧ ∀ c : Nat, c < k → x.1 40 c = ii (ylM hd d c) ∧ (wetP hd d c → x.1 41 c = ii (prM hd c)) ∧ x.1 42 c = besM hd c) (fun y => ∃ x, y = some x ∧ Ag [39, 40, 41, 42] h x ∧ x.1 39 7 = ii 0 ∧ PP hd d n x) ?_ ?_ (cellsM hd).toNat 0 FU b (by omega) (by unfold FU; omega) ⟨b0, fun j _ => rfl, b5, fun c hc => by omega⟩
  · rintro m x ⟨r1, r2, r3, r4⟩
    have e3 := (r2 3 (by decide)).trans b3
    simp (disch := omega) only [Option.bind_some, if_true, if_false, not_true_eq_false, not_false_eq_true, z0, ii_add, ii_sub, ii_mul, ifLeT, ifLeF, ifLtT, ifLtF, ifEqT, ifEqF, ifNeT, ifNeF, ifIn, nixZ, ii_i64, o0, o1, isInT, isInF, tn14, tn12, tn2, tn21, tn47, tn48, tn49, tn471, tn472, Int.reduceToNat, Int.toNat_natCast, Int.reduceAdd, Int.reduceSub, Int.reduceMul, Int.reduceNeg, Nat.reduceAdd, Nat.reduceSub, Nat.reduceMul, Plan_prepare_L39, Plan_prepare_L39_b, e3]
    exact ⟨_, rfl, r1, (r2 7 (by decide)).trans b7, e3, (r2 4 (by decide)).trans b4, r3, (r2 6 (by decide)).trans b6, fun c hc => r4 c (by omega)⟩
  · rintro m k x hk ⟨r1, r2, r3, r4⟩
    right
    have e3 := (r2 3 (by decide)).trans b3
    have e4 := (r2 4 (by decide)).trans b4
    have hl := watM_lo W k 2
    have hwl := V.wel (c := k) (by omega)
    have hag : ∀ y : AH, Ag [39, 40, 41, 42] h y → CH hd o y := fun y hy => C.ag (fun i hi => hy.1 (o + i) (by rcases ho with e | e <;> subst e <;> simp <;> omega))
    have Cx := hag x r1
    have Mx : f_Moor_sunkTo 13 (ii k) x = some (ii (vI (d (14 + k)))) := by
      have : mvO x 13 = mvO h 13 := by unfold mvO; rw [r1.1 13 (by decide), r1.1 14 (by decide), r1.1 15 (by decide), r1.1 16 (by decide), r1.1 17 (by decide), r1.1 18 (by decide)]
      rw [C_sunkTo (hd := hd) (d := d) (wr := wr) (by rw [this]; exact M) (by omega), ← vI_ii]
    have eh := M_well V (c := k) (by omega)
    have hF : vI (d (14 + k)) = 0 → p_HF_holds (wlM d) (ii k) = ii 0 := fun z => by rw [eh, if_pos]; rw [vI_ii (d (14 + k)), z]; rfl
    have hT : vI (d (14 + k)) ≠ 0 → p_HF_holds (wlM d) (ii k) = ii 1 := fun z => by rw [eh, if_neg]; intro y; rw [y] at z; exact z rfl
    have fin : ∀ (q4 q6 : Int32) (y : AH), (q4 = ii (ylM hd d k)) → (wetP hd d k → q6 = ii (prM hd k)) → y = (wI (wI (wI (wI x 40 k q4) 41 k q6) 42 k (besM hd k)) 39 5 ((wI (wI (wI x 40 k q4) 41 k q6) 42 k (besM hd k)).1 39 5 ||| (if opB hd d k = true then p_HF_bit (ii k) else ii 0))) → (Ag [39, 40, 41, 42] h y ∧ (∀ j, j ≠ 5 → y.1 39 j = b.1 39 j) ∧ y.1 39 5 = mkI (opB hd d) (k + 1) ∧ ∀ c : Nat, c < k + 1 → y.1 40 c = ii (ylM hd d c) ∧ (wetP hd d c → y.1 41 c = ii (prM hd c)) ∧ y.1 42 c = besM hd c) := by
      intro q4 q6 y h4 h6 ey
      subst ey
      refine ⟨(((r1.pI (by decide)).pI (by decide)).pI (by decide)).pI (by decide), fun j hj => ?_, ?_, fun c hc => ?_⟩
      · rw [wI_self, upd_ne hj, wI_ne (by decide), wI_ne (by decide), wI_ne (by decide)]; exact r2 j hj
      · rw [wI_self, upd_self, wI_ne (by decide), wI_ne (by decide), wI_ne (by decide), r3]
        by_cases t : opB hd d k = true
        · rw [if_pos t, mk_T t]; rfl
        · rw [if_neg t, mk_F (by simpa using t), or_0]
      · have a40 : ∀ z, (wI (wI (wI (wI x 40 k q4) 41 k q6) 42 k (besM hd k)) 39 5 z).1 40 = upd (x.1 40) k q4 := fun z => by rw [wI_ne (by decide), wI_ne (by decide), wI_ne (by decide), wI_self]
        have a41 : ∀ z, (wI (wI (wI (wI x 40 k q4) 41 k q6) 42 k (besM hd k)) 39 5 z).1 41 = upd (x.1 41) k q6 := fun z => by rw [wI_ne (by decide), wI_ne (by decide), wI_self, wI_ne (by decide)]
        have a42 : ∀ z, (wI (wI (wI (wI x 40 k q4) 41 k q6) 42 k (besM hd k)) 39 5 z).1 42 = upd (x.1 42) k (besM hd k) := fun z => by rw [wI_ne (by decide), wI_self, wI_ne (by decide), wI_ne (by decide)]
        rw [a40, a41, a42]
        by_cases e : c = k
        · subst e; rw [upd_self, upd_self, upd_self]; exact ⟨h4, h6, rfl⟩
        · rw [upd_ne e, upd_ne e, upd_ne e]; exact r4 c (by omega)
    by_cases q1 : watM hd k 2 = -1
    · have hnw : ¬ wetP hd d k := fun z => z.1 q1
      have hno : opB hd d k = false := by unfold opB; simp [q1]
      by_cases q2 : vI (d (14 + k)) = 0
      · simp (disch := omega) only [Option.bind_some, if_true, if_false, not_true_eq_false, not_false_eq_true, z0, ii_add, ii_sub, ii_mul, ifLeT, ifLeF, ifLtT, ifLtF, ifEqT, ifEqF, ifNeT, ifNeF, ifIn, nixZ, ii_i64, o0, o1, isInT, isInF, tn14, tn12, tn2, tn21, tn47, tn48, tn49, tn471, tn472, Int.reduceToNat, Int.toNat_natCast, Int.reduceAdd, Int.reduceSub, Int.reduceMul, Int.reduceNeg, Nat.reduceAdd, Nat.reduceSub, Nat.reduceMul, Plan_prepare_L39, Plan_prepare_L39_b, e3, e4, C_waterIn Cx W, hF q2, q1, C_besideOf (hag _ ((r1.pI (o := 40) (j := k) (v := ii 0) (by decide)).pI (o := 41) (j := k) (v := ii 0) (by decide))) W]
        exact ⟨_, rfl, fin (ii 0) (ii 0) _ (by rw [ylM_F hnw]) (fun z => absurd z hnw) (by rw [hno]; rfl)⟩
      · simp (disch := omega) only [Option.bind_some, if_true, if_false, not_true_eq_false, not_false_eq_true, z0, ii_add, ii_sub, ii_mul, ifLeT, ifLeF, ifLtT, ifLtF, ifEqT, ifEqF, ifNeT, ifNeF, ifIn, nixZ, ii_i64, o0, o1, isInT, isInF, tn14, tn12, tn2, tn21, tn47, tn48, tn49, tn471, tn472, Int.reduceToNat, Int.toNat_natCast, Int.reduceAdd, Int.reduceSub, Int.reduceMul, Int.reduceNeg, Nat.reduceAdd, Nat.reduceSub, Nat.reduceMul, Plan_prepare_L39, Plan_prepare_L39_b, e3, e4, C_waterIn Cx W, hT q2, Mx, q1, C_besideOf (hag _ ((r1.pI (o := 40) (j := k) (v := ii 0) (by decide)).pI (o := 41) (j := k) (v := ii 0) (by decide))) W]
        exact ⟨_, rfl, fin (ii 0) (ii 0) _ (by rw [ylM_F hnw]) (fun z => absurd z hnw) (by rw [hno]; rfl)⟩
    · have ewd : ∀ q4 q6 : Int32, f_Heath_rockIn o (ii k) (wI x 40 k q4) = some (ii (rkM hd k)) := fun q4 q6 => C_rockIn (hag _ (r1.pI (by decide))) W (by omega) (by omega)
      have e8 : ∀ q4 : Int32, (wI x 40 k q4).1 o 8 = ii (hd 3) := fun q4 => (hag _ (r1.pI (by decide))).2.2.2.1
      have ebs : ∀ q4 q6 : Int32, f_Heath_besideOf o (ii k) (wI (wI x 40 k q4) 41 k q6) = some (besM hd k) := fun q4 q6 => C_besideOf (hag _ ((r1.pI (by decide)).pI (by decide))) W (by omega) (by omega)
      by_cases q2 : vI (d (14 + k)) = 0
      · by_cases q3 : watM hd k 2 ≤ 60
        · have hw : wetP hd d k := ⟨q1, by rw [if_pos q2]; exact q3⟩
          have hop : opB hd d k = true := by unfold opB; simp [q1, q2, q3]
          simp (disch := omega) only [Option.bind_some, if_true, if_false, not_true_eq_false, not_false_eq_true, z0, ii_add, ii_sub, ii_mul, ifLeT, ifLeF, ifLtT, ifLtF, ifEqT, ifEqF, ifNeT, ifNeF, ifIn, nixZ, ii_i64, o0, o1, isInT, isInF, tn14, tn12, tn2, tn21, tn47, tn48, tn49, tn471, tn472, Int.reduceToNat, Int.toNat_natCast, Int.reduceAdd, Int.reduceSub, Int.reduceMul, Int.reduceNeg, Nat.reduceAdd, Nat.reduceSub, Nat.reduceMul, Plan_prepare_L39, Plan_prepare_L39_b, e3, e4, C_waterIn Cx W, hF q2, ii_div, ewd _ (ii 0), e8, ebs]
          exact ⟨_, rfl, fin (ii (10 - watM hd k 2 / 10)) (ii (prM hd k)) _ (by rw [ylM_T hw]) (fun _ => rfl) (by rw [if_pos hop]; rfl)⟩
        · have hnw : ¬ wetP hd d k := fun z => by have := z.2; rw [if_pos q2] at this; omega
          have hno : opB hd d k = false := by unfold opB; simp [q3]
          simp (disch := omega) only [Option.bind_some, if_true, if_false, not_true_eq_false, not_false_eq_true, z0, ii_add, ii_sub, ii_mul, ifLeT, ifLeF, ifLtT, ifLtF, ifEqT, ifEqF, ifNeT, ifNeF, ifIn, nixZ, ii_i64, o0, o1, isInT, isInF, tn14, tn12, tn2, tn21, tn47, tn48, tn49, tn471, tn472, Int.reduceToNat, Int.toNat_natCast, Int.reduceAdd, Int.reduceSub, Int.reduceMul, Int.reduceNeg, Nat.reduceAdd, Nat.reduceSub, Nat.reduceMul, Plan_prepare_L39, Plan_prepare_L39_b, e3, e4, C_waterIn Cx W, hF q2, ebs]
          exact ⟨_, rfl, fin (ii 0) (ii 0) _ (by rw [ylM_F hnw]) (fun z => absurd z hnw) (by rw [hno]; rfl)⟩
      · have hno : opB hd d k = false := by unfold opB; simp [q2]
        by_cases q3 : watM hd k 2 ≤ vI (d (14 + k))
        · have hw : wetP hd d k := ⟨q1, by rw [if_neg q2]; exact q3⟩
          simp (disch := omega) only [Option.bind_some, if_true, if_false, not_true_eq_false, not_false_eq_true, z0, ii_add, ii_sub, ii_mul, ifLeT, ifLeF, ifLtT, ifLtF, ifEqT, ifEqF, ifNeT, ifNeF, ifIn, nixZ, ii_i64, o0, o1, isInT, isInF, tn14, tn12, tn2, tn21, tn47, tn48, tn49, tn471, tn472, Int.reduceToNat, Int.toNat_natCast, Int.reduceAdd, Int.reduceSub, Int.reduceMul, Int.reduceNeg, Nat.reduceAdd, Nat.reduceSub, Nat.reduceMul, Plan_prepare_L39, Plan_prepare_L39_b, e3, e4, C_waterIn Cx W, hT q2, Mx, ii_div, ewd _ (ii 0), e8, ebs]
          exact ⟨_, rfl, fin (ii (10 - watM hd k 2 / 10)) (ii (prM hd k)) _ (by rw [ylM_T hw]) (fun _ => rfl) (by rw [hno]; rfl)⟩
        · have hnw : ¬ wetP hd d k := fun z => by have := z.2; rw [if_neg q2] at this; omega
          simp (disch := omega) only [Option.bind_some, if_true, if_false, not_true_eq_false, not_false_eq_true, z0, ii_add, ii_sub, ii_mul, ifLeT, ifLeF, ifLtT, ifLtF, ifEqT, ifEqF, ifNeT, ifNeF, ifIn, nixZ, ii_i64, o0, o1, isInT, isInF, tn14, tn12, tn2, tn21, tn47, tn48, tn49, tn471, tn472, Int.reduceToNat, Int.toNat_natCast, Int.reduceAdd, Int.reduceSub, Int.reduceMul, Int.reduceNeg, Nat.reduceAdd, Nat.reduceSub, Nat.reduceMul, Plan_prepare_L39, Plan_prepare_L39_b, e3, e4, C_waterIn Cx W, hT q2, Mx, ebs]
          exact ⟨_, rfl, fin (ii 0) (ii 0) _ (by rw [ylM_F hnw]) (fun z => absurd z hnw) (by rw [hno]; rfl)⟩
theorem C_yield {x : AH} {n : Int} (P : PP hd d n x) (W : HW hd) (s : Int32) : f_Plan_yieldOf (wlM d ||| s) x = some (ii (yM hd d s (cellsM hd).toNat)) := by
  have hcl := W.cells
  unfold f_Plan_yieldOf
  refine lup (fun m k (a : Int) => Plan_yieldOf_L4 m (wlM d ||| s) (ii a) (ii k) x) (cellsM hd).toNat (fun k a => a = yM hd d s k) (fun y => y = some (ii (yM hd d s (cellsM hd).toNat))) ?_ ?_ (cellsM hd).toNat 0 FU 0 (by omega) (by unfold FU; omega) rfl
  · rintro m a r
    subst r
    simp (disch := omega) only [Option.bind_some, if_true, if_false, not_true_eq_false, not_false_eq_true, z0, ii_add, ii_sub, ii_mul, ifLeT, ifLeF, ifLtT, ifLtF, ifEqT, ifEqF, ifNeT, ifNeF, ifIn, nixZ, ii_i64, o0, o1, isInT, isInF, tn14, tn12, tn2, tn21, tn47, tn48, tn49, tn471, tn472, Int.reduceToNat, Int.toNat_natCast, Int.reduceAdd, Int.reduceSub, Int.reduceMul, Int.reduceNeg, Nat.reduceAdd, Nat.reduceSub, Nat.reduceMul, Plan_yieldOf_L4, Plan_yieldOf_L4_b, P.1]
  · rintro m k a hk r
    subst r
    right
    have et : yM hd d s (k + 1) = yM hd d s k + (if tb (wlM d ||| s) k = true then max0M (ylM hd d k - adjM hd (wlM d ||| s) k) else 0) := rfl
    have eh := C_holds (wlM d ||| s) (n := k) (by omega)
    obtain ⟨p1, p2, p3⟩ := P.2.2.2.2 k (by omega)
    have h1 := ylM_lo W (d := d) k
    have h2 := adjM_lo (hd := hd) (wlM d ||| s) k
    rw [et]
    by_cases t : tb (wlM d ||| s) k = true
    · rw [if_pos t] at eh ⊢
      simp (disch := omega) only [Option.bind_some, if_true, if_false, not_true_eq_false, not_false_eq_true, z0, ii_add, ii_sub, ii_mul, ifLeT, ifLeF, ifLtT, ifLtF, ifEqT, ifEqF, ifNeT, ifNeF, ifIn, nixZ, ii_i64, o0, o1, isInT, isInF, tn14, tn12, tn2, tn21, tn47, tn48, tn49, tn471, tn472, Int.reduceToNat, Int.toNat_natCast, Int.reduceAdd, Int.reduceSub, Int.reduceMul, Int.reduceNeg, Nat.reduceAdd, Nat.reduceSub, Nat.reduceMul, Plan_yieldOf_L4, Plan_yieldOf_L4_b, P.1, eh, p1, p3, pc_bes W, max0]
      exact ⟨_, rfl, rfl⟩
    · rw [if_neg t] at eh ⊢
      simp (disch := omega) only [Option.bind_some, if_true, if_false, not_true_eq_false, not_false_eq_true, z0, ii_add, ii_sub, ii_mul, ifLeT, ifLeF, ifLtT, ifLtF, ifEqT, ifEqF, ifNeT, ifNeF, ifIn, nixZ, ii_i64, o0, o1, isInT, isInF, tn14, tn12, tn2, tn21, tn47, tn48, tn49, tn471, tn472, Int.reduceToNat, Int.toNat_natCast, Int.reduceAdd, Int.reduceSub, Int.reduceMul, Int.reduceNeg, Nat.reduceAdd, Nat.reduceSub, Nat.reduceMul, Plan_yieldOf_L4, Plan_yieldOf_L4_b, P.1, eh]
      exact ⟨_, rfl, by omega⟩
/-- the best so far, in the class -/
def Bst (st : BST) (x : AH) : Prop := match st with
  | none => x.1 39 7 = ii 0
  | some (bs, bp, bk) => x.1 39 7 = ii 1 ∧ x.1 39 8 = bs ∧ x.1 39 9 = ii bp ∧ x.1 39 10 = ii bk
def okS2 (st : BST) : Prop := match st with
  | none => True
  | some (bs, bp, bk) => (0 ≤ bp ∧ bp ≤ 100000) ∧ (0 ≤ bk ∧ bk ≤ 3) ∧ p_Int_bitCount bs = ii bk ∧ ∀ i, 30 ≤ i → tb bs i = false
/-- searched so far -/
def CG (hd : Nat → Int) (d : DY) (n : Int) (st : BST) (h x : AH) : Prop := Ag [39, 40, 41, 42] h x ∧ PP hd d n x ∧ Bst st x ∧ okS2 st
theorem C_cons {st : BST} {n : Int} {x : AH} (W : HW hd) (n0 : 1 ≤ n) (n1 : n ≤ 40) (G : CG hd d n st h x) {s : Int32} {p k : Int} (p0 : 0 ≤ p) (p1 : p ≤ 100000) (k0 : 0 ≤ k) (k1 : k ≤ 3) (hpc : p_Int_bitCount s = ii k) (hs : ∀ i, 30 ≤ i → tb s i = false) : ∃ x', f_Plan_consider s (ii p) (ii k) x = some x' ∧ CG hd d n (cns st s p k (yM hd d s (cellsM hd).toNat) n) h x' := by
  obtain ⟨g1, g2, g3, g4'⟩ := G
  have hcl := W.cells
  have hy := yM_lo W (d := d) s (cellsM hd).toNat
  unfold f_Plan_consider
  have better : bet st s p k → p_Plan_isBetter s (ii p) (ii k) x = ii 1 := by
    intro b
    unfold p_Plan_isBetter
    cases st with
    | none =>
      have e7 : x.1 39 7 = ii 0 := g3
      simp (disch := omega) only [Option.bind_some, if_true, if_false, not_true_eq_false, not_false_eq_true, z0, ii_add, ii_sub, ii_mul, ifLeT, ifLeF, ifLtT, ifLtF, ifEqT, ifEqF, ifNeT, ifNeF, ifIn, nixZ, ii_i64, o0, o1, isInT, isInF, tn14, tn12, tn2, tn21, tn47, tn48, tn49, tn471, tn472, Int.reduceToNat, Int.toNat_natCast, Int.reduceAdd, Int.reduceSub, Int.reduceMul, Int.reduceNeg, Nat.reduceAdd, Nat.reduceSub, Nat.reduceMul, e7]
    | some v =>
      obtain ⟨bs, bp, bk⟩ := v
      obtain ⟨e7, e8, e9, e10⟩ := g3
      obtain ⟨o1', o2, o3, o4⟩ := g4'
      rcases b with b | ⟨b1, b2 | ⟨b2, b3⟩⟩
      · simp (disch := omega) only [Option.bind_some, if_true, if_false, not_true_eq_false, not_false_eq_true, z0, ii_add, ii_sub, ii_mul, ifLeT, ifLeF, ifLtT, ifLtF, ifEqT, ifEqF, ifNeT, ifNeF, ifIn, nixZ, ii_i64, o0, o1, isInT, isInF, tn14, tn12, tn2, tn21, tn47, tn48, tn49, tn471, tn472, Int.reduceToNat, Int.toNat_natCast, Int.reduceAdd, Int.reduceSub, Int.reduceMul, Int.reduceNeg, Nat.reduceAdd, Nat.reduceSub, Nat.reduceMul, e7, e8, e9, e10]
      · simp (disch := omega) only [Option.bind_some, if_true, if_false, not_true_eq_false, not_false_eq_true, z0, ii_add, ii_sub, ii_mul, ifLeT, ifLeF, ifLtT, ifLtF, ifEqT, ifEqF, ifNeT, ifNeF, ifIn, nixZ, ii_i64, o0, o1, isInT, isInF, tn14, tn12, tn2, tn21, tn47, tn48, tn49, tn471, tn472, Int.reduceToNat, Int.toNat_natCast, Int.reduceAdd, Int.reduceSub, Int.reduceMul, Int.reduceNeg, Nat.reduceAdd, Nat.reduceSub, Nat.reduceMul, e7, e8, e9, e10]
      · simp (disch := omega) only [Option.bind_some, if_true, if_false, not_true_eq_false, not_false_eq_true, z0, ii_add, ii_sub, ii_mul, ifLeT, ifLeF, ifLtT, ifLtF, ifEqT, ifEqF, ifNeT, ifNeF, ifIn, nixZ, ii_i64, o0, o1, isInT, isInF, tn14, tn12, tn2, tn21, tn47, tn48, tn49, tn471, tn472, Int.reduceToNat, Int.toNat_natCast, Int.reduceAdd, Int.reduceSub, Int.reduceMul, Int.reduceNeg, Nat.reduceAdd, Nat.reduceSub, Nat.reduceMul, e7, e8, e9, e10, b3]
  have nbetter : ¬ bet st s p k → p_Plan_isBetter s (ii p) (ii k) x = ii 0 := by
    intro b
    unfold p_Plan_isBetter
    cases st with
    | none => exact absurd trivial b
    | some v =>
      obtain ⟨bs, bp, bk⟩ := v
      obtain ⟨e7, e8, e9, e10⟩ := g3
      obtain ⟨o1', o2, o3, o4⟩ := g4'
      have nb1 : ¬ p < bp := fun z => b (Or.inl z)
      by_cases q1 : p = bp
      · have nb2 : ¬ k < bk := fun z => b (Or.inr ⟨q1, Or.inl z⟩)
        by_cases q2 : k = bk
        · have nb3 : bs ≤ s := Classical.byContradiction (fun z => b (Or.inr ⟨q1, Or.inr ⟨q2, z⟩⟩))
          simp (disch := omega) only [Option.bind_some, if_true, if_false, not_true_eq_false, not_false_eq_true, z0, ii_add, ii_sub, ii_mul, ifLeT, ifLeF, ifLtT, ifLtF, ifEqT, ifEqF, ifNeT, ifNeF, ifIn, nixZ, ii_i64, o0, o1, isInT, isInF, tn14, tn12, tn2, tn21, tn47, tn48, tn49, tn471, tn472, Int.reduceToNat, Int.toNat_natCast, Int.reduceAdd, Int.reduceSub, Int.reduceMul, Int.reduceNeg, Nat.reduceAdd, Nat.reduceSub, Nat.reduceMul, e7, e8, e9, e10, nb3]
        · simp (disch := omega) only [Option.bind_some, if_true, if_false, not_true_eq_false, not_false_eq_true, z0, ii_add, ii_sub, ii_mul, ifLeT, ifLeF, ifLtT, ifLtF, ifEqT, ifEqF, ifNeT, ifNeF, ifIn, nixZ, ii_i64, o0, o1, isInT, isInF, tn14, tn12, tn2, tn21, tn47, tn48, tn49, tn471, tn472, Int.reduceToNat, Int.toNat_natCast, Int.reduceAdd, Int.reduceSub, Int.reduceMul, Int.reduceNeg, Nat.reduceAdd, Nat.reduceSub, Nat.reduceMul, e7, e8, e9, e10]
      · simp (disch := omega) only [Option.bind_some, if_true, if_false, not_true_eq_false, not_false_eq_true, z0, ii_add, ii_sub, ii_mul, ifLeT, ifLeF, ifLtT, ifLtF, ifEqT, ifEqF, ifNeT, ifNeF, ifIn, nixZ, ii_i64, o0, o1, isInT, isInF, tn14, tn12, tn2, tn21, tn47, tn48, tn49, tn471, tn472, Int.reduceToNat, Int.toNat_natCast, Int.reduceAdd, Int.reduceSub, Int.reduceMul, Int.reduceNeg, Nat.reduceAdd, Nat.reduceSub, Nat.reduceMul, e7, e8, e9, e10]
  by_cases b : bet st s p k
  · by_cases q : n ≤ yM hd d s (cellsM hd).toNat
    · rw [cns_T b q]
      simp (disch := omega) only [Option.bind_some, if_true, if_false, not_true_eq_false, not_false_eq_true, z0, ii_add, ii_sub, ii_mul, ifLeT, ifLeF, ifLtT, ifLtF, ifEqT, ifEqF, ifNeT, ifNeF, ifIn, nixZ, ii_i64, o0, o1, isInT, isInF, tn14, tn12, tn2, tn21, tn47, tn48, tn49, tn471, tn472, Int.reduceToNat, Int.toNat_natCast, Int.reduceAdd, Int.reduceSub, Int.reduceMul, Int.reduceNeg, Nat.reduceAdd, Nat.reduceSub, Nat.reduceMul, better b, g2.2.1, C_yield g2 W, g2.2.2.2.1]
      refine ⟨_, rfl, (((g1.pI (by decide)).pI (by decide)).pI (by decide)).pI (by decide), ?_, ⟨?_, ?_, ?_, ?_⟩, ⟨p0, p1⟩, ⟨k0, k1⟩, hpc, hs⟩
      · obtain ⟨p1', p2', p3', p4', p5'⟩ := g2
        refine ⟨?_, ?_, ?_, ?_, fun c hc => ?_⟩
        · rw [wI_self, upd_ne (by decide), wI_self, upd_ne (by decide), wI_self, upd_ne (by decide), wI_self, upd_ne (by decide)]; exact p1'
        · rw [wI_self, upd_ne (by decide), wI_self, upd_ne (by decide), wI_self, upd_ne (by decide), wI_self, upd_ne (by decide)]; exact p2'
        · rw [wI_self, upd_ne (by decide), wI_self, upd_ne (by decide), wI_self, upd_ne (by decide), wI_self, upd_ne (by decide)]; exact p3'
        · rw [wI_self, upd_ne (by decide), wI_self, upd_ne (by decide), wI_self, upd_ne (by decide), wI_self, upd_ne (by decide)]; exact p4'
        · rw [wI_ne (by decide), wI_ne (by decide), wI_ne (by decide), wI_ne (by decide), wI_ne (by decide), wI_ne (by decide), wI_ne (by decide), wI_ne (by decide), wI_ne (by decide), wI_ne (by decide), wI_ne (by decide), wI_ne (by decide)]; exact p5' c hc
      · rw [wI_self, upd_ne (by decide), wI_self, upd_ne (by decide), wI_self, upd_ne (by decide), wI_self, upd_self]
      · rw [wI_self, upd_ne (by decide), wI_self, upd_ne (by decide), wI_self, upd_self]
      · rw [wI_self, upd_ne (by decide), wI_self, upd_self]
      · rw [wI_self, upd_self]
    · rw [cns_F (Or.inr (by omega))]
      simp (disch := omega) only [Option.bind_some, if_true, if_false, not_true_eq_false, not_false_eq_true, z0, ii_add, ii_sub, ii_mul, ifLeT, ifLeF, ifLtT, ifLtF, ifEqT, ifEqF, ifNeT, ifNeF, ifIn, nixZ, ii_i64, o0, o1, isInT, isInF, tn14, tn12, tn2, tn21, tn47, tn48, tn49, tn471, tn472, Int.reduceToNat, Int.toNat_natCast, Int.reduceAdd, Int.reduceSub, Int.reduceMul, Int.reduceNeg, Nat.reduceAdd, Nat.reduceSub, Nat.reduceMul, better b, g2.2.1, C_yield g2 W, g2.2.2.2.1]
      exact ⟨_, rfl, g1, g2, g3, g4'⟩
  · rw [cns_F (Or.inl b)]
    simp (disch := omega) only [Option.bind_some, if_true, if_false, not_true_eq_false, not_false_eq_true, z0, ii_add, ii_sub, ii_mul, ifLeT, ifLeF, ifLtT, ifLtF, ifEqT, ifEqF, ifNeT, ifNeF, ifIn, nixZ, ii_i64, o0, o1, isInT, isInF, tn14, tn12, tn2, tn21, tn47, tn48, tn49, tn471, tn472, Int.reduceToNat, Int.toNat_natCast, Int.reduceAdd, Int.reduceSub, Int.reduceMul, Int.reduceNeg, Nat.reduceAdd, Nat.reduceSub, Nat.reduceMul, nbetter b]
    exact ⟨_, rfl, g1, g2, g3, g4'⟩
end P1
