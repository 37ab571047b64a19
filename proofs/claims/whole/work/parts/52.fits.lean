/-! the veins that fit, in a row -/
theorem bind_eq {α β : Type} {a : Option α} {f : α → Option β} {x : α} (h : a = some x) : a.bind f = f x := by rw [h]; rfl
section H2
variable {hd : Nat → Int} {he : HE} {o : Nat} {h g : AH}
abbrev FL : Type := List (Nat × Int32)
/-- the line fits -/
def fitP (hd : Nat → Int) (he : HE) (wo : Int) (n c w : Nat) (b : Int32) : Prop := linM hd n c w = some b ∧ soM he b wo
noncomputable def fiW (hd : Nat → Int) (he : HE) (wo : Int) (n c : Nat) : Nat → FL
  | 0 => []
  | w + 1 => fiW hd he wo n c w ++ (match linM hd n c w with
    | none => []
    | some b => @ite _ (soM he b wo) (Classical.propDecidable _) [(100 * c + w, b)] [])
noncomputable def fiC (hd : Nat → Int) (he : HE) (wo : Int) (n : Nat) : Nat → FL
  | 0 => []
  | c + 1 => fiC hd he wo n c ++ fiW hd he wo n c (2 ^ (n - 1))
theorem fiW_N {wo : Int} {n c w : Nat} (e : linM hd n c w = none) : fiW hd he wo n c (w + 1) = fiW hd he wo n c w := by
  rw [fiW, e]; simp
theorem fiW_T {wo : Int} {n c w : Nat} {b : Int32} (e : linM hd n c w = some b) (s : soM he b wo) : fiW hd he wo n c (w + 1) = fiW hd he wo n c w ++ [(100 * c + w, b)] := by
  rw [fiW, e]
  simp only
  rw [if_pos s]
theorem fiW_F {wo : Int} {n c w : Nat} {b : Int32} (e : linM hd n c w = some b) (s : ¬ soM he b wo) : fiW hd he wo n c (w + 1) = fiW hd he wo n c w := by
  rw [fiW, e]
  simp only
  rw [if_neg s]; simp
theorem fiW_len (wo : Int) (n c : Nat) : ∀ w, (fiW hd he wo n c w).length ≤ w
  | 0 => by simp [fiW]
  | w + 1 => by
    have ih := fiW_len wo n c w
    cases e : linM hd n c w with
    | none => rw [fiW_N e]; omega
    | some b =>
      by_cases s : soM he b wo
      · rw [fiW_T e s]; simp; omega
      · rw [fiW_F e s]; omega
theorem fiC_len (wo : Int) (n : Nat) : ∀ c, (fiC hd he wo n c).length ≤ c * 2 ^ (n - 1)
  | 0 => by simp [fiC]
  | c + 1 => by
    have ih := fiC_len wo n c
    have := fiW_len (hd := hd) (he := he) wo n c (2 ^ (n - 1))
    rw [fiC, List.length_append, Nat.add_mul]
    omega
theorem fiW_ok (W : HW hd) {wo : Int} {n c : Nat} (hc : (c : Int) < cellsM hd) : ∀ w, ∀ x ∈ fiW hd he wo n c w, okLi x.2
  | 0, x, hx => by simp [fiW] at hx
  | w + 1, x, hx => by
    have hcl := W.cells
    cases e : linM hd n c w with
    | none => rw [fiW_N e] at hx; exact fiW_ok W hc w x hx
    | some b =>
      by_cases s : soM he b wo
      · rw [fiW_T e s, List.mem_append] at hx
        rcases hx with hx | hx
        · exact fiW_ok W hc w x hx
        · simp only [List.mem_singleton] at hx
          rw [hx]
          exact lnM_ok W _ _ _ _ _ (okLi_bit (by omega) (by omega)) e
      · rw [fiW_F e s] at hx; exact fiW_ok W hc w x hx
def andM (hd : Nat → Int) (l : FL) : Int32 := l.foldl (fun x p => x &&& p.2) (bitI (cellsM hd) - ii 1)
def cntM (l : FL) (c : Nat) : Int := l.foldl (fun x p => x + (if tb p.2 c = true then 1 else 0)) 0
theorem andM_s (l : FL) (p : Nat × Int32) : andM hd (l ++ [p]) = andM hd l &&& p.2 := by unfold andM; rw [List.foldl_append]; rfl
theorem cntM_s (l : FL) (p : Nat × Int32) (c : Nat) : cntM (l ++ [p]) c = cntM l c + (if tb p.2 c = true then 1 else 0) := by unfold cntM; rw [List.foldl_append]; rfl
theorem cntM_lo (c : Nat) (l : FL) : 0 ≤ cntM l c ∧ cntM l c ≤ l.length := by
  have key : ∀ (l : FL) (z : Int), z ≤ l.foldl (fun x p => x + (if tb p.2 c = true then 1 else 0)) z ∧ l.foldl (fun x p => x + (if tb p.2 c = true then 1 else 0)) z ≤ z + l.length := by
    intro l
    induction l with
    | nil => intro z; simp
    | cons p l ih =>
      intro z
      have := ih (z + (if tb p.2 c = true then 1 else 0))
      simp only [List.foldl_cons, List.length_cons]
      split at this <;> rename_i q <;> simp only [q] at this ⊢ <;> simp at this ⊢ <;> omega
  have := key l 0
  unfold cntM
  omega
/-- the class's scan, so far -/
def FS (hd : Nat → Int) (l : FL) (h0 a : AH) : Prop := Ag [33, 37, 38] h0 a ∧ (∀ j, j ≠ 8 → j ≠ 9 → a.1 33 j = h0.1 33 j) ∧ a.1 33 8 = ii l.length ∧ a.1 33 9 = andM hd l ∧ (∀ i, i < l.length → a.1 37 i = ii (l.getD i (0, 0)).1) ∧ ∀ c, c < 30 → a.1 38 c = ii (cntM l c)
theorem C_addFit {l : FL} {h0 a : AH} (F : FS hd l h0 a) (hl : l.length < 480) (code : Nat) (v : Int32) : ∃ a', f_Heard_addFit (ii code) v a = some a' ∧ FS hd (l ++ [(code, v)]) h0 a' := by
  obtain ⟨f1, f2, f3, f4, f5, f6⟩ := F
  unfold f_Heard_addFit
  simp (disch := omega) only [Option.bind_some, if_true, if_false, not_true_eq_false, not_false_eq_true, z0, ii_add, ii_sub, ii_mul, ifLeT, ifLeF, ifLtT, ifLtF, ifEqT, ifEqF, ifNeT, ifNeF, ifIn, nixZ, ii_i64, o0, o1, isInT, isInF, tn14, tn12, tn2, tn21, tn47, tn48, tn49, tn471, tn472, Int.reduceToNat, Int.toNat_natCast, Int.reduceAdd, Int.reduceSub, Int.reduceMul, Int.reduceNeg, Nat.reduceAdd, Nat.reduceSub, Nat.reduceMul, f3]
  obtain ⟨b, hb⟩ : ∃ b, b = wI (wI (wI a 37 l.length (ii code)) 33 8 ((wI a 37 l.length (ii code)).1 33 8 + ii 1)) 33 9 ((wI (wI a 37 l.length (ii code)) 33 8 ((wI a 37 l.length (ii code)).1 33 8 + ii 1)).1 33 9 &&& v) := ⟨_, rfl⟩
  rw [← hb]
  have b1 : Ag [33, 37, 38] h0 b := by rw [hb]; exact ((f1.pI (by decide)).pI (by decide)).pI (by decide)
  have b2 : ∀ j, j ≠ 8 → j ≠ 9 → b.1 33 j = h0.1 33 j := by
    intro j j8 j9
    rw [hb, wI_self, upd_ne j9, wI_self, upd_ne j8, wI_ne (by decide)]
    exact f2 j j8 j9
  have b3 : b.1 33 8 = ii (l.length + 1 : Nat) := by
    rw [hb, wI_self, upd_ne (by decide), wI_self, upd_self, wI_ne (by decide), f3, ii_add]
    rfl
  have b4 : b.1 33 9 = andM hd (l ++ [(code, v)]) := by
    rw [hb, wI_self, upd_self, wI_self, upd_ne (by decide), wI_ne (by decide), f4, andM_s]
  have b5 : ∀ i, i < l.length + 1 → b.1 37 i = ii ((l ++ [(code, v)]).getD i (0, 0)).1 := by
    intro i hi
    rw [hb, wI_ne (by decide), wI_ne (by decide), wI_self]
    by_cases e : i = l.length
    · rw [e, upd_self, List.getD_eq_getElem?_getD, List.getElem?_append_right (Nat.le_refl _)]
      simp
    · rw [upd_ne e, f5 i (by omega), List.getD_eq_getElem?_getD, List.getD_eq_getElem?_getD, List.getElem?_append_left (by omega)]
  have b6 : ∀ c, c < 30 → b.1 38 c = ii (cntM l c) := by
    intro c hc
    rw [hb, wI_ne (by decide), wI_ne (by decide), wI_ne (by decide)]
    exact f6 c hc
  clear hb
  have hlen : (l ++ [(code, v)]).length = l.length + 1 := by simp
  refine lup (fun n k (x : AH) => Heard_addFit_L50 n v (ii k) x) 30 (fun k x => Ag [38] b x ∧ (∀ c, c < k → x.1 38 c = ii (cntM (l ++ [(code, v)]) c)) ∧ ∀ c, k ≤ c → c < 30 → x.1 38 c = ii (cntM l c)) (fun x => ∃ a', x = some a' ∧ FS hd (l ++ [(code, v)]) h0 a') ?_ ?_ 30 0 FU b (by omega) (by unfold FU; omega) ⟨Ag.rf _ _, fun c hc => by omega, fun c _ hc => b6 c hc⟩
  · rintro n x ⟨r1, r2, r3⟩
    simp (disch := omega) only [Option.bind_some, if_true, if_false, not_true_eq_false, not_false_eq_true, z0, ii_add, ii_sub, ii_mul, ifLeT, ifLeF, ifLtT, ifLtF, ifEqT, ifEqF, ifNeT, ifNeF, ifIn, nixZ, ii_i64, o0, o1, isInT, isInF, tn14, tn12, tn2, tn21, tn47, tn48, tn49, tn471, tn472, Int.reduceToNat, Int.toNat_natCast, Int.reduceAdd, Int.reduceSub, Int.reduceMul, Int.reduceNeg, Nat.reduceAdd, Nat.reduceSub, Nat.reduceMul, Heard_addFit_L50, Heard_addFit_L50_b, Int.cast_ofNat_Int]
    refine ⟨_, rfl, b1.tr (r1.mono (by decide)), fun j j8 j9 => by rw [r1.1 33 (by decide)]; exact b2 j j8 j9, by rw [r1.1 33 (by decide), b3, hlen], by rw [r1.1 33 (by decide)]; exact b4, fun i hi => by rw [r1.1 37 (by decide)]; exact b5 i (by omega), r2⟩
  · rintro n k x hk ⟨r1, r2, r3⟩
    right
    have e38 := r3 k (Nat.le_refl _) hk
    simp (disch := omega) only [Option.bind_some, if_true, if_false, not_true_eq_false, not_false_eq_true, z0, ii_add, ii_sub, ii_mul, ifLeT, ifLeF, ifLtT, ifLtF, ifEqT, ifEqF, ifNeT, ifNeF, ifIn, nixZ, ii_i64, o0, o1, isInT, isInF, tn14, tn12, tn2, tn21, tn47, tn48, tn49, tn471, tn472, Int.reduceToNat, Int.toNat_natCast, Int.reduceAdd, Int.reduceSub, Int.reduceMul, Int.reduceNeg, Nat.reduceAdd, Nat.reduceSub, Nat.reduceMul, Heard_addFit_L50, Heard_addFit_L50_b, e38, sh_1]
    refine ⟨_, rfl, r1.pI (by decide), fun c hc => ?_, fun c hc1 hc2 => ?_⟩
    · rw [wI_self]
      by_cases e : c = k
      · rw [e, upd_self, cntM_s]
      · rw [upd_ne e]; exact r2 c (by omega)
    · rw [wI_self, upd_ne (by omega)]; exact r3 c (by omega) hc2
theorem kM_lo {n : Nat} (h2 : 2 ≤ n) (h5 : n ≤ 5) : 2 ≤ 2 ^ (n - 1) ∧ 2 ^ (n - 1) ≤ 16 ∧ bitI ((n : Int) - 1) = ii ((2 ^ (n - 1) : Nat) : Int) := by
  rcases (show n = 2 ∨ n = 3 ∨ n = 4 ∨ n = 5 by omega) with e | e | e | e <;> subst e <;> decide
theorem C_scanW {h0 a : AH} (C : CH hd o h0) (ho : o = 43 ∨ o = 49) (W : HW hd) (H : HEw hd he) {wo : Int} {n c : Nat} (h2 : 2 ≤ n) (h5 : n ≤ 5) (hc : (c : Int) < cellsM hd) (ey : h0.1 33 6 = yesM he wo he.length) (en : h0.1 33 7 = noM he wo he.length) {l : FL} (hl : l.length ≤ c * 2 ^ (n - 1)) (F : FS hd l h0 a) : ∃ a', Heard_scan_L57 FU o (ii n) (ii c) (ii 0) a = some a' ∧ FS hd (l ++ fiW hd he wo n c (2 ^ (n - 1))) h0 a' := by
  have hcl := W.cells
  obtain ⟨k2, k16, kb⟩ := kM_lo h2 h5
  have hlc : l.length + 2 ^ (n - 1) ≤ 480 := by
    have : c * 2 ^ (n - 1) + 2 ^ (n - 1) ≤ 30 * 16 := by
      have h1 : c * 2 ^ (n - 1) + 2 ^ (n - 1) = (c + 1) * 2 ^ (n - 1) := by rw [Nat.add_mul]; omega
      rw [h1]
      exact Nat.mul_le_mul (by omega) k16
    omega
  have kb' : p_HF_bit (ii ((n : Int) - 1)) = ii ((2 ^ (n - 1) : Nat) : Int) := kb
  refine lup (fun m k (x : AH) => Heard_scan_L57 m o (ii n) (ii c) (ii k) x) (2 ^ (n - 1)) (fun k x => FS hd (l ++ fiW hd he wo n c k) h0 x) (fun x => ∃ a', x = some a' ∧ FS hd (l ++ fiW hd he wo n c (2 ^ (n - 1))) h0 a') ?_ ?_ (2 ^ (n - 1)) 0 FU a (by omega) (by unfold FU; omega) (by simpa [fiW] using F)
  · rintro m x r
    simp (disch := omega) only [Option.bind_some, if_true, if_false, not_true_eq_false, not_false_eq_true, z0, ii_add, ii_sub, ii_mul, ifLeT, ifLeF, ifLtT, ifLtF, ifEqT, ifEqF, ifNeT, ifNeF, ifIn, nixZ, ii_i64, o0, o1, isInT, isInF, tn14, tn12, tn2, tn21, tn47, tn48, tn49, tn471, tn472, Int.reduceToNat, Int.toNat_natCast, Int.reduceAdd, Int.reduceSub, Int.reduceMul, Int.reduceNeg, Nat.reduceAdd, Nat.reduceSub, Nat.reduceMul, Heard_scan_L57, Heard_scan_L57_b, kb']
    exact ⟨_, rfl, r⟩
  · rintro m k x hk r
    right
    have Cx : CH hd o x := C.ag (fun i hi => r.1.1 (o + i) (by rcases ho with e | e <;> subst e <;> simp <;> omega))
    have ex := C_line Cx W (w := k) h2 h5 hc
    have e6 : x.1 33 6 = yesM he wo he.length := by rw [r.2.1 6 (by decide) (by decide)]; exact ey
    have e7 : x.1 33 7 = noM he wo he.length := by rw [r.2.1 7 (by decide) (by decide)]; exact en
    have hfl := fiW_len (hd := hd) (he := he) wo n c k
    cases e : linM hd n c k with
    | none =>
      rw [e] at ex
      simp only [Option.getD_none] at ex
      simp (disch := omega) only [Option.bind_some, if_true, if_false, not_true_eq_false, not_false_eq_true, z0, ii_add, ii_sub, ii_mul, ifLeT, ifLeF, ifLtT, ifLtF, ifEqT, ifEqF, ifNeT, ifNeF, ifIn, nixZ, ii_i64, o0, o1, isInT, isInF, tn14, tn12, tn2, tn21, tn47, tn48, tn49, tn471, tn472, Int.reduceToNat, Int.toNat_natCast, Int.reduceAdd, Int.reduceSub, Int.reduceMul, Int.reduceNeg, Nat.reduceAdd, Nat.reduceSub, Nat.reduceMul, Heard_scan_L57, Heard_scan_L57_b, kb', ex]
      exact ⟨_, rfl, by rw [fiW_N e]; exact r⟩
    | some b =>
      rw [e] at ex
      simp only [Option.getD_some] at ex
      have hok : okLi b := lnM_ok W _ _ _ _ _ (okLi_bit (by omega) (by omega)) e
      have hb0 : ¬ b = ii 0 := hok.1
      by_cases s : soM he b wo
      · obtain ⟨s1, s2⟩ := (so_iff (Or.inr W) H b wo).mp s
        have ec : (c : Int) * 100 + k = ((100 * c + k : Nat) : Int) := by omega
        obtain ⟨a', ea, Fa⟩ := C_addFit r (by simp only [List.length_append]; omega) (100 * c + k) b
        simp (disch := omega) only [Option.bind_some, if_true, if_false, not_true_eq_false, not_false_eq_true, z0, ii_add, ii_sub, ii_mul, ifLeT, ifLeF, ifLtT, ifLtF, ifEqT, ifEqF, ifNeT, ifNeF, ifIn, nixZ, ii_i64, o0, o1, isInT, isInF, tn14, tn12, tn2, tn21, tn47, tn48, tn49, tn471, tn472, Int.reduceToNat, Int.toNat_natCast, Int.reduceAdd, Int.reduceSub, Int.reduceMul, Int.reduceNeg, Nat.reduceAdd, Nat.reduceSub, Nat.reduceMul, Heard_scan_L57, Heard_scan_L57_b, kb', ex, hb0, e6, e7, s1, s2, ec, ea]
        exact ⟨_, rfl, by rw [fiW_T e s, ← List.append_assoc]; exact Fa⟩
      · have s' := fun z => s ((so_iff (Or.inr W) H b wo).mpr z)
        by_cases s1 : b &&& yesM he wo he.length = yesM he wo he.length
        · have s2 : ¬ b &&& noM he wo he.length = ii 0 := fun z => s' ⟨s1, z⟩
          simp (disch := omega) only [Option.bind_some, if_true, if_false, not_true_eq_false, not_false_eq_true, z0, ii_add, ii_sub, ii_mul, ifLeT, ifLeF, ifLtT, ifLtF, ifEqT, ifEqF, ifNeT, ifNeF, ifIn, nixZ, ii_i64, o0, o1, isInT, isInF, tn14, tn12, tn2, tn21, tn47, tn48, tn49, tn471, tn472, Int.reduceToNat, Int.toNat_natCast, Int.reduceAdd, Int.reduceSub, Int.reduceMul, Int.reduceNeg, Nat.reduceAdd, Nat.reduceSub, Nat.reduceMul, Heard_scan_L57, Heard_scan_L57_b, kb', ex, hb0, e6, e7, s1, s2]
          exact ⟨_, rfl, by rw [fiW_F e s]; exact r⟩
        · simp (disch := omega) only [Option.bind_some, if_true, if_false, not_true_eq_false, not_false_eq_true, z0, ii_add, ii_sub, ii_mul, ifLeT, ifLeF, ifLtT, ifLtF, ifEqT, ifEqF, ifNeT, ifNeF, ifIn, nixZ, ii_i64, o0, o1, isInT, isInF, tn14, tn12, tn2, tn21, tn47, tn48, tn49, tn471, tn472, Int.reduceToNat, Int.toNat_natCast, Int.reduceAdd, Int.reduceSub, Int.reduceMul, Int.reduceNeg, Nat.reduceAdd, Nat.reduceSub, Nat.reduceMul, Heard_scan_L57, Heard_scan_L57_b, kb', ex, hb0, e6, e7, s1]
          exact ⟨_, rfl, by rw [fiW_F e s]; exact r⟩
theorem C_scan0 {h1 b : AH} {n : Nat} (b1 : Ag [33, 37, 38] h1 b) (b2 : ∀ j, j ≠ 8 → j ≠ 9 → b.1 33 j = h1.1 33 j) (b3 : b.1 33 8 = ii 0) (b4 : b.1 33 9 = andM hd []) : ∃ b', Heard_scan_L21 FU o (ii n) (ii 0) b = some b' ∧ FS hd [] h1 b' := by
  refine lup (fun m k (x : AH) => Heard_scan_L21 m o (ii n) (ii k) x) 30 (fun k x => Ag [38] b x ∧ ∀ c, c < k → x.1 38 c = ii 0) (fun x => ∃ b', x = some b' ∧ FS hd [] h1 b') ?_ ?_ 30 0 FU b (by omega) (by unfold FU; omega) ⟨Ag.rf _ _, fun c hc => by omega⟩
  · rintro m x ⟨r1, r2⟩
    simp (disch := omega) only [Option.bind_some, if_true, if_false, not_true_eq_false, not_false_eq_true, z0, ii_add, ii_sub, ii_mul, ifLeT, ifLeF, ifLtT, ifLtF, ifEqT, ifEqF, ifNeT, ifNeF, ifIn, nixZ, ii_i64, o0, o1, isInT, isInF, tn14, tn12, tn2, tn21, tn47, tn48, tn49, tn471, tn472, Int.reduceToNat, Int.toNat_natCast, Int.reduceAdd, Int.reduceSub, Int.reduceMul, Int.reduceNeg, Nat.reduceAdd, Nat.reduceSub, Nat.reduceMul, Heard_scan_L21, Heard_scan_L21_b, Int.cast_ofNat_Int]
    exact ⟨_, rfl, b1.tr (r1.mono (by decide)), fun j j8 j9 => by rw [r1.1 33 (by decide)]; exact b2 j j8 j9, by rw [r1.1 33 (by decide), b3]; rfl, by rw [r1.1 33 (by decide)]; exact b4, fun i hi => by simp at hi, r2⟩
  · rintro m k x hk ⟨r1, r2⟩
    right
    simp (disch := omega) only [Option.bind_some, if_true, if_false, not_true_eq_false, not_false_eq_true, z0, ii_add, ii_sub, ii_mul, ifLeT, ifLeF, ifLtT, ifLtF, ifEqT, ifEqF, ifNeT, ifNeF, ifIn, nixZ, ii_i64, o0, o1, isInT, isInF, tn14, tn12, tn2, tn21, tn47, tn48, tn49, tn471, tn472, Int.reduceToNat, Int.toNat_natCast, Int.reduceAdd, Int.reduceSub, Int.reduceMul, Int.reduceNeg, Nat.reduceAdd, Nat.reduceSub, Nat.reduceMul, Heard_scan_L21, Heard_scan_L21_b]
    refine ⟨_, rfl, r1.pI (by decide), fun c hc => ?_⟩
    rw [wI_self]
    by_cases e : c = k
    · rw [e, upd_self]
    · rw [upd_ne e]; exact r2 c (by omega)
theorem C_scanC {h1 b' : AH} (C1 : CH hd o h1) (ho : o = 43 ∨ o = 49) (W : HW hd) (H : HEw hd he) {wo : Int} {n : Nat} (h2 : 2 ≤ n) (h5 : n ≤ 5) (g3 : h1.1 33 6 = yesM he wo he.length) (g4 : h1.1 33 7 = noM he wo he.length) (Fb : FS hd [] h1 b') : ∃ a, Heard_scan_L45 FU o (ii n) (ii 0) b' = some a ∧ FS hd (fiC hd he wo n (cellsM hd).toNat) h1 a := by
  have hcl := W.cells
  refine lup (fun m k (x : AH) => Heard_scan_L45 m o (ii n) (ii k) x) (cellsM hd).toNat (fun k x => FS hd (fiC hd he wo n k) h1 x) (fun x => ∃ a, x = some a ∧ FS hd (fiC hd he wo n (cellsM hd).toNat) h1 a) ?_ ?_ (cellsM hd).toNat 0 FU b' (by omega) (by unfold FU; omega) Fb
  · rintro m x r
    have Cx : CH hd o x := C1.ag (fun i hi => r.1.1 (o + i) (by rcases ho with e | e <;> subst e <;> simp <;> omega))
    simp (disch := omega) only [Option.bind_some, if_true, if_false, not_true_eq_false, not_false_eq_true, z0, ii_add, ii_sub, ii_mul, ifLeT, ifLeF, ifLtT, ifLtF, ifEqT, ifEqF, ifNeT, ifNeF, ifIn, nixZ, ii_i64, o0, o1, isInT, isInF, tn14, tn12, tn2, tn21, tn47, tn48, tn49, tn471, tn472, Int.reduceToNat, Int.toNat_natCast, Int.reduceAdd, Int.reduceSub, Int.reduceMul, Int.reduceNeg, Nat.reduceAdd, Nat.reduceSub, Nat.reduceMul, Heard_scan_L45, Heard_scan_L45_b, Cx.2.2.2.2.1]
    exact ⟨_, rfl, r⟩
  · rintro m k x hk r
    right
    have Cx : CH hd o x := C1.ag (fun i hi => r.1.1 (o + i) (by rcases ho with e | e <;> subst e <;> simp <;> omega))
    obtain ⟨x', ex, Fx⟩ := C_scanW C1 ho W H (wo := wo) h2 h5 (c := k) (by omega) g3 g4 (fiC_len wo n k) r
    simp (disch := omega) only [Option.bind_some, if_true, if_false, not_true_eq_false, not_false_eq_true, z0, ii_add, ii_sub, ii_mul, ifLeT, ifLeF, ifLtT, ifLtF, ifEqT, ifEqF, ifNeT, ifNeF, ifIn, nixZ, ii_i64, o0, o1, isInT, isInF, tn14, tn12, tn2, tn21, tn47, tn48, tn49, tn471, tn472, Int.reduceToNat, Int.toNat_natCast, Int.reduceAdd, Int.reduceSub, Int.reduceMul, Int.reduceNeg, Nat.reduceAdd, Nat.reduceSub, Nat.reduceMul, Heard_scan_L45, Heard_scan_L45_b, Cx.2.2.2.2.1, ex]
    exact ⟨_, rfl, Fx⟩
theorem C_scan (C : CH hd o h) (ho : o = 43 ∨ o = 49) (CE : CHe he h) (W : HW hd) (H : HEw hd he) {wo : Int} {n : Nat} (h2 : 2 ≤ n) (h5 : n ≤ 5) (w0 : -1 ≤ wo) (w1 : wo < 100) : ∃ a, f_Heard_scan o (ii n) (ii wo) h = some a ∧ Ag [33, 37, 38] h a ∧ a.1 33 5 = h.1 33 5 ∧ a.1 33 8 = ii (fiC hd he wo n (cellsM hd).toNat).length ∧ a.1 33 9 = andM hd (fiC hd he wo n (cellsM hd).toNat) ∧ (∀ i, i < (fiC hd he wo n (cellsM hd).toNat).length → a.1 37 i = ii ((fiC hd he wo n (cellsM hd).toNat).getD i (0, 0)).1) ∧ ∀ c, c < 30 → a.1 38 c = ii (cntM (fiC hd he wo n (cellsM hd).toNat) c) := by
  have hcl := W.cells
  obtain ⟨h1, e1, g1, g2, g3, g4⟩ := C_gather CE (Or.inr W) H w0 w1
  have C1 : CH hd o h1 := C.ag (fun i hi => g1.1 (o + i) (by rcases ho with e | e <;> subst e <;> simp <;> omega))
  unfold f_Heard_scan
  rw [bind_eq e1]
  obtain ⟨b, hb⟩ : ∃ b, b = wI (wI h1 33 8 (ii 0)) 33 9 (p_Heath_allCells o (wI h1 33 8 (ii 0))) := ⟨_, rfl⟩
  rw [← hb]
  have b1 : Ag [33, 37, 38] h1 b := by rw [hb]; exact ((Ag.rf _ _).pI (by decide)).pI (by decide)
  have b2 : ∀ j, j ≠ 8 → j ≠ 9 → b.1 33 j = h1.1 33 j := by
    intro j j8 j9
    rw [hb, wI_self, upd_ne j9, wI_self, upd_ne j8]
  have b3 : b.1 33 8 = ii 0 := by rw [hb, wI_self, upd_ne (by decide), wI_self, upd_self]
  have b4 : b.1 33 9 = andM hd [] := by
    rw [hb, wI_self, upd_self]
    unfold p_Heath_allCells
    rw [wI_ne (by rcases ho with e | e <;> subst e <;> decide), C1.2.2.2.2.1]
    rfl
  clear hb
  have st := C_scan0 (o := o) (n := n) b1 b2 b3 b4
  obtain ⟨b', eb, Fb⟩ := st
  rw [bind_eq eb]
  have fin := C_scanC C1 ho W H (wo := wo) h2 h5 g3 g4 Fb
  obtain ⟨a, ea, Fa⟩ := fin
  refine ⟨a, ea, (g1.mono (by decide)).tr Fa.1, by rw [Fa.2.1 5 (by decide) (by decide), g2 5 (by decide) (by decide)], Fa.2.2.1, Fa.2.2.2.1, Fa.2.2.2.2.1, Fa.2.2.2.2.2⟩
end H2
