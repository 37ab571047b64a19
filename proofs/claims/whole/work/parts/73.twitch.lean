/-! twitches -/
def mxM (a b : Int) : Int := if a < b then b else a
theorem mx_ii {a b : Int} (h1 : -2147483648 ≤ a) (h2 : a ≤ 2147483647) (h3 : -2147483648 ≤ b) (h4 : b ≤ 2147483647) : p_Math_max (ii a) (ii b) = ii (mxM a b) := by
  unfold p_Math_max mxM
  by_cases q : a < b
  · rw [if_pos q]; simp (disch := omega) only [Option.bind_some, if_true, if_false, not_true_eq_false, not_false_eq_true, z0, ii_add, ii_sub, ii_mul, ifLeT, ifLeF, ifLtT, ifLtF, ifEqT, ifEqF, ifNeT, ifNeF, ifIn, nixZ, ii_i64, o0, o1, isInT, isInF, tn14, tn12, tn2, tn21, tn47, tn48, tn49, tn471, tn472, Int.reduceToNat, Int.toNat_natCast, Int.reduceAdd, Int.reduceSub, Int.reduceMul, Int.reduceNeg, Nat.reduceAdd, Nat.reduceSub, Nat.reduceMul]
  · rw [if_neg q]; simp (disch := omega) only [Option.bind_some, if_true, if_false, not_true_eq_false, not_false_eq_true, z0, ii_add, ii_sub, ii_mul, ifLeT, ifLeF, ifLtT, ifLtF, ifEqT, ifEqF, ifNeT, ifNeF, ifIn, nixZ, ii_i64, o0, o1, isInT, isInF, tn14, tn12, tn2, tn21, tn47, tn48, tn49, tn471, tn472, Int.reduceToNat, Int.toNat_natCast, Int.reduceAdd, Int.reduceSub, Int.reduceMul, Int.reduceNeg, Nat.reduceAdd, Nat.reduceSub, Nat.reduceMul]
theorem mx_lo {a b n : Int} (h1 : 0 ≤ a) (h2 : a ≤ n) (h4 : b ≤ n) : 0 ≤ mxM a b ∧ mxM a b ≤ n := by unfold mxM; split <;> omega
section TW
variable {hd : Nat → Int} {d : DY} {o wr p a : Nat} {h g : AH}
theorem thM_lo2 {b : Nat} {c : Int} : ∀ (n k : Nat), (∀ i, k ≤ i → i < k + n → 1 ≤ hd (b + 2 * i + 1) ∧ hd (b + 2 * i + 1) ≤ 9) → thM hd b c (-1) n k = -1 ∨ (1 ≤ thM hd b c (-1) n k ∧ thM hd b c (-1) n k ≤ 9)
  | 0, k, _ => Or.inl rfl
  | n + 1, k, h => by
    unfold thM
    split
    · exact Or.inr (h k (Nat.le_refl _) (by omega))
    · exact thM_lo2 n (k + 1) (fun i h1 h2 => h i (by omega) (by omega))
theorem irM_lo (W : HW hd) (c : Int) : irM hd c = -1 ∨ (1 ≤ irM hd c ∧ irM hd c ≤ 9) := by
  have hw := W.1
  unfold irM
  exact thM_lo2 _ 0 (fun i _ h => by have := W.2.2.1 i (by omega); omega)
/-- how many others are in a cell -/
def othT (d : DY) (f c k : Nat) : Int := if k ≠ f ∧ vI (d (2 * k)) = c then 1 else 0
def othM (hd : Nat → Int) (d : DY) (f c : Nat) : Int := sumN (othT d f c) (hd 7).toNat
theorem othM_lo (W : HW hd) (f c : Nat) : 0 ≤ othM hd d f c ∧ othM hd d f c ≤ 6 := by
  have hw := W.1
  have h1 := sumN_lo (f := othT d f c) (a := 0) (b := 1) (n := (hd 7).toNat) (fun i hi => by unfold othT; split <;> omega)
  unfold othM
  omega
theorem C_oth (M : MR hd d wr (mvO h p)) (V : DW hd d) (W : HW hd) {f c : Nat} (hf : f < 6) (hc : c < 30) : f_Moor_othersIn p (ii c) (ii f) (ii (hd 7)) h = some (ii (othM hd d f c)) := by
  have hw := W.1
  have hcl := W.cells
  unfold f_Moor_othersIn othM
  refine lup (fun n k (x : Int) => Moor_othersIn_L6 n p (ii c) (ii f) (ii (hd 7)) (ii x) (ii k) h) (hd 7).toNat (fun k x => x = sumN (othT d f c) k) (fun x => x = some (ii (sumN (othT d f c) (hd 7).toNat))) ?_ ?_ (hd 7).toNat 0 FU 0 (by omega) (by unfold FU; omega) rfl
  · rintro n x r
    subst r
    simp (disch := omega) only [Option.bind_some, if_true, if_false, not_true_eq_false, not_false_eq_true, z0, ii_add, ii_sub, ii_mul, ifLeT, ifLeF, ifLtT, ifLtF, ifEqT, ifEqF, ifNeT, ifNeF, ifIn, nixZ, ii_i64, o0, o1, isInT, isInF, tn14, tn12, tn2, tn21, tn47, tn48, tn49, tn471, tn472, Int.reduceToNat, Int.toNat_natCast, Int.reduceAdd, Int.reduceSub, Int.reduceMul, Int.reduceNeg, Nat.reduceAdd, Nat.reduceSub, Nat.reduceMul, Moor_othersIn_L6, Moor_othersIn_L6_b]
  · rintro n k x hk r
    subst r
    right
    have hkf : (k : Int) < hd 7 := by omega
    have hp := V.plc (Or.inr W) hkf
    have ep := C_placeOf M W hkf
    rw [vI_ii (d (2 * k))] at ep
    have et : sumN (othT d f c) (k + 1) = sumN (othT d f c) k + (if k ≠ f ∧ vI (d (2 * k)) = c then 1 else 0) := rfl
    rw [et]
    by_cases q1 : k = f
    · rw [if_neg (fun z => z.1 q1)]
      simp (disch := omega) only [Option.bind_some, if_true, if_false, not_true_eq_false, not_false_eq_true, z0, ii_add, ii_sub, ii_mul, ifLeT, ifLeF, ifLtT, ifLtF, ifEqT, ifEqF, ifNeT, ifNeF, ifIn, nixZ, ii_i64, o0, o1, isInT, isInF, tn14, tn12, tn2, tn21, tn47, tn48, tn49, tn471, tn472, Int.reduceToNat, Int.toNat_natCast, Int.reduceAdd, Int.reduceSub, Int.reduceMul, Int.reduceNeg, Nat.reduceAdd, Nat.reduceSub, Nat.reduceMul, Moor_othersIn_L6, Moor_othersIn_L6_b]
      exact ⟨_, rfl, rfl⟩
    · by_cases q2 : vI (d (2 * k)) = c
      · rw [if_pos ⟨q1, q2⟩]
        simp (disch := omega) only [Option.bind_some, if_true, if_false, not_true_eq_false, not_false_eq_true, z0, ii_add, ii_sub, ii_mul, ifLeT, ifLeF, ifLtT, ifLtF, ifEqT, ifEqF, ifNeT, ifNeF, ifIn, nixZ, ii_i64, o0, o1, isInT, isInF, tn14, tn12, tn2, tn21, tn47, tn48, tn49, tn471, tn472, Int.reduceToNat, Int.toNat_natCast, Int.reduceAdd, Int.reduceSub, Int.reduceMul, Int.reduceNeg, Nat.reduceAdd, Nat.reduceSub, Nat.reduceMul, Moor_othersIn_L6, Moor_othersIn_L6_b, ep]
        exact ⟨_, rfl, rfl⟩
      · rw [if_neg (fun z => q2 z.2)]
        simp (disch := omega) only [Option.bind_some, if_true, if_false, not_true_eq_false, not_false_eq_true, z0, ii_add, ii_sub, ii_mul, ifLeT, ifLeF, ifLtT, ifLtF, ifEqT, ifEqF, ifNeT, ifNeF, ifIn, nixZ, ii_i64, o0, o1, isInT, isInF, tn14, tn12, tn2, tn21, tn47, tn48, tn49, tn471, tn472, Int.reduceToNat, Int.toNat_natCast, Int.reduceAdd, Int.reduceSub, Int.reduceMul, Int.reduceNeg, Nat.reduceAdd, Nat.reduceSub, Nat.reduceMul, Moor_othersIn_L6, Moor_othersIn_L6_b, ep]
        exact ⟨_, rfl, rfl⟩
/-- the letters of a law -/
def ltM (hd : Nat → Int) (d : DY) (f c : Nat) (j : Nat) : Int := if j = 0 then (if watM hd c (vI (d 45)) = -1 then 99 else watM hd c (vI (d 45))) else if j = 1 then fkM hd f 1 else if j = 2 then (if irM hd c = -1 then 99 else irM hd c) else if j = 3 then (if fkM hd f 3 = c then 1 else 0) else if j = 4 then vI (d 45) else if j = 5 then 1 + othM hd d f c else 0
theorem ltM_lo (W : HW hd) (V : DW hd d) {f c : Nat} (hf : (f : Int) < hd 7) (j : Nat) : 0 ≤ ltM hd d f c j ∧ ltM hd d f c j ≤ 99 := by
  have h1 := watM_lo W c (vI (d 45))
  have h2 := irM_lo W c
  have h3 := othM_lo W (d := d) f c
  have h4 := W.2.2.2.2 f hf
  have h5 := V.sea
  unfold ltM
  repeat' split <;> try omega
def plM (hd : Nat → Int) (d : DY) (f c : Nat) : Int := if fkM hd f 3 = c then mxM (if irM hd c = -1 ∨ fkM hd f 2 < irM hd c then (if watM hd c (vI (d 45)) = -1 then 0 else mxM 0 (fkM hd f 1 - watM hd c (vI (d 45)) + 1)) else mxM (if watM hd c (vI (d 45)) = -1 then 0 else mxM 0 (fkM hd f 1 - watM hd c (vI (d 45)) + 1)) 10) 5 else (if irM hd c = -1 ∨ fkM hd f 2 < irM hd c then (if watM hd c (vI (d 45)) = -1 then 0 else mxM 0 (fkM hd f 1 - watM hd c (vI (d 45)) + 1)) else mxM (if watM hd c (vI (d 45)) = -1 then 0 else mxM 0 (fkM hd f 1 - watM hd c (vI (d 45)) + 1)) 10)
theorem wiM_eq (W : HW hd) {f c : Nat} (hf : (f : Int) < hd 7) (hc : (c : Int) < cellsM hd) : (wiM hd f = c) ↔ fkM hd f 3 = c := by
  unfold wiM
  split
  · exact Iff.rfl
  · constructor
    · intro z; omega
    · intro z; omega
theorem M_seaP (M : MR hd d wr (mvO h p)) : h.1 p 8 = ii (vI (d 45)) := by
  have : h.1 p 8 = d 45 := M.2.2.2.2.2.2.2
  rw [this]; exact vI_ii _
/-- the greatest so far, by water; then by iron -/
def pw1 (hd : Nat → Int) (d : DY) (f c : Nat) : Int := if watM hd c (vI (d 45)) = -1 then 0 else mxM 0 (fkM hd f 1 - watM hd c (vI (d 45)) + 1)
def pw2 (hd : Nat → Int) (d : DY) (f c : Nat) : Int := if irM hd c = -1 ∨ fkM hd f 2 < irM hd c then pw1 hd d f c else mxM (pw1 hd d f c) 10
theorem pw1_lo (W : HW hd) {f : Nat} (hf : (f : Int) < hd 7) (c : Nat) : 0 ≤ pw1 hd d f c ∧ pw1 hd d f c ≤ 61 := by
  have h1 := watM_lo W c (vI (d 45))
  have h4 := W.2.2.2.2 f hf
  unfold pw1
  split
  · omega
  · exact mx_lo (by omega) (by omega) (by omega)
theorem pw2_lo (W : HW hd) {f : Nat} (hf : (f : Int) < hd 7) (c : Nat) : 0 ≤ pw2 hd d f c ∧ pw2 hd d f c ≤ 61 := by
  have := pw1_lo W (d := d) hf c
  unfold pw2
  split
  · exact this
  · exact mx_lo (by omega) (by omega) (by omega)
theorem plM_e (f c : Nat) : plM hd d f c = if fkM hd f 3 = c then mxM (pw2 hd d f c) 5 else pw2 hd d f c := rfl
theorem plM_lo (W : HW hd) {f : Nat} (hf : (f : Int) < hd 7) (c : Nat) : 0 ≤ plM hd d f c ∧ plM hd d f c ≤ 61 := by
  have := pw2_lo W (d := d) hf c
  rw [plM_e]
  split
  · exact mx_lo (by omega) (by omega) (by omega)
  · exact this
theorem C_plain (E : h.2.2 0 13 = o) (C : CH hd o h) (M : MR hd d wr (mvO h p)) (V : DW hd d) (W : HW hd) {f c : Nat} (hf : (f : Int) < hd 7) (hc : (c : Int) < cellsM hd) : f_HF_plainTwitch p (ii f) (ii c) h = some (ii (plM hd d f c)) := by
  have hcl := W.cells
  have hs := V.sea
  have h1 := watM_lo W c (vI (d 45))
  have h2 := irM_lo W c
  have h4 := W.2.2.2.2 f hf
  have h5 := pw1_lo W (d := d) hf c
  have h6 := pw2_lo W (d := d) hf c
  have hwi := wiM_eq W hf hc
  have hwl : -1 ≤ wiM hd f ∧ wiM hd f ≤ 30 := by unfold wiM; split <;> omega
  unfold f_HF_plainTwitch
  rw [E, M_seaP M, bind_eq (C_waterIn C W (c := c) (s := vI (d 45)) (by omega) hc (by omega) (by omega))]
  have s1 : (if ii (watM hd c (vI (d 45))) = ii (-1) then some (ii 0) else (f_Heath_trait o (ii f) (ii 1) h).bind fun q2 => some (p_Math_max (ii 0) (q2 - ii (watM hd c (vI (d 45))) + ii 1))) = some (ii (pw1 hd d f c)) := by
    unfold pw1
    by_cases q : watM hd c (vI (d 45)) = -1
    · rw [if_pos q]; simp (disch := omega) only [Option.bind_some, if_true, if_false, not_true_eq_false, not_false_eq_true, z0, ii_add, ii_sub, ii_mul, ifLeT, ifLeF, ifLtT, ifLtF, ifEqT, ifEqF, ifNeT, ifNeF, ifIn, nixZ, ii_i64, o0, o1, isInT, isInF, tn14, tn12, tn2, tn21, tn47, tn48, tn49, tn471, tn472, Int.reduceToNat, Int.toNat_natCast, Int.reduceAdd, Int.reduceSub, Int.reduceMul, Int.reduceNeg, Nat.reduceAdd, Nat.reduceSub, Nat.reduceMul, q]
    · rw [if_neg q]; simp (disch := omega) only [Option.bind_some, if_true, if_false, not_true_eq_false, not_false_eq_true, z0, ii_add, ii_sub, ii_mul, ifLeT, ifLeF, ifLtT, ifLtF, ifEqT, ifEqF, ifNeT, ifNeF, ifIn, nixZ, ii_i64, o0, o1, isInT, isInF, tn14, tn12, tn2, tn21, tn47, tn48, tn49, tn471, tn472, Int.reduceToNat, Int.toNat_natCast, Int.reduceAdd, Int.reduceSub, Int.reduceMul, Int.reduceNeg, Nat.reduceAdd, Nat.reduceSub, Nat.reduceMul, C_t1 C W hf, mx_ii]
  rw [bind_eq s1, bind_eq (C_ironIn C W (c := c) (by omega) hc)]
  have s2 : (if ii (irM hd c) = ii (-1) then some (ii (pw1 hd d f c)) else (f_Heath_trait o (ii f) (ii 2) h).bind fun q5 => if q5 < ii (irM hd c) then some (ii (pw1 hd d f c)) else some (p_Math_max (ii (pw1 hd d f c)) (ii 10))) = some (ii (pw2 hd d f c)) := by
    unfold pw2
    by_cases q : irM hd c = -1
    · rw [if_pos (Or.inl q)]; simp (disch := omega) only [Option.bind_some, if_true, if_false, not_true_eq_false, not_false_eq_true, z0, ii_add, ii_sub, ii_mul, ifLeT, ifLeF, ifLtT, ifLtF, ifEqT, ifEqF, ifNeT, ifNeF, ifIn, nixZ, ii_i64, o0, o1, isInT, isInF, tn14, tn12, tn2, tn21, tn47, tn48, tn49, tn471, tn472, Int.reduceToNat, Int.toNat_natCast, Int.reduceAdd, Int.reduceSub, Int.reduceMul, Int.reduceNeg, Nat.reduceAdd, Nat.reduceSub, Nat.reduceMul, q]
    · by_cases q2 : fkM hd f 2 < irM hd c
      · rw [if_pos (Or.inr q2)]; simp (disch := omega) only [Option.bind_some, if_true, if_false, not_true_eq_false, not_false_eq_true, z0, ii_add, ii_sub, ii_mul, ifLeT, ifLeF, ifLtT, ifLtF, ifEqT, ifEqF, ifNeT, ifNeF, ifIn, nixZ, ii_i64, o0, o1, isInT, isInF, tn14, tn12, tn2, tn21, tn47, tn48, tn49, tn471, tn472, Int.reduceToNat, Int.toNat_natCast, Int.reduceAdd, Int.reduceSub, Int.reduceMul, Int.reduceNeg, Nat.reduceAdd, Nat.reduceSub, Nat.reduceMul, C_t2 C W hf]
      · rw [if_neg (show ¬ (irM hd c = -1 ∨ fkM hd f 2 < irM hd c) by omega)]; simp (disch := omega) only [Option.bind_some, if_true, if_false, not_true_eq_false, not_false_eq_true, z0, ii_add, ii_sub, ii_mul, ifLeT, ifLeF, ifLtT, ifLtF, ifEqT, ifEqF, ifNeT, ifNeF, ifIn, nixZ, ii_i64, o0, o1, isInT, isInF, tn14, tn12, tn2, tn21, tn47, tn48, tn49, tn471, tn472, Int.reduceToNat, Int.toNat_natCast, Int.reduceAdd, Int.reduceSub, Int.reduceMul, Int.reduceNeg, Nat.reduceAdd, Nat.reduceSub, Nat.reduceMul, C_t2 C W hf, mx_ii]
  rw [bind_eq s2, bind_eq (C_t3 C W hf), plM_e]
  by_cases q : fkM hd f 3 = c
  · rw [if_pos q]; simp (disch := omega) only [Option.bind_some, if_true, if_false, not_true_eq_false, not_false_eq_true, z0, ii_add, ii_sub, ii_mul, ifLeT, ifLeF, ifLtT, ifLtF, ifEqT, ifEqF, ifNeT, ifNeF, ifIn, nixZ, ii_i64, o0, o1, isInT, isInF, tn14, tn12, tn2, tn21, tn47, tn48, tn49, tn471, tn472, Int.reduceToNat, Int.toNat_natCast, Int.reduceAdd, Int.reduceSub, Int.reduceMul, Int.reduceNeg, Nat.reduceAdd, Nat.reduceSub, Nat.reduceMul, hwi.mpr q, mx_ii]
  · have : ¬ wiM hd f = c := fun z => q (hwi.mp z)
    rw [if_neg q]; simp (disch := omega) only [Option.bind_some, if_true, if_false, not_true_eq_false, not_false_eq_true, z0, ii_add, ii_sub, ii_mul, ifLeT, ifLeF, ifLtT, ifLtF, ifEqT, ifEqF, ifNeT, ifNeF, ifIn, nixZ, ii_i64, o0, o1, isInT, isInF, tn14, tn12, tn2, tn21, tn47, tn48, tn49, tn471, tn472, Int.reduceToNat, Int.toNat_natCast, Int.reduceAdd, Int.reduceSub, Int.reduceMul, Int.reduceNeg, Nat.reduceAdd, Nat.reduceSub, Nat.reduceMul]
theorem C_tell (E : h.2.2 0 13 = o) (C : CH hd o h) (ho : o = 43 ∨ o = 49) (hp : p = 13 ∨ p = 25) (M : MR hd d wr (mvO h p)) (V : DW hd d) (W : HW hd) {f c : Nat} (hf : (f : Int) < hd 7) (hc : (c : Int) < cellsM hd) : ∃ h1, f_HF_tellLetters p (ii f) (ii c) h = some h1 ∧ Ag [12] h h1 ∧ ∀ j, j < 6 → h1.1 12 j = ii (ltM hd d f c j) := by
  have hcl := W.cells
  have hw := W.1
  have hs := V.sea
  have h1 := watM_lo W c (vI (d 45))
  have h2 := irM_lo W c
  have h4 := W.2.2.2.2 f hf
  have hwi := wiM_eq W hf hc
  have hwl : -1 ≤ wiM hd f ∧ wiM hd f ≤ 30 := by unfold wiM; split <;> omega
  have ch : ∀ y, Ag [12] h y → CH hd o y := fun y hy => C.ag (fun i hi => hy.1 (o + i) (by rcases ho with e | e <;> subst e <;> simp <;> omega))
  have mh : ∀ y, Ag [12] h y → MR hd d wr (mvO y p) := by
    intro y hy
    have : mvO y p = mvO h p := by
      unfold mvO
      rcases hp with e | e <;> subst e <;> rw [hy.1 _ (by decide), hy.1 _ (by decide), hy.1 _ (by decide), hy.1 _ (by decide), hy.1 _ (by decide), hy.1 _ (by decide)]
    rw [this]; exact M
  have a1 : ∀ v1, Ag [12] h (wI h 12 0 v1) := fun v1 => (Ag.rf _ _).pI (by decide)
  have a3 : ∀ v1 v2 v3, Ag [12] h (wI (wI (wI h 12 0 v1) 12 1 v2) 12 2 v3) := fun v1 v2 v3 => ((a1 v1).pI (by decide)).pI (by decide)
  have a4 : ∀ v1 v2 v3 v4, Ag [12] h (wI (wI (wI (wI h 12 0 v1) 12 1 v2) 12 2 v3) 12 3 v4) := fun v1 v2 v3 v4 => (a3 v1 v2 v3).pI (by decide)
  have a5 : ∀ v1 v2 v3 v4 v5, Ag [12] h (wI (wI (wI (wI (wI h 12 0 v1) 12 1 v2) 12 2 v3) 12 3 v4) 12 4 v5) := fun v1 v2 v3 v4 v5 => (a4 v1 v2 v3 v4).pI (by decide)
  have e22 : ∀ y, Ag [12] h y → y.2.2 0 13 = o := fun y hy => by rw [hy.2]; exact E
  have f0 : (if ii (watM hd c (vI (d 45))) = ii (-1) then ii 99 else ii (watM hd c (vI (d 45)))) = ii (ltM hd d f c 0) := by
    show _ = ii (if watM hd c (vI (d 45)) = -1 then 99 else watM hd c (vI (d 45)))
    by_cases q : watM hd c (vI (d 45)) = -1
    · rw [if_pos q]; simp (disch := omega) only [Option.bind_some, if_true, if_false, not_true_eq_false, not_false_eq_true, z0, ii_add, ii_sub, ii_mul, ifLeT, ifLeF, ifLtT, ifLtF, ifEqT, ifEqF, ifNeT, ifNeF, ifIn, nixZ, ii_i64, o0, o1, isInT, isInF, tn14, tn12, tn2, tn21, tn47, tn48, tn49, tn471, tn472, Int.reduceToNat, Int.toNat_natCast, Int.reduceAdd, Int.reduceSub, Int.reduceMul, Int.reduceNeg, Nat.reduceAdd, Nat.reduceSub, Nat.reduceMul, q]
    · rw [if_neg q]; simp (disch := omega) only [Option.bind_some, if_true, if_false, not_true_eq_false, not_false_eq_true, z0, ii_add, ii_sub, ii_mul, ifLeT, ifLeF, ifLtT, ifLtF, ifEqT, ifEqF, ifNeT, ifNeF, ifIn, nixZ, ii_i64, o0, o1, isInT, isInF, tn14, tn12, tn2, tn21, tn47, tn48, tn49, tn471, tn472, Int.reduceToNat, Int.toNat_natCast, Int.reduceAdd, Int.reduceSub, Int.reduceMul, Int.reduceNeg, Nat.reduceAdd, Nat.reduceSub, Nat.reduceMul]
  have f2 : (if ii (irM hd c) = ii (-1) then ii 99 else ii (irM hd c)) = ii (ltM hd d f c 2) := by
    show _ = ii (if irM hd c = -1 then 99 else irM hd c)
    by_cases q : irM hd c = -1
    · rw [if_pos q]; simp (disch := omega) only [Option.bind_some, if_true, if_false, not_true_eq_false, not_false_eq_true, z0, ii_add, ii_sub, ii_mul, ifLeT, ifLeF, ifLtT, ifLtF, ifEqT, ifEqF, ifNeT, ifNeF, ifIn, nixZ, ii_i64, o0, o1, isInT, isInF, tn14, tn12, tn2, tn21, tn47, tn48, tn49, tn471, tn472, Int.reduceToNat, Int.toNat_natCast, Int.reduceAdd, Int.reduceSub, Int.reduceMul, Int.reduceNeg, Nat.reduceAdd, Nat.reduceSub, Nat.reduceMul, q]
    · rw [if_neg q]; simp (disch := omega) only [Option.bind_some, if_true, if_false, not_true_eq_false, not_false_eq_true, z0, ii_add, ii_sub, ii_mul, ifLeT, ifLeF, ifLtT, ifLtF, ifEqT, ifEqF, ifNeT, ifNeF, ifIn, nixZ, ii_i64, o0, o1, isInT, isInF, tn14, tn12, tn2, tn21, tn47, tn48, tn49, tn471, tn472, Int.reduceToNat, Int.toNat_natCast, Int.reduceAdd, Int.reduceSub, Int.reduceMul, Int.reduceNeg, Nat.reduceAdd, Nat.reduceSub, Nat.reduceMul]
  have f3 : (if ii (wiM hd f) = ii c then ii 1 else ii 0) = ii (ltM hd d f c 3) := by
    show _ = ii (if fkM hd f 3 = c then 1 else 0)
    by_cases q : fkM hd f 3 = c
    · rw [if_pos q]; simp (disch := omega) only [Option.bind_some, if_true, if_false, not_true_eq_false, not_false_eq_true, z0, ii_add, ii_sub, ii_mul, ifLeT, ifLeF, ifLtT, ifLtF, ifEqT, ifEqF, ifNeT, ifNeF, ifIn, nixZ, ii_i64, o0, o1, isInT, isInF, tn14, tn12, tn2, tn21, tn47, tn48, tn49, tn471, tn472, Int.reduceToNat, Int.toNat_natCast, Int.reduceAdd, Int.reduceSub, Int.reduceMul, Int.reduceNeg, Nat.reduceAdd, Nat.reduceSub, Nat.reduceMul, hwi.mpr q]
    · have : ¬ wiM hd f = c := fun z => q (hwi.mp z)
      rw [if_neg q]; simp (disch := omega) only [Option.bind_some, if_true, if_false, not_true_eq_false, not_false_eq_true, z0, ii_add, ii_sub, ii_mul, ifLeT, ifLeF, ifLtT, ifLtF, ifEqT, ifEqF, ifNeT, ifNeF, ifIn, nixZ, ii_i64, o0, o1, isInT, isInF, tn14, tn12, tn2, tn21, tn47, tn48, tn49, tn471, tn472, Int.reduceToNat, Int.toNat_natCast, Int.reduceAdd, Int.reduceSub, Int.reduceMul, Int.reduceNeg, Nat.reduceAdd, Nat.reduceSub, Nat.reduceMul]
  unfold f_HF_tellLetters
  rw [E, M_seaP M, bind_eq (C_waterIn C W (c := c) (s := vI (d 45)) (by omega) hc (by omega) (by omega)), bind_eq (C_ironIn C W (c := c) (by omega) hc)]
  have b0 : inb (ii 0) 6 = true := by decide
  have b1 : inb (ii 1) 6 = true := by decide
  have b2 : inb (ii 2) 6 = true := by decide
  have b3 : inb (ii 3) 6 = true := by decide
  have b4 : inb (ii 4) 6 = true := by decide
  have b5 : inb (ii 5) 6 = true := by decide
  simp only [f0, f2, b0, b1, b2, b3, b4, b5, if_true, show (ii 0).toNatClampNeg = 0 from rfl, show (ii 1).toNatClampNeg = 1 from rfl, show (ii 2).toNatClampNeg = 2 from rfl, show (ii 3).toNatClampNeg = 3 from rfl, show (ii 4).toNatClampNeg = 4 from rfl, show (ii 5).toNatClampNeg = 5 from rfl]
  rw [e22 _ (a1 _), bind_eq (C_t1 (ch _ (a1 _)) W hf), e22 _ (a3 _ _ _), bind_eq (C_t3 (ch _ (a3 _ _ _)) W hf)]
  simp only [f3]
  rw [M_seaP (mh _ (a4 _ _ _ _)), Option.bind_some, e22 _ (a5 _ _ _ _ _), (ch _ (a5 _ _ _ _ _)).2.2.2.2.2.1, bind_eq (C_oth (mh _ (a5 _ _ _ _ _)) V W (by omega) (by omega)), ii_add]
  refine ⟨_, rfl, (a5 _ _ _ _ _).pI (by decide), fun j hj => ?_⟩
  simp only [wI_self]
  rcases (show j = 0 ∨ j = 1 ∨ j = 2 ∨ j = 3 ∨ j = 4 ∨ j = 5 by omega) with e | e | e | e | e | e <;> subst e <;> rfl
end TW
