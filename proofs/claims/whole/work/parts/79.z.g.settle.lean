/-! the class settles a heath: the cells -/
section HG
variable {hd : Nat → Int} {o : Nat} {h : AH}
theorem C_cell (hcl : 1 ≤ cellsM hd ∧ cellsM hd ≤ 30) (e9 : h.1 o 9 = ii (cellsM hd)) {c : Int} (c0 : -2147483648 ≤ c) (c1 : c ≤ 2147483647) : p_Heath_isCell o (ii c) h = if 0 ≤ c ∧ c < cellsM hd then ii 1 else ii 0 := by
  unfold p_Heath_isCell
  by_cases q : 0 ≤ c ∧ c < cellsM hd
  · rw [if_pos q]; simp (disch := omega) only [Option.bind_some, if_true, if_false, not_true_eq_false, not_false_eq_true, z0, ii_add, ii_sub, ii_mul, ifLeT, ifLeF, ifLtT, ifLtF, ifEqT, ifEqF, ifNeT, ifNeF, ifIn, nixZ, ii_i64, o0, o1, isInT, isInF, tn14, tn12, tn2, tn21, tn47, tn48, tn49, tn471, tn472, Int.reduceToNat, Int.toNat_natCast, Int.reduceAdd, Int.reduceSub, Int.reduceMul, Int.reduceNeg, Nat.reduceAdd, Nat.reduceSub, Nat.reduceMul, e9]
  · rw [if_neg q]
    by_cases q2 : c < 0
    · simp (disch := omega) only [Option.bind_some, if_true, if_false, not_true_eq_false, not_false_eq_true, z0, ii_add, ii_sub, ii_mul, ifLeT, ifLeF, ifLtT, ifLtF, ifEqT, ifEqF, ifNeT, ifNeF, ifIn, nixZ, ii_i64, o0, o1, isInT, isInF, tn14, tn12, tn2, tn21, tn47, tn48, tn49, tn471, tn472, Int.reduceToNat, Int.toNat_natCast, Int.reduceAdd, Int.reduceSub, Int.reduceMul, Int.reduceNeg, Nat.reduceAdd, Nat.reduceSub, Nat.reduceMul, e9]
    · simp (disch := omega) only [Option.bind_some, if_true, if_false, not_true_eq_false, not_false_eq_true, z0, ii_add, ii_sub, ii_mul, ifLeT, ifLeF, ifLtT, ifLtF, ifEqT, ifEqF, ifNeT, ifNeF, ifIn, nixZ, ii_i64, o0, o1, isInT, isInF, tn14, tn12, tn2, tn21, tn47, tn48, tn49, tn471, tn472, Int.reduceToNat, Int.toNat_natCast, Int.reduceAdd, Int.reduceSub, Int.reduceMul, Int.reduceNeg, Nat.reduceAdd, Nat.reduceSub, Nat.reduceMul, e9]
theorem C_bey (hw : 1 ≤ hd 0 ∧ hd 0 ≤ 6 ∧ 1 ≤ hd 1 ∧ hd 1 ≤ 5) (hcl : 1 ≤ cellsM hd ∧ cellsM hd ≤ 30) (e5 : h.1 o 5 = ii (hd 0)) (e6 : h.1 o 6 = ii (hd 1)) (e9 : h.1 o 9 = ii (cellsM hd)) {c way : Int} (h0 : 0 ≤ c) (h1 : c < cellsM hd) (y0 : 0 ≤ way) (y1 : way ≤ 3) : f_Heath_beyond o (ii c) (ii way) h = some (ii (nb (hd 0) (hd 1) c way)) := by
  have hm := mod_lt6 (c := c) (show 0 < hd 0 by omega)
  have hdv := div_lt (show 0 < hd 0 by omega) h0 (show c < hd 0 * hd 1 from h1)
  have hdm := Int.mul_ediv_add_emod c (hd 0)
  have ecol : f_Heath_columnOf o (ii c) h = some (ii (c % hd 0)) := by
    unfold f_Heath_columnOf
    rw [e5, if_pos (by rw [ii_le (by omega) (by omega) (by omega) (by omega)]; omega), if_pos (by rw [ii_z (by omega) (by omega)]; omega), ii_rem h0 (by omega) (by omega) (by omega)]
  have erow : f_Heath_rowOf o (ii c) h = some (ii (c / hd 0)) := by
    unfold f_Heath_rowOf
    rw [e5, if_pos (by rw [ii_le (by omega) (by omega) (by omega) (by omega)]; omega), if_pos (by rw [ii_z (by omega) (by omega)]; omega), ii_div h0 (by omega) (by omega) (by omega)]
  unfold f_Heath_beyond
  rw [C_cell hcl e9 (by omega) (by omega), if_pos (show 0 ≤ c ∧ c < cellsM hd from ⟨h0, h1⟩), if_neg i10, ecol, erow, e5, e6]
  rcases (show way = 0 ∨ way = 1 ∨ way = 2 ∨ way = 3 by omega) with e | e | e | e
  · subst e
    rw [if_pos rfl]
    show (if ii (hd 0) ≤ ii (c % hd 0) + ii 1 then _ else _) = _
    have e1 : nb (hd 0) (hd 1) c 0 = if c % hd 0 + 1 < hd 0 then c + 1 else -1 := by
      unfold nb
      simp only [show dx 0 = 1 from rfl, show dy 0 = 0 from rfl]
      by_cases q : c % hd 0 + 1 < hd 0
      · rw [if_pos (by omega), if_pos q]
        rw [Int.add_zero, Int.mul_comm]; omega
      · rw [if_neg (by omega), if_neg q]
    rw [ii_add, ii_add, e1]
    simp (disch := omega) only [ii_le]
    by_cases q : c % hd 0 + 1 < hd 0
    · rw [if_neg (by omega), if_pos q]
    · rw [if_pos (by omega), if_neg q]
  · subst e
    rw [if_neg (by decide), if_pos rfl]
    show (if ii (hd 1) ≤ ii (c / hd 0) + ii 1 then _ else _) = _
    have e1 : nb (hd 0) (hd 1) c 1 = if c / hd 0 + 1 < hd 1 then c + hd 0 else -1 := by
      unfold nb
      simp only [show dx 1 = 0 from rfl, show dy 1 = 1 from rfl]
      by_cases q : c / hd 0 + 1 < hd 1
      · rw [if_pos (by omega), if_pos q]
        rw [Int.add_mul, Int.mul_comm]; omega
      · rw [if_neg (by omega), if_neg q]
    rw [ii_add, ii_add, e1]
    simp (disch := omega) only [ii_le]
    by_cases q : c / hd 0 + 1 < hd 1
    · rw [if_neg (by omega), if_pos q]
    · rw [if_pos (by omega), if_neg q]
  · subst e
    rw [if_neg (by decide), if_neg (by decide), if_pos rfl]
    show (if ii (c % hd 0) ≤ 0 then _ else _) = _
    have e1 : nb (hd 0) (hd 1) c 2 = if 0 < c % hd 0 then c - 1 else -1 := by
      unfold nb
      simp only [show dx 2 = -1 from rfl, show dy 2 = 0 from rfl]
      by_cases q : 0 < c % hd 0
      · rw [if_pos (by omega), if_pos q]
        rw [Int.add_zero, Int.mul_comm]; omega
      · rw [if_neg (by omega), if_neg q]
    rw [ii_sub, e1, z0]
    simp (disch := omega) only [ii_le]
    by_cases q : 0 < c % hd 0
    · rw [if_neg (by omega), if_pos q]
    · rw [if_pos (by omega), if_neg q]
  · subst e
    rw [if_neg (by decide), if_neg (by decide), if_neg (by decide), if_pos rfl]
    show (if ii (c / hd 0) ≤ 0 then _ else _) = _
    have e1 : nb (hd 0) (hd 1) c 3 = if 0 < c / hd 0 then c - hd 0 else -1 := by
      unfold nb
      simp only [show dx 3 = 0 from rfl, show dy 3 = -1 from rfl]
      by_cases q : 0 < c / hd 0
      · rw [if_pos (by omega), if_pos q]
        rw [Int.add_mul, Int.mul_comm]; omega
      · rw [if_neg (by omega), if_neg q]
    rw [ii_sub, e1, z0]
    simp (disch := omega) only [ii_le]
    by_cases q : 0 < c / hd 0
    · rw [if_neg (by omega), if_pos q]
    · rw [if_pos (by omega), if_neg q]
theorem C_besB (hw : 1 ≤ hd 0 ∧ hd 0 ≤ 6 ∧ 1 ≤ hd 1 ∧ hd 1 ≤ 5) (hcl : 1 ≤ cellsM hd ∧ cellsM hd ≤ 30) (e5 : h.1 o 5 = ii (hd 0)) (e6 : h.1 o 6 = ii (hd 1)) (e9 : h.1 o 9 = ii (cellsM hd)) {c : Int} (h0 : 0 ≤ c) (h1 : c < cellsM hd) : f_Heath_besideBits o (ii c) h = some (besM hd c) := by
  have st : ∀ (w : Nat) (n : Nat) (x : Int32), w < 4 → Heath_besideBits_L4 (n + 1) o (ii c) x (ii w) h = Heath_besideBits_L4 n o (ii c) (x ||| (if nb (hd 0) (hd 1) c w = -1 then ii 0 else bitI (nb (hd 0) (hd 1) c w))) (ii (w + 1 : Nat)) h := fun w n x hw4 => by
    have e := C_bey hw hcl e5 e6 e9 h0 h1 (way := w) (by omega) (by omega)
    have hin : nb (hd 0) (hd 1) c w ≠ -1 → 0 ≤ nb (hd 0) (hd 1) c w ∧ nb (hd 0) (hd 1) c w < cellsM hd := nb_in (by omega)
    show Heath_besideBits_L4_b _ _ _ _ _ _ = _
    unfold Heath_besideBits_L4_b
    rw [if_neg (by rw [ii_le (by omega) (by omega) (by omega) (by omega)]; omega), bind_eq e, ii_sc]
    by_cases q : nb (hd 0) (hd 1) c w = -1
    · rw [if_pos q, if_pos (by rw [q])]
    · rw [if_neg q, if_neg (by have := hin q; rw [ii_eq (by omega) (by omega) (by omega) (by omega)]; exact q)]
      rfl
  unfold f_Heath_besideBits
  obtain ⟨F, hF⟩ : ∃ F, FU = F + 1 + 1 + 1 + 1 + 1 := ⟨FU - 5, by have := fu_1000; omega⟩
  rw [hF]
  have a0 := st 0 (F + 1 + 1 + 1 + 1) (ii 0) (by omega)
  have a1 := fun x => st 1 (F + 1 + 1 + 1) x (by omega)
  have a2 := fun x => st 2 (F + 1 + 1) x (by omega)
  have a3 := fun x => st 3 (F + 1) x (by omega)
  have a0' : Heath_besideBits_L4 (F + 1 + 1 + 1 + 1 + 1) o (ii c) (ii 0) (ii 0) h = _ := a0
  rw [a0', a1, a2, a3]
  show Heath_besideBits_L4_b _ _ _ _ _ _ = _
  unfold Heath_besideBits_L4_b
  rw [if_pos (by decide)]
  rfl
def SF (o : Nat) (h h1 : AH) : Prop := h1.2 = h.2 ∧ ∀ x, (x < o ∨ o + 6 ≤ x) → h1.1 x = h.1 x
theorem SF.rf (o : Nat) (h : AH) : SF o h h := ⟨rfl, fun _ _ => rfl⟩
theorem SF.tr {h1 h2 : AH} (a : SF o h h1) (b : SF o h1 h2) : SF o h h2 := ⟨b.1.trans a.1, fun x hx => (b.2 x hx).trans (a.2 x hx)⟩
theorem SF.w {x j : Nat} {v : Int32} (hx : o ≤ x ∧ x < o + 6) : SF o h (wI h x j v) := ⟨rfl, fun y hy => wI_ne (by omega)⟩
theorem C_lay (hw : 1 ≤ hd 0 ∧ hd 0 ≤ 6 ∧ 1 ≤ hd 1 ∧ hd 1 ≤ 5) (hcl : 1 ≤ cellsM hd ∧ cellsM hd ≤ 30) : ∃ h1, f_Heath_lay o (ii (hd 0)) (ii (hd 1)) (ii (hd 2)) (ii (hd 3)) h = some h1 ∧ SF o h h1 ∧ (h1.1 o 5 = ii (hd 0) ∧ h1.1 o 6 = ii (hd 1) ∧ h1.1 o 7 = ii (hd 2) ∧ h1.1 o 8 = ii (hd 3) ∧ h1.1 o 9 = ii (cellsM hd) ∧ h1.1 o 11 = ii 0 ∧ h1.1 o 12 = ii 0 ∧ h1.1 o 13 = ii 0) ∧ ∀ c : Nat, (c : Int) < cellsM hd → h1.1 (o + 1) c = ii (-1) ∧ h1.1 (o + 2) c = ii (-1) ∧ h1.1 (o + 3) c = ii 0 ∧ h1.1 (o + 4) c = besM hd c := by
  obtain ⟨hs, ehs⟩ : ∃ hs, hs = (wI (wI (wI (wI (wI (wI (wI (wI (wI h o 5 (ii (hd 0))) o 6 (ii (hd 1))) o 7 (ii (hd 2))) o 8 (ii (hd 3))) o 9 (ii (cellsM hd))) o 10 (ii 0)) o 11 (ii 0)) o 12 (ii 0)) o 13 (ii 0)) := ⟨_, rfl⟩
  have F0 : SF o h hs := by
    rw [ehs]
    exact ((((((((SF.w (by omega)).tr (SF.w (by omega))).tr (SF.w (by omega))).tr (SF.w (by omega))).tr (SF.w (by omega))).tr (SF.w (by omega))).tr (SF.w (by omega))).tr (SF.w (by omega))).tr (SF.w (by omega))
  have hr : ∀ j, hs.1 o j = if j = 13 then ii 0 else if j = 12 then ii 0 else if j = 11 then ii 0 else if j = 10 then ii 0 else if j = 9 then ii (cellsM hd) else if j = 8 then ii (hd 3) else if j = 7 then ii (hd 2) else if j = 6 then ii (hd 1) else if j = 5 then ii (hd 0) else h.1 o j := fun j => by
    rw [ehs]
    simp only [wI_self, upd]
  have e0 : f_Heath_lay o (ii (hd 0)) (ii (hd 1)) (ii (hd 2)) (ii (hd 3)) h = Heath_lay_L62 FU o (ii 0) hs := by
    unfold f_Heath_lay
    generalize FU = F
    have x5 : (wI (wI (wI (wI h o 5 (ii (hd 0))) o 6 (ii (hd 1))) o 7 (ii (hd 2))) o 8 (ii (hd 3))).1 o 5 = ii (hd 0) := by simp only [wI_self, upd]; rfl
    have x6 : (wI (wI (wI (wI h o 5 (ii (hd 0))) o 6 (ii (hd 1))) o 7 (ii (hd 2))) o 8 (ii (hd 3))).1 o 6 = ii (hd 1) := by simp only [wI_self, upd]; rfl
    have em : p_Math_min (ii (hd 0 * hd 1)) (ii 30) = ii (cellsM hd) := by
      have : hd 0 * hd 1 = cellsM hd := rfl
      rw [this]
      unfold p_Math_min
      by_cases q : cellsM hd = 30
      · rw [q]; decide
      · simp (disch := omega) only [Option.bind_some, if_true, if_false, not_true_eq_false, not_false_eq_true, z0, ii_add, ii_sub, ii_mul, ifLeT, ifLeF, ifLtT, ifLtF, ifEqT, ifEqF, ifNeT, ifNeF, ifIn, nixZ, ii_i64, o0, o1, isInT, isInF, tn14, tn12, tn2, tn21, tn47, tn48, tn49, tn471, tn472, Int.reduceToNat, Int.toNat_natCast, Int.reduceAdd, Int.reduceSub, Int.reduceMul, Int.reduceNeg, Nat.reduceAdd, Nat.reduceSub, Nat.reduceMul]
    rw [x5, x6, ii_mul, em, ← ehs]
  rw [e0]
  refine lup (fun u k (x : AH) => Heath_lay_L62 u o (ii k) x) 30 (fun k x => SF o h x ∧ x.1 o = hs.1 o ∧ ∀ c : Nat, c < k → (c : Int) < cellsM hd → x.1 (o + 1) c = ii (-1) ∧ x.1 (o + 2) c = ii (-1) ∧ x.1 (o + 3) c = ii 0 ∧ x.1 (o + 4) c = besM hd c) (fun y => ∃ h1, y = some h1 ∧ SF o h h1 ∧ (h1.1 o 5 = ii (hd 0) ∧ h1.1 o 6 = ii (hd 1) ∧ h1.1 o 7 = ii (hd 2) ∧ h1.1 o 8 = ii (hd 3) ∧ h1.1 o 9 = ii (cellsM hd) ∧ h1.1 o 11 = ii 0 ∧ h1.1 o 12 = ii 0 ∧ h1.1 o 13 = ii 0) ∧ ∀ c : Nat, (c : Int) < cellsM hd → h1.1 (o + 1) c = ii (-1) ∧ h1.1 (o + 2) c = ii (-1) ∧ h1.1 (o + 3) c = ii 0 ∧ h1.1 (o + 4) c = besM hd c) ?_ ?_ 30 0 FU hs (by omega) (by unfold FU; omega) ⟨F0, rfl, fun c hc => by omega⟩
  · rintro u x ⟨r1, r2, r3⟩
    refine ⟨x, ?_, r1, ?_, fun c hc => r3 c (by omega) hc⟩
    · simp (disch := omega) only [Option.bind_some, if_true, if_false, not_true_eq_false, not_false_eq_true, z0, ii_add, ii_sub, ii_mul, ifLeT, ifLeF, ifLtT, ifLtF, ifEqT, ifEqF, ifNeT, ifNeF, ifIn, nixZ, ii_i64, o0, o1, isInT, isInF, tn14, tn12, tn2, tn21, tn47, tn48, tn49, tn471, tn472, Int.reduceToNat, Int.toNat_natCast, Int.reduceAdd, Int.reduceSub, Int.reduceMul, Int.reduceNeg, Nat.reduceAdd, Nat.reduceSub, Nat.reduceMul, Heath_lay_L62, Heath_lay_L62_b, Int.cast_ofNat_Int]
    · rw [r2, hr, hr, hr, hr, hr, hr, hr, hr]
      exact ⟨rfl, rfl, rfl, rfl, rfl, rfl, rfl, rfl⟩
  · rintro u k x hk ⟨r1, r2, r3⟩
    right
    obtain ⟨y, ey⟩ : ∃ y, y = wI (wI (wI x (o + 1) k (ii (-1))) (o + 2) k (ii (-1))) (o + 3) k (ii 0) := ⟨_, rfl⟩
    have yo : y.1 o = hs.1 o := by rw [ey, wI_ne (by omega), wI_ne (by omega), wI_ne (by omega)]; exact r2
    have y5 : y.1 o 5 = ii (hd 0) := by rw [yo, hr]; rfl
    have y6 : y.1 o 6 = ii (hd 1) := by rw [yo, hr]; rfl
    have y9 : y.1 o 9 = ii (cellsM hd) := by rw [yo, hr]; rfl
    have FY : SF o x y := by rw [ey]; exact ((SF.w (by omega)).tr (SF.w (by omega))).tr (SF.w (by omega))
    obtain ⟨b, hb⟩ : ∃ b, (if (y.1 o 9) ≤ ii k then some (ii 0) else (f_Heath_besideBits o (ii k) y).bind fun q1 => some q1) = some b ∧ ((k : Int) < cellsM hd → b = besM hd k) := by
      by_cases q : (k : Int) < cellsM hd
      · exact ⟨besM hd k, by rw [y9, if_neg (by rw [ii_le (by omega) (by omega) (by omega) (by omega)]; omega), C_besB hw hcl y5 y6 y9 (by omega) q]; rfl, fun _ => rfl⟩
      · exact ⟨ii 0, by rw [y9, if_pos (by rw [ii_le (by omega) (by omega) (by omega) (by omega)]; omega)], fun z => absurd z q⟩
    have ik : inb (ii (k : Int)) 30 = true := by rw [ii_inb (by omega) (by omega)]; simp; omega
    refine ⟨wI y (o + 4) k b, ?_, (r1.tr FY).tr (SF.w (by omega)), by rw [wI_ne (by omega)]; exact yo, fun c hc hcc => ?_⟩
    · show Heath_lay_L62_b _ _ _ _ = _
      unfold Heath_lay_L62_b
      rw [if_neg (by rw [ii_le (by omega) (by omega) (by omega) (by omega)]; omega), if_pos ik, if_pos ik, if_pos ik, ii_nat (by omega) (by omega), Int.toNat_natCast, ← ey, bind_eq hb.1, if_pos ik, ii_sc]
    · have z1 : (wI y (o + 4) k b).1 (o + 1) = upd (x.1 (o + 1)) k (ii (-1)) := by rw [wI_ne (by omega), ey, wI_ne (by omega), wI_ne (by omega), wI_self]
      have z2 : (wI y (o + 4) k b).1 (o + 2) = upd (x.1 (o + 2)) k (ii (-1)) := by rw [wI_ne (by omega), ey, wI_ne (by omega), wI_self, wI_ne (by omega)]
      have z3 : (wI y (o + 4) k b).1 (o + 3) = upd (x.1 (o + 3)) k (ii 0) := by rw [wI_ne (by omega), ey, wI_self, wI_ne (by omega), wI_ne (by omega)]
      have z4 : (wI y (o + 4) k b).1 (o + 4) = upd (x.1 (o + 4)) k b := by rw [wI_self, ey, wI_ne (by omega), wI_ne (by omega), wI_ne (by omega)]
      rw [z1, z2, z3, z4]
      by_cases e : c = k
      · subst e
        rw [upd_self, upd_self, upd_self, upd_self]
        exact ⟨rfl, rfl, rfl, hb.2 hcc⟩
      · rw [upd_ne e, upd_ne e, upd_ne e, upd_ne e]; exact r3 c (by omega) hcc
end HG
