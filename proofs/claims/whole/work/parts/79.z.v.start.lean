/-! fork; the beginning; a call of both over one world -/
section FK
variable {S : ST} {B : Nat} {h g h1 g1 : AH}
/-- fork throws -/
def thF (a1 a2 : Int32) (h : AH) : Prop := (p_Heath_isFork (h.2.2 0 13) a1 h) = 0 ∨ a2 < 0 ∨ ii 6 < a2
theorem k_fork (V : VS S) (C : CRep S B h) (R : RRep S g) {a b : Int} (a0 : -2147483648 ≤ a) (a1 : a ≤ 2147483647) (b0 : -2147483648 ≤ b) (b1 : b ≤ 2147483647) : (¬ thF (ii a) (ii b) h ∧ ∃ x, f_HF_fork (ii a) (ii b) h = some x ∧ f_R_fork (ii a) (ii b) g = some (x, wI g 80 0 (ii 0))) ∨ (thF (ii a) (ii b) h ∧ f_R_fork (ii a) (ii b) g = some (ii 0, wI g 80 0 (ii 1))) := by
  obtain ⟨o, wr, ho, X⟩ := rx_of C V R
  obtain ⟨E, Ch, M, Rh, D, W, Vd⟩ := X
  have ef := C_isFork Ch W (c := a) a0 a1
  have er := R_isFork Rh W (c := a) a0 a1
  have e0 : ∀ v, (wI g 80 0 v).1 80 0 = v := fun v => by rw [wI_self, upd_self]
  by_cases q : (0 ≤ a ∧ a < (sH S) 7) ∧ 0 ≤ b ∧ b ≤ 6
  · left
    obtain ⟨qf, qb⟩ := q
    have HWd := W.hf qf.1 qf.2
    have hw := HWd.1
    have hfk := HWd.2.2.2.2
    obtain ⟨f, rfl⟩ := Int.eq_ofNat_of_zero_le qf.1
    obtain ⟨w, rfl⟩ := Int.eq_ofNat_of_zero_le qb.1
    rw [if_pos qf] at ef er
    have R0 : RRep S (wI g 80 0 (ii 0)) := R.keep V (RS.t0 g).1
    have ei : p_R_isIn (ii (w : Int)).toInt64 (Int64.ofNat 0) (Int64.ofInt 6) = ii 1 := by simp (disch := omega) only [Option.bind_some, if_true, if_false, not_true_eq_false, not_false_eq_true, z0, ii_add, ii_sub, ii_mul, ifLeT, ifLeF, ifLtT, ifLtF, ifEqT, ifEqF, ifNeT, ifNeF, ifIn, nixZ, ii_i64, o0, o1, isInT, isInF, tn14, tn12, tn2, tn21, tn47, tn48, tn49, tn471, tn472, Int.reduceToNat, Int.toNat_natCast, Int.reduceAdd, Int.reduceSub, Int.reduceMul, Int.reduceNeg, Nat.reduceAdd, Nat.reduceSub, Nat.reduceMul, isInT]
    have ev : (if (p_R_isFork (ii (f : Int)) g) = 0 then (ii 1) else (if (p_R_isIn (ii (w : Int)).toInt64 (Int64.ofNat 0) (Int64.ofInt 6)) = 0 then (ii 1) else (ii 0))) = ii 0 := by
      rw [er, if_neg i10, ei, if_neg i10]
    refine ⟨?_, ?_⟩
    · rintro (z | z | z)
      · rw [E, ef] at z; exact i10 z
      · rw [z0, ii_lt (by omega) (by omega) (by omega) (by omega)] at z; omega
      · rw [ii_lt (by omega) (by omega) (by omega) (by omega)] at z; omega
    · unfold f_HF_fork f_R_fork
      rw [E, ef, if_neg i10, if_neg (by rw [z0, ii_lt (by omega) (by omega) (by omega) (by omega)]; omega), if_pos (by rw [ii_le (by omega) (by omega) (by omega) (by omega)]; omega), ev, e0, if_pos (show ii 0 ≤ 0 by decide)]
      generalize wI g 80 0 (ii 0) = g0 at *
      have D0 := R0.2.2.1
      have Rh0 := R0.2.1
      have hF := hfk f qf.2
      by_cases w0 : w = 0
      · subst w0
        have t1 : (2 * (f : Int)).toNat = 2 * f := by omega
        refine ⟨sD S (2 * f), ?_, ?_⟩
        · rw [if_pos (by decide), C_placeOf M HWd qf.2]; rfl
        · rw [if_pos (by decide), ii_mul, if_pos (by rw [ii_inb (by omega) (by omega)]; omega), ii_nat (by omega) (by omega), t1, D0 _ (by omega)]
      · have nw0 : ¬ ii (w : Int) = 0 := by rw [z0, ii_eq (by omega) (by omega) (by omega) (by omega)]; omega
        by_cases w6 : w = 6
        · subst w6
          have t1 : (2 * (f : Int) + 1).toNat = 2 * f + 1 := by omega
          refine ⟨sD S (2 * f + 1), ?_, ?_⟩
          · rw [if_neg nw0, if_pos (by decide), C_payOf M qf.2 HWd]; rfl
          · rw [if_neg nw0, if_pos (by decide), ii_mul, ii_add, if_pos (by rw [ii_inb (by omega) (by omega)]; omega), ii_nat (by omega) (by omega), t1, D0 _ (by omega)]
        · have nw6 : ¬ ii (w : Int) = ii 6 := by rw [ii_eq (by omega) (by omega) (by omega) (by omega)]; omega
          have tc := C_trait Ch HWd qf.2 (k := w) (by omega)
          have t3 := R_told Rh0 (f := f) (k := 3) (by omega) (by omega)
          have tw := R_told Rh0 (f := f) (k := w) (by omega) (by omega)
          have e34 : g0.1 80 34 = ii (cellsM (sH S)) := Rh0.2.2.2.2.2.1
          have hcl := W.cells
          refine ⟨ii (trM (sH S) f w), by rw [if_neg nw0, if_neg nw6, tc]; rfl, ?_⟩
          rw [if_neg nw0, if_neg nw6]
          have t3' : f_R_told (ii f) (ii 3) g0 = some (ii (fkM (sH S) f 3)) := t3
          by_cases w3 : w = 3
          · subst w3
            rw [if_pos (by decide), bind_eq t3', e34]
            unfold trM wiM
            rw [if_pos rfl]
            by_cases qc : fkM (sH S) f 3 < cellsM (sH S)
            · rw [if_pos qc, if_pos (by rw [ii_lt (by omega) (by omega) (by omega) (by omega)]; exact qc), bind_eq tw]
            · rw [if_neg qc, if_neg (by rw [ii_lt (by omega) (by omega) (by omega) (by omega)]; exact qc)]
          · rw [if_neg (by rw [ii_eq (by omega) (by omega) (by omega) (by omega)]; omega), bind_eq tw]
            unfold trM
            rw [if_neg w3]
  · right
    have ev : (if (p_R_isFork (ii a) g) = 0 then (ii 1) else (if (p_R_isIn (ii b).toInt64 (Int64.ofNat 0) (Int64.ofInt 6)) = 0 then (ii 1) else (ii 0))) = ii 1 := by
      rw [er]
      by_cases qf : 0 ≤ a ∧ a < (sH S) 7
      · rw [if_pos qf, if_neg i10]
        have ei : p_R_isIn (ii b).toInt64 (Int64.ofNat 0) (Int64.ofInt 6) = ii 0 := by
          by_cases q3 : b < 0
          · simp (disch := omega) only [Option.bind_some, if_true, if_false, not_true_eq_false, not_false_eq_true, z0, ii_add, ii_sub, ii_mul, ifLeT, ifLeF, ifLtT, ifLtF, ifEqT, ifEqF, ifNeT, ifNeF, ifIn, nixZ, ii_i64, o0, o1, isInT, isInF, tn14, tn12, tn2, tn21, tn47, tn48, tn49, tn471, tn472, Int.reduceToNat, Int.toNat_natCast, Int.reduceAdd, Int.reduceSub, Int.reduceMul, Int.reduceNeg, Nat.reduceAdd, Nat.reduceSub, Nat.reduceMul, isInF]
          · simp (disch := omega) only [Option.bind_some, if_true, if_false, not_true_eq_false, not_false_eq_true, z0, ii_add, ii_sub, ii_mul, ifLeT, ifLeF, ifLtT, ifLtF, ifEqT, ifEqF, ifNeT, ifNeF, ifIn, nixZ, ii_i64, o0, o1, isInT, isInF, tn14, tn12, tn2, tn21, tn47, tn48, tn49, tn471, tn472, Int.reduceToNat, Int.toNat_natCast, Int.reduceAdd, Int.reduceSub, Int.reduceMul, Int.reduceNeg, Nat.reduceAdd, Nat.reduceSub, Nat.reduceMul, isInF]
        rw [ei, if_pos i00]
      · rw [if_neg qf, if_pos i00]
    refine ⟨?_, ?_⟩
    · unfold thF
      rw [E, ef]
      by_cases qf : 0 ≤ a ∧ a < (sH S) 7
      · right
        by_cases q3 : b < 0
        · left; rw [z0, ii_lt (by omega) (by omega) (by omega) (by omega)]; exact q3
        · right; rw [ii_lt (by omega) (by omega) (by omega) (by omega)]; omega
      · left; rw [if_neg qf]; rfl
    · unfold f_R_fork
      rw [ev, e0, if_neg (show ¬ ii 1 ≤ 0 by decide)]
/-- both calls, one behind the other, over one world -/
theorem both {cf : Option (Int32 × AH)} {rf : AH → Option (Int32 × AH)} (V : VS S) (R : RRep S h) (K : ∀ g, RRep S g → Call S B h g cf (rf g)) : ∃ x h1 h2 S', cf = some (x, h1) ∧ rf h1 = some (x, h2) ∧ VS S' ∧ CRep S' (B + 64) h2 ∧ RRep S' h2 := by
  obtain ⟨x, h1, _, _, e1, _, _, _, _, k1, _⟩ := K h R
  obtain ⟨y, h1', h2, S', e1', e2, v, c, r, _, k2⟩ := K h1 (R.kr V k1)
  rw [e1] at e1'
  cases e1'
  exact ⟨x, h1, h2, S', e1, e2, v, c.kc v k2, r⟩
/-- the first world -/
def hI : AH := (fun o j => if (o = 0 ∧ j = 16) ∨ (o = 80 ∧ j = 43) then ii (-1) else ii 0, fun _ _ => 0, fun o j => if o = 0 then 43 else if o = 3 then 49 else if o = 8 then 67 else if o = 9 then 78 else if o = 10 then 55 + 3 * j else if o = 11 then 70 + 2 * j else 81)
def SI : ST := ([], fun _ => 0, fun _ => ii 0, [], none, [], [], -1, [])
theorem hI_n {o : Nat} (h0 : o ≠ 0) (h80 : o ≠ 80) (j : Nat) : hI.1 o j = ii 0 := by unfold hI; simp only [h0, h80, false_and, or_self, if_false]
theorem hI_0 {j : Nat} (hj : j ≠ 16) : hI.1 0 j = ii 0 := by unfold hI; simp [hj]
theorem hI_80 {j : Nat} (hj : j ≠ 43) : hI.1 80 j = ii 0 := by unfold hI; simp [hj]
theorem cellsI : cellsM (fun _ => 0) = 0 := rfl
theorem VS_I : VS SI := by
  refine ⟨⟨by simp [SI, sB], fun b hb => absurd hb (by simp [SI, sB])⟩, Or.inl ⟨rfl, rfl, rfl, rfl, rfl, rfl⟩, ⟨⟨0, by omega, by omega, rfl⟩, fun f hf => ?_, fun c hc => ⟨0, by omega, by omega, rfl, fun _ => rfl⟩, ⟨rfl, ?_⟩, fun j hj => ?_⟩, ⟨by simp [SI, sA], fun x hx => absurd hx (by simp [SI, sA])⟩, fun x hx => absurd hx (by simp [SI, sI]), ⟨by simp [SI, sE], fun x hx => absurd hx (by simp [SI, sE])⟩, ⟨by simp [SI, sL], fun x hx => absurd hx (by simp [SI, sL])⟩, ⟨by simp [SI, sO], by simp [SI, sO, sL]⟩, ⟨by simp [SI, sW], fun x hx => absurd hx (by simp [SI, sW])⟩⟩
  · have : (f : Int) < 0 := hf
    omega
  · have : bL (sD SI) = 0 := rfl
    rw [this]; omega
  · have : bL (sD SI) = 0 := rfl
    rw [this] at hj; omega
theorem CRep_I : CRep SI 0 hI := by
  have z : ∀ o j, o ≠ 0 → o ≠ 80 → hI.1 o j = ii 0 := fun o j a b => hI_n a b j
  refine ⟨⟨z 1 1 (by decide) (by decide), fun j hj => absurd hj (by simp [SI, sB])⟩, ⟨43, Or.inl rfl, rfl, rfl, ?_⟩, ⟨0, Nat.le_refl _, ?_, ⟨z 31 1 (by decide) (by decide), 0, by omega, z 31 2 (by decide) (by decide), trivial⟩⟩, hI_0 (by decide), ⟨z 33 5 (by decide) (by decide), fun i hi => absurd hi (by simp [SI, sE])⟩, ⟨hI_0 (by decide), rfl, fun i hi => ?_, fun i j hi hj e => ?_, fun i hi => absurd hi (by simp [SI, sL])⟩, ⟨hI_0 (by decide), fun i hi => ?_, fun i j hi hj e => ?_, fun i hi => absurd hi (by simp [SI, sW])⟩⟩
  · refine ⟨z 43 5 (by decide) (by decide), z 43 6 (by decide) (by decide), z 43 7 (by decide) (by decide), z 43 8 (by decide) (by decide), z 43 9 (by decide) (by decide), z 43 10 (by decide) (by decide), z 43 11 (by decide) (by decide), fun c hc => ?_, fun f k hf => ?_, fun c hc => ?_⟩
    · have : (c : Int) < 0 := hc
      omega
    · have : (f : Int) < 0 := hf
      omega
    · rw [z 43 13 (by decide) (by decide), R_has _ hc, tb_0]
      exact ⟨fun h => absurd h (by decide), fun h => by have : (c : Int) < 0 := h.1; omega⟩
  · have hb : bL (sD SI) = 0 := rfl
    refine ⟨fun f hf => ?_, fun f hf => ?_, ⟨z 16 0 (by decide) (by decide), z 16 1 (by decide) (by decide)⟩, ⟨z 13 5 (by decide) (by decide), by omega, by rw [hb]; rfl, fun i hi => by rw [hb] at hi; omega⟩, fun c hc => z 18 c (by decide) (by decide), ?_, z 13 7 (by decide) (by decide), z 13 8 (by decide) (by decide)⟩
    · have : (f : Int) < 0 := hf
      omega
    · show hI.1 15 f = _
      rw [z 15 f (by decide) (by decide), if_neg (by show ¬ (f : Int) < 0; omega)]
    · show hI.1 13 6 = _
      rw [z 13 6 (by decide) (by decide)]
      decide +kernel
  · rcases (show i = 0 ∨ i = 1 ∨ i = 2 ∨ i = 3 ∨ i = 4 by omega) with e | e | e | e | e <;> subst e <;> decide
  · rcases (show i = 0 ∨ i = 1 ∨ i = 2 ∨ i = 3 ∨ i = 4 by omega) with e' | e' | e' | e' | e' <;> subst e' <;> rcases (show j = 0 ∨ j = 1 ∨ j = 2 ∨ j = 3 ∨ j = 4 by omega) with e' | e' | e' | e' | e' <;> subst e' <;> first | rfl | exact absurd e (by decide)
  · rcases (show i = 0 ∨ i = 1 ∨ i = 2 ∨ i = 3 ∨ i = 4 by omega) with e | e | e | e | e <;> subst e <;> decide
  · rcases (show i = 0 ∨ i = 1 ∨ i = 2 ∨ i = 3 ∨ i = 4 by omega) with e' | e' | e' | e' | e' <;> subst e' <;> rcases (show j = 0 ∨ j = 1 ∨ j = 2 ∨ j = 3 ∨ j = 4 by omega) with e' | e' | e' | e' | e' <;> subst e' <;> first | rfl | exact absurd e (by decide)
theorem RRep_I : RRep SI hI := by
  have z : ∀ o j, o ≠ 0 → o ≠ 80 → hI.1 o j = ii 0 := fun o j a b => hI_n a b j
  have y : ∀ j, j ≠ 43 → hI.1 80 j = ii 0 := fun j a => hI_80 a
  refine ⟨⟨y 6 (by decide), fun j hj => absurd hj (by simp [SI, sB])⟩, ⟨fun j _ => z 85 j (by decide) (by decide), y 30 (by decide), y 31 (by decide), y 32 (by decide), y 33 (by decide), y 34 (by decide), fun j _ => z 87 j (by decide) (by decide), fun j _ => z 89 j (by decide) (by decide), fun j _ => z 91 j (by decide) (by decide), fun j _ => z 93 j (by decide) (by decide)⟩, fun j _ => z 97 j (by decide) (by decide), ⟨y 45 (by decide), fun i hi => absurd hi (by simp [SI, sA])⟩, y 55 (by decide), ⟨y 52 (by decide), fun i hi => absurd hi (by simp [SI, sE])⟩, ⟨y 7 (by decide), rfl, fun i hi => absurd hi (by simp [SI, sL])⟩, ⟨y 39 (by decide), fun i hi => absurd hi (by simp [SI, sW])⟩, fun j hj => ⟨0, by omega, by omega, z 84 j (by decide) (by decide)⟩⟩
end FK
