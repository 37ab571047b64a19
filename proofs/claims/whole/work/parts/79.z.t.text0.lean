/-! a heath taken: the reference, and both -/
section T0
variable {S : ST} {B : Nat} {h h1 : AH} {H : Nat → Int} {g g1 : AH}
theorem R_zero : ∃ g2, R_text_L313 FU (ii 0) g = some g2 ∧ Ag [97] g g2 ∧ ∀ j, j < 227 → g2.1 97 j = ii 0 := by
  refine lup (fun u k (x : AH) => R_text_L313 u (ii k) x) 227 (fun k x => Ag [97] g x ∧ ∀ j, j < k → x.1 97 j = ii 0) (fun y => ∃ g2, y = some g2 ∧ Ag [97] g g2 ∧ ∀ j, j < 227 → g2.1 97 j = ii 0) ?_ ?_ 227 0 FU g (by omega) (by unfold FU; omega) ⟨Ag.rf _ _, fun j hj => by omega⟩
  · rintro u x ⟨r1, r2⟩
    refine ⟨x, ?_, r1, r2⟩
    simp (disch := omega) only [Option.bind_some, if_true, if_false, not_true_eq_false, not_false_eq_true, z0, ii_add, ii_sub, ii_mul, ifLeT, ifLeF, ifLtT, ifLtF, ifEqT, ifEqF, ifNeT, ifNeF, ifIn, nixZ, ii_i64, o0, o1, isInT, isInF, tn14, tn12, tn2, tn21, tn47, tn48, tn49, tn471, tn472, Int.reduceToNat, Int.toNat_natCast, Int.reduceAdd, Int.reduceSub, Int.reduceMul, Int.reduceNeg, Nat.reduceAdd, Nat.reduceSub, Nat.reduceMul, R_text_L313, R_text_L313_b, Int.cast_ofNat_Int]
  · rintro u k x hk ⟨r1, r2⟩
    right
    refine ⟨wI x 97 k (ii 0), ?_, r1.pI (by decide), fun j hj => ?_⟩
    · show R_text_L313_b _ _ _ = _
      unfold R_text_L313_b
      rw [if_neg (by rw [ii_le (by omega) (by omega) (by omega) (by omega)]; omega), if_pos (by rw [ii_inb (by omega) (by omega)]; omega), ii_nat (by omega) (by omega), Int.toNat_natCast, ii_sc]
    · rw [wI_self]
      by_cases e : j = k
      · rw [e, upd_self]
      · rw [upd_ne e]; exact r2 j (by omega)
theorem RH.ag97 {g2 : AH} (R : RH H g) (A : Ag [97] g g2) : RH H g2 := by
  obtain ⟨a1, a2, a3, a4, a5, a6, a7, a8, a9, a10⟩ := R
  exact ⟨fun j hj => by rw [A.1 85 (by decide)]; exact a1 j hj, by rw [A.1 80 (by decide)]; exact a2, by rw [A.1 80 (by decide)]; exact a3, by rw [A.1 80 (by decide)]; exact a4, by rw [A.1 80 (by decide)]; exact a5, by rw [A.1 80 (by decide)]; exact a6, fun j hj => by rw [A.1 87 (by decide)]; exact a7 j hj, fun j hj => by rw [A.1 89 (by decide)]; exact a8 j hj, fun j hj => by rw [A.1 91 (by decide)]; exact a9 j hj, fun j hj => by rw [A.1 93 (by decide)]; exact a10 j hj⟩
theorem R_set (R : RH H g) (W : HW H) (D : RDy (dF H 0) g 97) : ∃ g2, R_text_L335 FU (ii 0) g = some (ii (cellsM H), wI (wI (wI g2 80 52 (ii 0)) 80 45 (ii 0)) 80 55 (ii 0)) ∧ Ag [97] g g2 ∧ RDy (dF H (H 7).toNat) g2 97 := by
  have hw := W.1
  refine lup (fun u k (x : AH) => R_text_L335 u (ii k) x) (H 7).toNat (fun k x => Ag [97] g x ∧ RDy (dF H k) x 97) (fun y => ∃ g2, y = some (ii (cellsM H), wI (wI (wI g2 80 52 (ii 0)) 80 45 (ii 0)) 80 55 (ii 0)) ∧ Ag [97] g g2 ∧ RDy (dF H (H 7).toNat) g2 97) ?_ ?_ (H 7).toNat 0 FU g (by omega) (by unfold FU; omega) ⟨Ag.rf _ _, D⟩
  · rintro u x ⟨r1, r2⟩
    have R' := R.ag97 r1
    refine ⟨x, ?_, r1, r2⟩
    show R_text_L335_b _ _ _ = _
    unfold R_text_L335_b
    rw [R'.2.2.2.2.1, if_pos (by rw [ii_le (by omega) (by omega) (by omega) (by omega)]; omega)]
    have : (wI (wI (wI x 80 52 (ii 0)) 80 45 (ii 0)) 80 55 (ii 0)).1 80 34 = ii (cellsM H) := by rw [wI_self, upd_ne (by decide), wI_self, upd_ne (by decide), wI_self, upd_ne (by decide)]; exact R'.2.2.2.2.2.1
    rw [this]
  · rintro u k x hk ⟨r1, r2⟩
    right
    have R' := R.ag97 r1
    have hfk := W.2.2.2.2 k (by omega)
    obtain ⟨gu, hgu⟩ := Int.eq_ofNat_of_zero_le (show 0 ≤ fkM H k 5 by omega)
    obtain ⟨c, hc⟩ := Int.eq_ofNat_of_zero_le hfk.1
    have t0 := R_told R' (f := k) (k := 0) (by omega) (by omega)
    have t0' : f_R_told (ii k) (ii 0) x = some (ii c) := by rw [← hc]; exact t0
    have Ay : Ag [97] x (wI x 97 (2 * k) (ii c)) := (Ag.rf _ _).pI (by decide)
    have Ry := R'.ag97 Ay
    have t5 := R_told Ry (f := k) (k := 5) (by omega) (by omega)
    have t5' : f_R_told (ii k) (ii 5) (wI x 97 (2 * k) (ii c)) = some (ii gu) := by rw [← hgu]; exact t5
    have t00 := R_told Ry (f := k) (k := 0) (by omega) (by omega)
    have t00' : f_R_told (ii k) (ii 0) (wI x 97 (2 * k) (ii c)) = some (ii c) := by rw [← hc]; exact t00
    have i2 : inb (ii (2 * (k : Int))) 227 = true := by rw [ii_inb (by omega) (by omega)]; omega
    have n2 : (ii (2 * (k : Int))).toNatClampNeg = 2 * k := by rw [ii_nat (by omega) (by omega)]; omega
    have i12 : inb (ii (12 + (gu : Int))) 227 = true := by rw [ii_inb (by omega) (by omega)]; omega
    have n12 : (ii (12 + (gu : Int))).toNatClampNeg = 12 + gu := by rw [ii_nat (by omega) (by omega)]; omega
    have e12 : (wI x 97 (2 * k) (ii c)).1 97 (12 + gu) = dF H k (12 + gu) := by rw [wI_self, upd_ne (by omega)]; exact r2 _ (by omega)
    refine ⟨wI (wI x 97 (2 * k) (ii c)) 97 (12 + gu) (dF H k (12 + gu) ||| bitI c), ?_, (r1.pI (by decide)).pI (by decide), ?_⟩
    · show R_text_L335_b _ _ _ = _
      unfold R_text_L335_b
      rw [R'.2.2.2.2.1, if_neg (by rw [ii_le (by omega) (by omega) (by omega) (by omega)]; omega), bind_eq t0', ii_mul, if_pos i2, n2, bind_eq t5', ii_add, if_pos i12, bind_eq t00', if_pos i12, n12, e12, ii_sc]
      rfl
    · have := RDy.w (j := 12 + gu) (v := dF H k (12 + gu) ||| bitI c) (RDy.w (j := 2 * k) (v := ii c) r2)
      refine this.ext (fun j hj => ?_)
      show _ = mvD (dF H k) k (fkM H k 0) (fkM H k 5).toNat j
      rw [hgu, Int.toNat_natCast, hc]
      rfl
/-- the reference takes a heath -/
def tailR (g : AH) : Option (Int32 × AH) := (some (wI (wI (wI (wI (wI g 80 6 (ii 0)) 80 30 ((wI g 80 6 (ii 0)).1 80 35)) 80 31 ((wI (wI g 80 6 (ii 0)) 80 30 ((wI g 80 6 (ii 0)).1 80 35)).1 80 36)) 80 32 ((wI (wI (wI g 80 6 (ii 0)) 80 30 ((wI g 80 6 (ii 0)).1 80 35)) 80 31 ((wI (wI g 80 6 (ii 0)) 80 30 ((wI g 80 6 (ii 0)).1 80 35)).1 80 36)).1 80 37)) 80 33 ((wI (wI (wI (wI g 80 6 (ii 0)) 80 30 ((wI g 80 6 (ii 0)).1 80 35)) 80 31 ((wI (wI g 80 6 (ii 0)) 80 30 ((wI g 80 6 (ii 0)).1 80 35)).1 80 36)) 80 32 ((wI (wI (wI g 80 6 (ii 0)) 80 30 ((wI g 80 6 (ii 0)).1 80 35)) 80 31 ((wI (wI g 80 6 (ii 0)) 80 30 ((wI g 80 6 (ii 0)).1 80 35)).1 80 36)).1 80 37)).1 80 38))).bind fun q2 => (f_R_copy 4 86 4 85 q2).bind fun q3 => (f_R_copy 52 88 52 87 q3).bind fun q4 => (f_R_copy 12 90 12 89 q4).bind fun q5 => (f_R_copy 12 92 12 91 q5).bind fun q6 => (f_R_copy 36 94 36 93 q6).bind fun q7 => if inb (ii 0) 4 = true then if inb (ii 1) 4 = true then (R_text_L313 FU (ii 0) (wI q7 80 34 ((q7.1 85 (ii 0).toNatClampNeg) * (q7.1 85 (ii 1).toNatClampNeg)))).bind fun q8 => R_text_L335 FU (ii 0) q8 else none else none
theorem R_take (p : HP H (H 4).toNat) (w : Wh H) (R : RB H g) : ∃ g8, tailR g = some (ii (cellsM H), g8) ∧ RH H g8 ∧ RDy (dF H (H 7).toNat) g8 97 ∧ (g8.1 80 6 = ii 0 ∧ g8.1 80 45 = ii 0 ∧ g8.1 80 52 = ii 0 ∧ g8.1 80 55 = ii 0) ∧ (∀ j, j = 7 ∨ j = 39 ∨ j = 43 → g8.1 80 j = g.1 80 j) ∧ (∀ x, x ∉ [80, 85, 87, 89, 91, 93, 97] → g8.1 x = g.1 x) ∧ g8.2 = g.2 := by
  have hFU := fu_1000
  have W := HW_of p w
  have hru := hp_r p
  have hn := hp_n p
  have c35 : g.1 80 35 = ii (H 4) := (R 1 (by omega)).2
  have c36 : g.1 80 36 = ii (H 5) := (R 2 (by omega)).2
  have c37 : g.1 80 37 = ii (H 6) := (R 3 (by omega)).2
  have c38 : g.1 80 38 = ii (H 7) := (R 4 (by omega)).2
  obtain ⟨ga, ega⟩ : ∃ ga, ga = wI (wI (wI (wI (wI g 80 6 (ii 0)) 80 30 (ii (H 4))) 80 31 (ii (H 5))) 80 32 (ii (H 6))) 80 33 (ii (H 7)) := ⟨_, rfl⟩
  have ra : ∀ j, ga.1 80 j = if j = 33 then ii (H 7) else if j = 32 then ii (H 6) else if j = 31 then ii (H 5) else if j = 30 then ii (H 4) else if j = 6 then ii 0 else g.1 80 j := fun j => by
    rw [ega]; simp only [wI_self, upd]
  have rx : ∀ x, x ≠ 80 → ga.1 x = g.1 x := fun x hx => by rw [ega, wI_ne hx, wI_ne hx, wI_ne hx, wI_ne hx, wI_ne hx]
  have r2 : ga.2 = g.2 := by rw [ega]; rfl
  obtain ⟨gb, y1, v1, A1⟩ := R_cp (m0 := 4) (u0 := 86) (m1 := 4) (u1 := 85) (by decide) (by decide) (by decide) ga
  obtain ⟨gc, y2, v2, A2⟩ := R_cp (m0 := 52) (u0 := 88) (m1 := 52) (u1 := 87) (by decide) (by decide) (by decide) gb
  obtain ⟨gd, y3, v3, A3⟩ := R_cp (m0 := 12) (u0 := 90) (m1 := 12) (u1 := 89) (by decide) (by decide) (by decide) gc
  obtain ⟨ge, y4, v4, A4⟩ := R_cp (m0 := 12) (u0 := 92) (m1 := 12) (u1 := 91) (by decide) (by decide) (by decide) gd
  obtain ⟨gf, y5, v5, A5⟩ := R_cp (m0 := 36) (u0 := 94) (m1 := 36) (u1 := 93) (by decide) (by decide) (by decide) ge
  have fx : ∀ x, x ∉ [85, 87, 89, 91, 93] → gf.1 x = ga.1 x := fun x hx => by
    simp only [List.mem_cons, List.not_mem_nil, or_false, not_or] at hx
    rw [A5.1 x (by simp; omega), A4.1 x (by simp; omega), A3.1 x (by simp; omega), A2.1 x (by simp; omega), A1.1 x (by simp; omega)]
  have f2 : gf.2 = g.2 := by rw [A5.2, A4.2, A3.2, A2.2, A1.2, r2]
  have h85 : ∀ j, j < 4 → gf.1 85 j = ii (H j) := fun j hj => by
    rw [A5.1 85 (by decide), A4.1 85 (by decide), A3.1 85 (by decide), A2.1 85 (by decide), v1 j hj, rx 86 (by decide)]
    have := (R 0 (by omega)).1 j hj
    rw [show bsM 0 + j = j by show 0 + j = j; omega] at this; exact this
  have h87 : ∀ j, j < 52 → gf.1 87 j = ii (H (10 + j)) := fun j hj => by
    rw [A5.1 87 (by decide), A4.1 87 (by decide), A3.1 87 (by decide), v2 j hj, A1.1 88 (by decide), rx 88 (by decide)]
    exact (R 1 (by omega)).1 j hj
  have h89 : ∀ j, j < 12 → gf.1 89 j = ii (H (70 + j)) := fun j hj => by
    rw [A5.1 89 (by decide), A4.1 89 (by decide), v3 j hj, A2.1 90 (by decide), A1.1 90 (by decide), rx 90 (by decide)]
    exact (R 2 (by omega)).1 j hj
  have h91 : ∀ j, j < 12 → gf.1 91 j = ii (H (90 + j)) := fun j hj => by
    rw [A5.1 91 (by decide), v4 j hj, A3.1 92 (by decide), A2.1 92 (by decide), A1.1 92 (by decide), rx 92 (by decide)]
    exact (R 3 (by omega)).1 j hj
  have h93 : ∀ j, j < 36 → gf.1 93 j = ii (H (110 + j)) := fun j hj => by
    rw [v5 j hj, A4.1 94 (by decide), A3.1 94 (by decide), A2.1 94 (by decide), A1.1 94 (by decide), rx 94 (by decide)]
    exact (R 4 (by omega)).1 j hj
  have em : (gf.1 85 (ii 0).toNatClampNeg) * (gf.1 85 (ii 1).toNatClampNeg) = ii (cellsM H) := by
    rw [show (ii 0).toNatClampNeg = 0 by decide, show (ii 1).toNatClampNeg = 1 by decide, h85 0 (by omega), h85 1 (by omega), ii_mul]; rfl
  obtain ⟨gh, egh⟩ : ∃ gh, gh = wI gf 80 34 (ii (cellsM H)) := ⟨_, rfl⟩
  have hx : ∀ x, x ≠ 80 → gh.1 x = gf.1 x := fun x hx => by rw [egh, wI_ne hx]
  have h80 : ∀ j, gh.1 80 j = if j = 34 then ii (cellsM H) else ga.1 80 j := fun j => by
    rw [egh, wI_self]
    by_cases e : j = 34
    · rw [if_pos e, e, upd_self]
    · rw [if_neg e, upd_ne e, fx 80 (by decide)]
  have RHh : RH H gh := by
    refine ⟨fun j hj => by rw [hx 85 (by decide)]; exact h85 j hj, ?_, ?_, ?_, ?_, ?_, fun j hj => by rw [hx 87 (by decide)]; exact h87 j hj, fun j hj => by rw [hx 89 (by decide)]; exact h89 j hj, fun j hj => by rw [hx 91 (by decide)]; exact h91 j hj, fun j hj => by rw [hx 93 (by decide)]; exact h93 j hj⟩ <;> (first | rw [h80, ra]; rfl | rw [h80]; rfl)
  obtain ⟨gi, y6, B1, z97⟩ := R_zero (g := gh)
  obtain ⟨gj, y7, B2, D2⟩ := R_set (RHh.ag97 B1) W (fun j hj => z97 j hj)
  have B12 : Ag [97] gh gj := ⟨fun x hx => (B2.1 x hx).trans (B1.1 x hx), B2.2.trans B1.2⟩
  have j80 : ∀ j, j ≠ 52 → j ≠ 45 → j ≠ 55 → (wI (wI (wI gj 80 52 (ii 0)) 80 45 (ii 0)) 80 55 (ii 0)).1 80 j = gh.1 80 j := fun j a b c => by rw [wI_self, upd_ne c, wI_self, upd_ne b, wI_self, upd_ne a, B12.1 80 (by decide)]
  have jx : ∀ x, x ≠ 80 → (wI (wI (wI gj 80 52 (ii 0)) 80 45 (ii 0)) 80 55 (ii 0)).1 x = gj.1 x := fun x hx => by rw [wI_ne hx, wI_ne hx, wI_ne hx]
  refine ⟨wI (wI (wI gj 80 52 (ii 0)) 80 45 (ii 0)) 80 55 (ii 0), ?_, ?_, ?_, ⟨?_, ?_, ?_, ?_⟩, fun j hj => ?_, fun x hx' => ?_, ?_⟩
  · unfold tailR
    generalize FU = F at *
    have s35 : (wI g 80 6 (ii 0)).1 80 35 = ii (H 4) := by rw [wI_self, upd_ne (by decide)]; exact c35
    have s36 : (wI (wI g 80 6 (ii 0)) 80 30 (ii (H 4))).1 80 36 = ii (H 5) := by rw [wI_self, upd_ne (by decide), wI_self, upd_ne (by decide)]; exact c36
    have s37 : (wI (wI (wI g 80 6 (ii 0)) 80 30 (ii (H 4))) 80 31 (ii (H 5))).1 80 37 = ii (H 6) := by rw [wI_self, upd_ne (by decide), wI_self, upd_ne (by decide), wI_self, upd_ne (by decide)]; exact c37
    have s38 : (wI (wI (wI (wI g 80 6 (ii 0)) 80 30 (ii (H 4))) 80 31 (ii (H 5))) 80 32 (ii (H 6))).1 80 38 = ii (H 7) := by rw [wI_self, upd_ne (by decide), wI_self, upd_ne (by decide), wI_self, upd_ne (by decide), wI_self, upd_ne (by decide)]; exact c38
    rw [s35, s36, s37, s38, ← ega, Option.bind_some, bind_eq y1, bind_eq y2, bind_eq y3, bind_eq y4, bind_eq y5, if_pos (by decide), if_pos (by decide), em, ← egh, bind_eq y6, y7]
  · obtain ⟨a1, a2, a3, a4, a5, a6, a7, a8, a9, a10⟩ := RHh.ag97 B12
    refine ⟨fun j hj => by rw [jx 85 (by decide)]; exact a1 j hj, ?_, ?_, ?_, ?_, ?_, fun j hj => by rw [jx 87 (by decide)]; exact a7 j hj, fun j hj => by rw [jx 89 (by decide)]; exact a8 j hj, fun j hj => by rw [jx 91 (by decide)]; exact a9 j hj, fun j hj => by rw [jx 93 (by decide)]; exact a10 j hj⟩
    · rw [j80 30 (by decide) (by decide) (by decide)]; exact RHh.2.1
    · rw [j80 31 (by decide) (by decide) (by decide)]; exact RHh.2.2.1
    · rw [j80 32 (by decide) (by decide) (by decide)]; exact RHh.2.2.2.1
    · rw [j80 33 (by decide) (by decide) (by decide)]; exact RHh.2.2.2.2.1
    · rw [j80 34 (by decide) (by decide) (by decide)]; exact RHh.2.2.2.2.2.1
  · exact fun j hj => by rw [jx 97 (by decide)]; exact D2 j hj
  · rw [j80 6 (by decide) (by decide) (by decide), h80, ra]; rfl
  · rw [wI_self, upd_ne (by decide), wI_self, upd_self]
  · rw [wI_self, upd_ne (by decide), wI_self, upd_ne (by decide), wI_self, upd_self]
  · rw [wI_self, upd_self]
  · rw [j80 j (by omega) (by omega) (by omega), h80, ra]
    rcases hj with e | e | e <;> subst e <;> rfl
  · simp only [List.mem_cons, List.not_mem_nil, or_false, not_or] at hx'
    rw [jx x (by omega), B12.1 x (by simp; omega), hx x (by omega), fx x (by simp; omega), rx x (by omega)]
  · show gj.2 = g.2
    rw [B12.2, egh]
    exact f2
end T0
