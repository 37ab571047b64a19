/-! the reference reads a heath: numbers, items -/
section RM
variable {bs : List Int} {H : Nat → Int} {g g0 g1 : AH} {m : Nat}
def bsM (κ : Nat) : Nat := if κ = 0 then 0 else if κ = 1 then 10 else if κ = 2 then 70 else if κ = 3 then 90 else 110
def rwM (κ n : Nat) : Nat := if κ = 0 then 0 else if κ = 1 then 13 * n else if κ = 2 then 2 * n else if κ = 3 then 2 * n else 6 * n
def lgM (κ : Nat) : Nat := if κ = 0 then 4 else if κ = 1 then 52 else if κ = 2 then 12 else if κ = 3 then 12 else 36
def ctM (κ : Nat) : Nat := if κ = 0 then 40 else 34 + κ
def kcM (κ : Nat) : Int := if κ = 0 then 115 else if κ = 1 then 118 else if κ = 2 then 105 else if κ = 3 then 107 else 102
theorem hb_rw {κ n : Nat} (hk : κ < 5) : hbM κ n = bsM κ + rwM κ n := by rcases k5 hk with z | z | z | z | z <;> subst z <;> simp [hbM, bsM, rwM]
theorem rw_ln {κ n w : Nat} (hk : κ < 5) (hn : n < cpM κ) (hw : w < niM κ) : rwM κ n + w < lgM κ := by rcases k5 hk with z | z | z | z | z <;> subst z <;> simp [cpM, niM, rwM, lgM] at * <;> omega
theorem ln_hi {κ : Nat} (hk : κ < 5) : lgM κ ≤ 52 ∧ 4 ≤ lgM κ := by rcases k5 hk with z | z | z | z | z <;> subst z <;> decide
theorem bs_sep {κ κ' j j' : Nat} (hk : κ < 5) (hk' : κ' < 5) (h1 : j < lgM κ) (h2 : j' < lgM κ') (e : bsM κ + j = bsM κ' + j') : κ = κ' ∧ j = j' := by
  rcases k5 hk with z | z | z | z | z <;> subst z <;> rcases k5 hk' with z | z | z | z | z <;> subst z <;> simp [bsM, lgM] at * <;> omega
theorem bs_ci {κ κ' j : Nat} (hk : κ < 5) (hk' : κ' < 5) (h1 : j < lgM κ) : bsM κ + j ≠ ciM κ' := by
  have := ci_lo hk'
  rcases k5 hk with z | z | z | z | z <;> subst z <;> simp [bsM, lgM] at * <;> omega
theorem ct_inj {κ κ' : Nat} (h1 : κ < 5) (h2 : κ' < 5) (e : ctM κ = ctM κ') : κ = κ' := by
  rcases k5 h1 with z | z | z | z | z <;> subst z <;> rcases k5 h2 with z | z | z | z | z <;> subst z <;> simp [ctM] at *
theorem ct_lo {κ : Nat} (h1 : κ < 5) : ctM κ ∈ [35, 36, 37, 38, 40] := by rcases k5 h1 with z | z | z | z | z <;> subst z <;> decide
theorem r_us : ∀ κ : Nat, κ < 5 → ∀ w : Nat, w < niM κ → p_R_usual (ii (kcM κ)) (ii w) = ii (usM κ w) ∧ p_R_leastOf (ii (kcM κ)) (ii w) = ii (leM κ w) ∧ p_R_mostOf (ii (kcM κ)) (ii w) = ii (moM κ w) := by decide +kernel
/-- what the reference has read -/
def RB (H : Nat → Int) (g : AH) : Prop := ∀ κ, κ < 5 → (∀ j, j < lgM κ → g.1 (86 + 2 * κ) j = ii (H (bsM κ + j))) ∧ g.1 80 (ctM κ) = ii (H (ciM κ))
def R8 (g1 g2 : AH) : Prop := g2.2 = g1.2 ∧ (∀ x, x ≠ 80 → x ≠ 86 → x ≠ 88 → x ≠ 90 → x ≠ 92 → x ≠ 94 → g2.1 x = g1.1 x) ∧ ∀ j, j ∉ [35, 36, 37, 38, 40] → g2.1 80 j = g1.1 80 j
theorem R8.rf (g : AH) : R8 g g := ⟨rfl, fun _ _ _ _ _ _ _ => rfl, fun _ _ => rfl⟩
theorem R8.tr {g1 g2 g3 : AH} (a : R8 g1 g2) (b : R8 g2 g3) : R8 g1 g3 := ⟨b.1.trans a.1, fun x h1 h2 h3 h4 h5 h6 => (b.2.1 x h1 h2 h3 h4 h5 h6).trans (a.2.1 x h1 h2 h3 h4 h5 h6), fun j hj => (b.2.2 j hj).trans (a.2.2 j hj)⟩
theorem R8.w {κ j : Nat} {v : Int32} (hk : κ < 5) : R8 g (wI g (86 + 2 * κ) j v) := ⟨rfl, fun x h1 h2 h3 h4 h5 h6 => wI_ne (by omega), fun j hj => by rw [wI_ne (by omega)]⟩
theorem R8.wc {j : Nat} {v : Int32} (hj : j ∈ [35, 36, 37, 38, 40]) : R8 g (wI g 80 j v) := ⟨rfl, fun x h1 h2 h3 h4 h5 h6 => wI_ne h1, fun i hi => by rw [wI_self, upd_ne (fun z => by subst z; exact hi hj)]⟩
theorem GX.r8 (X : GX bs 81 0 g) (F : R8 g g1) : GX bs 81 0 g1 := X.eq F.1 (fun j hj => F.2.2 j (by rcases hj with e | e <;> subst e <;> decide)) (F.2.1 81 (by decide) (by decide) (by decide) (by decide) (by decide) (by decide))
theorem RB.up {κ n w : Nat} {v : Int} (R : RB H g) (hk : κ < 5) (hn : n < cpM κ) (hw : w < niM κ) : RB (upz H (hbM κ n + w) v) (wI g (86 + 2 * κ) (rwM κ n + w) (ii v)) := by
  have hl := rw_ln hk hn hw
  intro κ' hk'
  rw [hb_rw hk, Nat.add_assoc]
  refine ⟨fun j hj => ?_, ?_⟩
  · by_cases e : bsM κ' + j = bsM κ + (rwM κ n + w)
    · obtain ⟨e1, e2⟩ := bs_sep hk' hk hj hl e
      subst e1; subst e2
      rw [wI_self, upd_self, upz_s]
    · rw [upz_n e]
      by_cases e1 : κ' = κ
      · subst e1
        rw [wI_self, upd_ne (fun z => e (by rw [z]))]
        exact (R κ' hk').1 j hj
      · rw [wI_ne (by omega)]
        exact (R κ' hk').1 j hj
  · rw [wI_ne (by omega), upz_n (Ne.symm (bs_ci hk hk' hl))]
    exact (R κ' hk').2
/-- a digit, as the reference has it -/
theorem G_here (X : GX bs 81 0 g1) {p : Nat} {ft dp : Int} (hp : p < bs.length) : f_R_here (GH g1 p ft dp) = some (ii (ch bs p)) := by
  have hl := X.2.2.2.2.2.2.1.1
  have hsh := X.2.2.2.1
  have hsh2 := X.2.2.2.2.2.2.2.2
  obtain ⟨b, b1, b2, b3, b4⟩ := G_rd X hp
  have b4' := b4 p ft dp
  have e9 : (GH g1 p ft dp).1 80 9 = ii bs.length := X.2.2.1
  have e8 : (GH g1 p ft dp).1 80 8 = ii ((0 : Nat) : Int) := X.2.1
  have e5 : (GH g1 p ft dp).2.2 80 5 = 81 := X.1
  unfold f_R_here
  rw [e9, GH_a, if_neg (by rw [ii_le (by omega) (by omega) (by omega) (by omega)]; omega), e8, ii_add, show ((0 : Nat) : Int) + (p : Int) = p by omega]
  rw [e5] at b4' ⊢
  rw [if_pos (by rw [ii_inb (by omega) (by omega)]; simp; omega), ii_nat (by omega) (by omega), Int.toNat_natCast]
  rw [Nat.zero_add] at b4'
  rw [b4', b3, sb_and (by omega) (by omega)]
theorem R_num (X : GX bs 81 0 g1) (ok : okB bs) {p : Nat} {dp le mo : Int} (hp : p ≤ bs.length) (l0 : -1000 ≤ le) (l1 : le ≤ 1000) (m0 : -1000 ≤ mo) (m1 : mo ≤ 1000) : f_R_number (ii le) (ii mo) (GH g1 p (-1) dp) = match nm2 bs (sk bs p) with
    | .inl e => some (ii 0, GH g1 e e dp)
    | .inr (q, v) => if le ≤ v ∧ v ≤ mo then some (ii v, GH g1 q (-1) dp) else some (ii v, GH g1 (q - 1) (q - 1 : Nat) dp) := by
  have hl := ok.1
  have hs := sk_lo hp
  have e1 := G_lk X (ft := -1) (dp := dp) hp
  have fin : ∀ (q : Nat) (v : Int), 0 < q → q ≤ bs.length → 0 ≤ v → v ≤ 99 → ((if (p_R_isIn (ii v).toInt64 (ii le).toInt64 (ii mo).toInt64) = 0 then (f_R_fails (wI (GH g1 q (-1) dp) 80 10 (((GH g1 q (-1) dp).1 80 10) - (ii 1)))).bind fun q7 => some q7.2 else some (GH g1 q (-1) dp)).bind fun q8 => some (ii v, q8)) = if le ≤ v ∧ v ≤ mo then some (ii v, GH g1 q (-1) dp) else some (ii v, GH g1 (q - 1) (q - 1 : Nat) dp) := fun q v q0 q1 v0 v1 => by
    have ep : ii (q : Int) - ii 1 = ii ((q - 1 : Nat) : Int) := by rw [ii_sub]; congr 1; omega
    rw [GH_a, ep, GH_sa, bind_eq G_fl]
    by_cases z : le ≤ v ∧ v ≤ mo
    · rw [if_pos z]; simp (disch := omega) only [Option.bind_some, if_true, if_false, not_true_eq_false, not_false_eq_true, z0, ii_add, ii_sub, ii_mul, ifLeT, ifLeF, ifLtT, ifLtF, ifEqT, ifEqF, ifNeT, ifNeF, ifIn, nixZ, ii_i64, o0, o1, isInT, isInF, tn14, tn12, tn2, tn21, tn47, tn48, tn49, tn471, tn472, Int.reduceToNat, Int.toNat_natCast, Int.reduceAdd, Int.reduceSub, Int.reduceMul, Int.reduceNeg, Nat.reduceAdd, Nat.reduceSub, Nat.reduceMul, isInT]
    · rw [if_neg z]; simp (disch := omega) only [Option.bind_some, if_true, if_false, not_true_eq_false, not_false_eq_true, z0, ii_add, ii_sub, ii_mul, ifLeT, ifLeF, ifLtT, ifLtF, ifEqT, ifEqF, ifNeT, ifNeF, ifIn, nixZ, ii_i64, o0, o1, isInT, isInF, tn14, tn12, tn2, tn21, tn47, tn48, tn49, tn471, tn472, Int.reduceToNat, Int.toNat_natCast, Int.reduceAdd, Int.reduceSub, Int.reduceMul, Int.reduceNeg, Nat.reduceAdd, Nat.reduceSub, Nat.reduceMul, isInF]
  unfold nm2 f_R_number
  rw [bind_eq e1]
  simp only
  by_cases q1 : 48 ≤ ch bs (sk bs p) ∧ ch bs (sk bs p) ≤ 57
  · have h1 : sk bs p < bs.length := ch_lt (by omega)
    rw [if_pos q1, bind_eq (G_dgT X q1.1 q1.2).1, if_neg i10, GH_a, ii_add ((sk bs p : Nat) : Int), GH_inc]
    by_cases q2 : 48 ≤ ch bs (sk bs p + 1) ∧ ch bs (sk bs p + 1) ≤ 57
    · have h2 : sk bs p + 1 < bs.length := ch_lt (by omega)
      have ev : ((ii 10) * (ii (ch bs (sk bs p)) - (ii 48))) + ii (ch bs (sk bs p + 1)) - (ii 48) = ii ((ch bs (sk bs p) - 48) * 10 + ch bs (sk bs p + 1) - 48) := by
        rw [ii_sub, ii_mul, ii_add, ii_sub]; congr 1; omega
      rw [if_pos q2, bind_eq (G_dgT X q2.1 q2.2).1, if_neg i10, bind_eq (G_here X h2), GH_a, ii_add ((sk bs p + 1 : Nat) : Int), GH_inc, Option.bind_some]
      simp only
      rw [ev]
      by_cases q3 : 48 ≤ ch bs (sk bs p + 2) ∧ ch bs (sk bs p + 2) ≤ 57
      · rw [if_pos q3, bind_eq (G_dgT X (p := sk bs p + 1 + 1) q3.1 q3.2).1, if_neg i10, bind_eq G_fl]
      · rw [if_neg q3, bind_eq (G_dgF X (p := sk bs p + 1 + 1) (by omega) q3), if_pos i00]
        exact fin (sk bs p + 2) _ (by omega) (by omega) (by omega) (by omega)
    · rw [if_neg q2, bind_eq (G_dgF X (p := sk bs p + 1) (by omega) q2), if_pos i00, Option.bind_some]
      simp only
      rw [bind_eq (G_dgF X (p := sk bs p + 1) (by omega) q2), if_pos i00, ii_sub]
      exact fin (sk bs p + 1) _ (by omega) (by omega) (by omega) (by omega)
  · rw [if_neg q1, bind_eq (G_dgF X hs.2 q1), if_pos i00, bind_eq G_fl]
end RM
