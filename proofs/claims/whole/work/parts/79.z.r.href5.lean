/-! the reference: the fault of a heath -/
section RR
variable {S : ST} {B : Nat} {h : AH} {bs : List Int} {H : Nat → Int} {g g0 g1 : AH} {m : Nat}
theorem RB.gh {p : Nat} {ft dp : Int} (R : RB H g) : RB H (GH g p ft dp) := by
  intro κ hk
  have hct := ct_lo hk
  simp only [List.mem_cons, List.not_mem_nil, or_false] at hct
  refine ⟨fun j hj => by rw [GH_n (by omega)]; exact (R κ hk).1 j hj, ?_⟩
  rw [GH_80, if_neg (by omega), if_neg (by omega), if_neg (by omega)]
  exact (R κ hk).2
def RHo (bs : List Int) (g1 : AH) (dp : Int) (x : Option AH) (r : Nat ⊕ (Nat → Int)) : Prop := match r with
  | .inl e => ∃ g2 p, x = some (GH g2 p e dp) ∧ R8 g1 g2
  | .inr H' => (Wh H' ∧ ∃ g2 p, x = some (GH g2 p (-1) dp) ∧ R8 g1 g2 ∧ RB H' g2) ∨ (¬ Wh H' ∧ ∃ g2 p, x = some (GH g2 p (bs.length : Nat) dp) ∧ R8 g1 g2)
theorem RHo.tr {g2 : AH} {dp : Int} {x : Option AH} {r : Nat ⊕ (Nat → Int)} (w : R8 g1 g2) (z : RHo bs g2 dp x r) : RHo bs g1 dp x r := by
  rcases r with e | H'
  · obtain ⟨g3, p, a, b⟩ := z; exact ⟨g3, p, a, w.tr b⟩
  · rcases z with ⟨a, g3, p, b, c, d⟩ | ⟨a, g3, p, b, c⟩
    · exact Or.inl ⟨a, g3, p, b, w.tr c, d⟩
    · exact Or.inr ⟨a, g3, p, b, w.tr c⟩
theorem R_hts (ok : okB bs) {dp : Int} : ∀ (k q : Nat) (H : Nat → Int) (n : Nat) (g1 : AH), q ≤ bs.length → bs.length - q < k → bs.length - q + 1 < n → HP H (H 4).toNat → GX bs 81 0 g1 → RB H g1 → RHo bs g1 dp (R_readHeath_L65 n (ii 1) (GH g1 q (-1) dp)) (htF bs k q H)
  | 0, q, H, n, g1, hq, hk, hn, hp, X, R => by omega
  | k + 1, q, H, 0, g1, hq, hk, hn, hp, X, R => by omega
  | k + 1, q, H, n + 1, g1, hq, hk, hn, hp, X, R => by
    have hl := ok.1
    have cl := R_clause ok (dp := dp) hq hp X R
    have co := clF_ok ok hq hp
    obtain ⟨n', rfl⟩ : ∃ n', n = n' + 1 := ⟨n - 1, by omega⟩
    have st0 : ∀ g2 p e, e ≤ bs.length → R_readHeath_L65 (n' + 1) (ii 0) (GH g2 p (e : Nat) dp) = some (GH g2 p e dp) := fun g2 p e he => by
      show R_readHeath_L65_b _ _ _ = _
      unfold R_readHeath_L65_b
      rw [if_pos i00, GH_f, if_neg (by rw [ii_eq (by omega) (by omega) (by omega) (by omega)]; omega)]
    have st1 : R_readHeath_L65 (n' + 1 + 1) (ii 1) (GH g1 q (-1) dp) = (f_R_readClause (GH g1 q (-1) dp)).bind fun q9 => (if (q9.1 80 11) = (ii (-1)) then (f_R_look q9).bind fun q10 => if q10.1 = (ii 59) then some ((ii 1), q10.2) else some ((ii 0), q10.2) else some ((ii 0), q9)).bind fun q11 => if q11.1 = 0 then R_readHeath_L65 (n' + 1) q11.1 q11.2 else R_readHeath_L65 (n' + 1) q11.1 (wI q11.2 80 10 ((q11.2.1 80 10) + (ii 1))) := by
      show R_readHeath_L65_b _ _ _ = _
      unfold R_readHeath_L65_b
      rw [if_neg i10, GH_f, if_pos rfl]
    rw [st1]
    unfold htF
    generalize clF bs q H = r at *
    rcases r with e | ⟨p, H'⟩
    · obtain ⟨g2, p, z1, z2⟩ := cl
      have co' : e ≤ bs.length := co
      refine ⟨g2, p, ?_, z2⟩
      rw [bind_eq z1, GH_f, if_neg (by rw [ii_eq (by omega) (by omega) (by omega) (by omega)]; omega), Option.bind_some]
      simp only
      rw [if_pos i00]
      exact st0 g2 p e co'
    · simp only at co ⊢
      have hs := sk_lo co.2.1
      have hc := ch_lo ok (sk bs p)
      rcases cl with ⟨g2, p', a1, a2, a3, a4, a5⟩ | ⟨a1, g2, p', a2, a3⟩
      · have X2 := X.r8 a4
        have e1 := G_lk X2 (ft := -1) (dp := dp) a2
        rw [a1] at e1
        refine RHo.tr a4 ?_
        rw [bind_eq a3, GH_f, if_pos rfl, bind_eq e1]
        simp only
        by_cases q2 : ch bs (sk bs p) = 59
        · have hlt : sk bs p < bs.length := ch_lt (by omega)
          rw [if_neg (show ¬ ch bs (sk bs p) = -1 by omega), if_pos q2, if_pos (show ii (ch bs (sk bs p)) = ii 59 by rw [q2]), Option.bind_some]
          simp only
          rw [if_neg i10, GH_a, ii_add ((sk bs p : Nat) : Int), GH_inc]
          exact R_hts ok k (sk bs p + 1) H' (n' + 1) g2 (by omega) (by omega) (by omega) co.2.2 X2 a5
        · rw [if_neg (show ¬ ii (ch bs (sk bs p)) = ii 59 by rw [ii_eq (by omega) (by omega) (by omega) (by omega)]; exact q2), Option.bind_some]
          simp only
          rw [if_pos i00]
          have e2 := G_lk X2 (ft := -1) (dp := dp) hs.2
          rw [sk_sk] at e2
          have st2 : R_readHeath_L65 (n' + 1) (ii 0) (GH g2 (sk bs p) (-1) dp) = if ii (ch bs (sk bs p)) = (ii (-1)) then (f_R_isWhole (GH g2 (sk bs p) (-1) dp)).bind fun q3 => if q3 = 0 then some (GH g2 (sk bs p) (sk bs p : Nat) dp) else some (GH g2 (sk bs p) (-1) dp) else some (GH g2 (sk bs p) (sk bs p : Nat) dp) := by
            show R_readHeath_L65_b _ _ _ = _
            unfold R_readHeath_L65_b
            rw [if_pos i00, GH_f, if_pos rfl, bind_eq e2]
            simp only
            rw [bind_eq G_fl]
          rw [st2]
          by_cases q3 : ch bs (sk bs p) = -1
          · rw [if_pos q3, if_pos (by rw [q3])]
            have hlen : sk bs p = bs.length := by
              by_cases z : sk bs p < bs.length
              · have := ch_ok ok z; omega
              · omega
            rcases R_whole co.2.2 (a5.gh (p := sk bs p) (ft := -1) (dp := dp)) with ⟨w1, w2⟩ | ⟨w1, w2⟩
            · rw [bind_eq w2, if_neg i10]
              exact Or.inl ⟨w1, g2, _, rfl, R8.rf _, a5⟩
            · rw [bind_eq w2, if_pos i00]
              refine Or.inr ⟨w1, g2, sk bs p, ?_, R8.rf _⟩
              rw [hlen]
          · rw [if_neg q3, if_neg q2, if_neg (by rw [ii_eq (by omega) (by omega) (by omega) (by omega)]; exact q3)]
            exact ⟨g2, _, rfl, R8.rf _⟩
      · have c1 : ch bs (sk bs p) ≠ -1 := fun z => a1 (by rw [z]; exact sp6_59.2)
        have c2 : ch bs (sk bs p) ≠ 59 := fun z => a1 (by rw [z]; exact sp6_59.1)
        rw [if_neg c1, if_neg c2]
        refine ⟨g2, p', ?_, a3⟩
        rw [bind_eq a2, GH_f, if_neg (by rw [ii_eq (by omega) (by omega) (by omega) (by omega)]; omega), Option.bind_some]
        simp only
        rw [if_pos i00]
        exact st0 g2 p' (sk bs p) hs.2
/-- what lies in the arrays that a heath is read into -/
def Jg (g : AH) : Nat → Int := fun j => if 10 ≤ j ∧ j < 62 then vI (g.1 88 (j - 10)) else if 70 ≤ j ∧ j < 82 then vI (g.1 90 (j - 70)) else if 90 ≤ j ∧ j < 102 then vI (g.1 92 (j - 90)) else vI (g.1 94 (j - 110))
theorem RB.ini (h86 : ∀ j, j < 4 → g.1 86 j = ii (usM 0 j)) (hct : ∀ κ, κ < 5 → g.1 80 (ctM κ) = ii 0) (e : ∀ x, x = 88 ∨ x = 90 ∨ x = 92 ∨ x = 94 → g.1 x = g0.1 x) : RB (iniH (Jg g0)) g := by
  intro κ hk
  refine ⟨fun j hj => ?_, by rw [ini_c hk]; exact hct κ hk⟩
  rcases k5 hk with z | z | z | z | z <;> subst z
  · have hj' : j < 4 := hj
    have := ini_r (J := Jg g0) hj'
    show g.1 86 j = ii (iniH (Jg g0) (bsM 0 + j))
    rw [show bsM 0 + j = hbM 0 0 + j from rfl, this]
    exact h86 j hj'
  · have hj' : j < 52 := hj
    show g.1 88 j = ii (iniH (Jg g0) (10 + j))
    unfold iniH Jg
    rw [if_neg (by omega), if_neg (by omega), if_pos (by omega), show 10 + j - 10 = j by omega, e 88 (by decide)]
    exact vI_ii _
  · have hj' : j < 12 := hj
    show g.1 90 j = ii (iniH (Jg g0) (70 + j))
    unfold iniH Jg
    rw [if_neg (by omega), if_neg (by omega), if_neg (by omega), if_pos (by omega), show 70 + j - 70 = j by omega, e 90 (by decide)]
    exact vI_ii _
  · have hj' : j < 12 := hj
    show g.1 92 j = ii (iniH (Jg g0) (90 + j))
    unfold iniH Jg
    rw [if_neg (by omega), if_neg (by omega), if_neg (by omega), if_neg (by omega), if_pos (by omega), show 90 + j - 90 = j by omega, e 92 (by decide)]
    exact vI_ii _
  · have hj' : j < 36 := hj
    show g.1 94 j = ii (iniH (Jg g0) (110 + j))
    unfold iniH Jg
    rw [if_neg (by omega), if_neg (by omega), if_neg (by omega), if_neg (by omega), if_neg (by omega), show 110 + j - 110 = j by omega, e 94 (by decide)]
    exact vI_ii _
theorem RS.r8 (F : R8 g g1) : RS g g1 := by
  refine ⟨⟨fun L j hj => by rw [F.2.1 84 (by decide) (by decide) (by decide) (by decide) (by decide) (by decide)]; exact L j hj, fun o ho => ?_, fun j _ => by rw [F.2.1 95 (by decide) (by decide) (by decide) (by decide) (by decide) (by decide)], fun j _ => by rw [F.2.1 96 (by decide) (by decide) (by decide) (by decide) (by decide) (by decide)], fun j hj => F.2.2 j ?_⟩, fun o ho => F.2.1 o (by omega) (by omega) (by omega) (by omega) (by omega) (by omega), fun o _ => by rw [F.1]⟩
  · refine F.2.1 o ?_ ?_ ?_ ?_ ?_ ?_ <;> (intro z; subst z; exact absurd ho (by decide))
  · simp only [List.mem_cons, List.not_mem_nil, or_false] at hj ⊢
    omega
theorem R_hfault (t : TP 80 6 81 sb g bs) (ok : okB bs) : (match htF bs 241 0 (iniH (Jg g)) with
    | .inl e => ∃ g1, f_R_fault (ii 0) g = some (ii e, g1) ∧ RS g g1
    | .inr H => (Wh H ∧ ∃ g1, f_R_fault (ii 0) g = some (ii (-1), g1) ∧ RS g g1 ∧ RB H g1) ∨ (¬ Wh H ∧ ∃ g1, f_R_fault (ii 0) g = some (ii bs.length, g1) ∧ RS g g1)) := by
  have hFU := fu_1000
  have hl := ok.1
  have t0 : TP 80 6 81 sb (wI g 80 0 (ii 0)) bs := ⟨by rw [wI_self, upd_ne (by decide)]; exact t.1, fun j hj => by rw [wI_ne (by decide)]; exact t.2 j hj⟩
  have Kt := RS.t0 g (v := ii 0)
  have eJ : ∀ x, x = 88 ∨ x = 90 ∨ x = 92 ∨ x = 94 → (wI g 80 0 (ii 0)).1 x = g.1 x := fun x hx => wI_ne (by omega)
  have e0 : f_R_fault (ii 0) g = (f_R_readHeath (wI g 80 0 (ii 0))).bind fun q => some (q.1 80 11, q) := by
    unfold f_R_fault
    rw [if_neg (by decide), if_pos i00]
    cases f_R_readHeath (wI g 80 0 (ii 0)) with
    | none => rfl
    | some x =>
      simp only [Option.bind_some]
      rw [if_neg (by decide), Option.bind_some, if_neg (by decide), Option.bind_some]
  rw [e0]
  generalize wI g 80 0 (ii 0) = g0 at *
  have X := R_st_gx t0 ok
  have K1 := RS.st (g := g0) (l := ii bs.length)
  have rs := R_starts (n1 := 240) (l := ii bs.length) g0
  have eJ2 : ∀ x, x ≠ 80 → (wI (wI (wR g0 80 5 81) 80 8 (ii 0)) 80 9 (ii bs.length)).1 x = g0.1 x := fun x hx => by rw [wI_ne hx, wI_ne hx]; rfl
  generalize wI (wI (wR g0 80 5 81) 80 8 (ii 0)) 80 9 (ii bs.length) = gs at *
  generalize vI (g0.1 80 12) = dp at *
  obtain ⟨ga, ega⟩ : ∃ ga, ga = wI (wI (wI (wI (wI gs 80 35 (ii 0)) 80 36 (ii 0)) 80 37 (ii 0)) 80 38 (ii 0)) 80 40 (ii 0) := ⟨_, rfl⟩
  have Fa : R8 gs ga := by rw [ega]; exact ((((R8.wc (by decide)).tr (R8.wc (by decide))).tr (R8.wc (by decide))).tr (R8.wc (by decide))).tr (R8.wc (by decide))
  have ra : ∀ j, ga.1 80 j = if j = 40 then ii 0 else if j = 38 then ii 0 else if j = 37 then ii 0 else if j = 36 then ii 0 else if j = 35 then ii 0 else gs.1 80 j := fun j => by
    rw [ega]; simp only [wI_self, upd]
  obtain ⟨gb, z1, Fb, h86, hcb, hxb⟩ : ∃ gb, R_readHeath_L40 FU (ii 0) (GH ga 0 (-1) dp) = some (GH gb 0 (-1) dp) ∧ R8 gs gb ∧ (∀ j, j < 4 → gb.1 86 j = ii (usM 0 j)) ∧ gb.1 80 = ga.1 80 ∧ ∀ x, x ≠ 86 → gb.1 x = ga.1 x := by
    refine lup (fun u k (x : AH) => R_readHeath_L40 u (ii k) (GH x 0 (-1) dp)) 4 (fun k x => R8 gs x ∧ (∀ j, j < k → x.1 86 j = ii (usM 0 j)) ∧ x.1 80 = ga.1 80 ∧ ∀ y, y ≠ 86 → x.1 y = ga.1 y) (fun y => ∃ gb, y = some (GH gb 0 (-1) dp) ∧ R8 gs gb ∧ (∀ j, j < 4 → gb.1 86 j = ii (usM 0 j)) ∧ gb.1 80 = ga.1 80 ∧ ∀ x, x ≠ 86 → gb.1 x = ga.1 x) ?_ ?_ 4 0 FU ga (by omega) (by omega) ⟨Fa, fun j hj => by omega, rfl, fun _ _ => rfl⟩
    · rintro u x ⟨r1, r2, r3, r4⟩
      refine ⟨x, ?_, r1, r2, r3, r4⟩
      simp (disch := omega) only [Option.bind_some, if_true, if_false, not_true_eq_false, not_false_eq_true, z0, ii_add, ii_sub, ii_mul, ifLeT, ifLeF, ifLtT, ifLtF, ifEqT, ifEqF, ifNeT, ifNeF, ifIn, nixZ, ii_i64, o0, o1, isInT, isInF, tn14, tn12, tn2, tn21, tn47, tn48, tn49, tn471, tn472, Int.reduceToNat, Int.toNat_natCast, Int.reduceAdd, Int.reduceSub, Int.reduceMul, Int.reduceNeg, Nat.reduceAdd, Nat.reduceSub, Nat.reduceMul, R_readHeath_L40, R_readHeath_L40_b, Int.cast_ofNat_Int]
    · rintro u k x hk ⟨r1, r2, r3, r4⟩
      right
      have eu := (r_us 0 (by omega) k hk).1
      have eu' : p_R_usual (ii 115) (ii k) = ii (usM 0 k) := eu
      refine ⟨wI x 86 k (ii (usM 0 k)), ?_, r1.tr (R8.w (κ := 0) (by omega)), fun j hj => ?_, by rw [wI_ne (by decide)]; exact r3, fun y hy => by rw [wI_ne hy]; exact r4 y hy⟩
      · show R_readHeath_L40_b _ _ _ = _
        unfold R_readHeath_L40_b
        rw [if_neg (by rw [ii_le (by omega) (by omega) (by omega) (by omega)]; omega), if_pos (by rw [ii_inb (by omega) (by omega)]; omega), ii_nat (by omega) (by omega), Int.toNat_natCast, eu', GH_w (by decide), ii_sc]
      · rw [wI_self]
        by_cases e : j = k
        · rw [e, upd_self]
        · rw [upd_ne e]; exact r2 j (by omega)
  have RI : RB (iniH (Jg g)) gb := RB.ini h86 (fun κ hk => by
    rw [hcb, ra]
    rcases k5 hk with z | z | z | z | z <;> subst z <;> rfl) (fun x hx => by rw [hxb x (by omega), ega, wI_ne (by omega), wI_ne (by omega), wI_ne (by omega), wI_ne (by omega), wI_ne (by omega), eJ2 x (by omega), eJ x hx])
  have key := R_hts ok (dp := dp) 241 0 (iniH (Jg g)) FU gb (Nat.zero_le _) (by omega) (by omega) ini_hp (X.r8 Fb) RI
  have e1 : f_R_readHeath g0 = R_readHeath_L65 FU (ii 1) (GH gb 0 (-1) dp) := by
    unfold f_R_readHeath
    generalize FU = F at *
    rw [t0.1, bind_eq rs, GH_w80 (by decide) (by decide) (by decide), GH_w80 (by decide) (by decide) (by decide), GH_w80 (by decide) (by decide) (by decide), GH_w80 (by decide) (by decide) (by decide), GH_w80 (by decide) (by decide) (by decide), ← ega, bind_eq z1]
  rw [e1]
  generalize htF bs 241 0 (iniH (Jg g)) = r at *
  rcases r with e | H
  · obtain ⟨g2, p, y1, y2⟩ := key
    exact ⟨_, by rw [bind_eq y1, GH_f], (Kt.tr K1).tr ((RS.r8 (Fb.tr y2)).tr RS.gh)⟩
  · rcases key with ⟨w, g2, p, y1, y2, y3⟩ | ⟨w, g2, p, y1, y2⟩
    · exact Or.inl ⟨w, _, by rw [bind_eq y1, GH_f], (Kt.tr K1).tr ((RS.r8 (Fb.tr y2)).tr RS.gh), y3.gh⟩
    · exact Or.inr ⟨w, _, by rw [bind_eq y1, GH_f], (Kt.tr K1).tr ((RS.r8 (Fb.tr y2)).tr RS.gh)⟩
theorem sp_of (C : CRep S B h) : ∃ o, (o = 43 ∨ o = 49) ∧ h.2.2 3 4 = o ∧ h.2.2 0 13 = 92 - o := by
  obtain ⟨c1, ⟨o, ho, p1, p2, p3⟩, c3⟩ := C
  exact ⟨92 - o, by omega, p2, by omega⟩
theorem k_fault0 (V : VS S) (C : CRep S B h) (R : RRep S g) : Call S B h g (f_HF_fault (ii 0) h) (f_R_fault (ii 0) g) := by
  obtain ⟨o, ho, er, _⟩ := sp_of C
  have c := C_hfault (J := Jg g) V.1 C.1 ho er
  have r := R_hfault R.1 V.1
  have e0 : f_HF_fault (ii 0) h = f_HR_faultOf h := by
    unfold f_HF_fault
    rw [if_pos rfl]
    cases f_HR_faultOf h <;> rfl
  rw [e0]
  generalize htF (sB S) 241 0 (iniH (Jg g)) = z at *
  rcases z with e | H
  · obtain ⟨h1, z1, z2⟩ := c
    obtain ⟨g1, y1, y2⟩ := r
    exact call_ks V C R z1 y1 (z2.ks ho er).1 (z2.ks ho er).2 y2
  · rcases c with ⟨w, h1, z1, z2, _⟩ | ⟨w, h1, z1, z2⟩ <;> rcases r with ⟨w', g1, y1, y2, _⟩ | ⟨w', g1, y1, y2⟩
    · exact call_ks V C R z1 y1 (z2.ks ho er).1 (z2.ks ho er).2 y2
    · exact absurd w w'
    · exact absurd w' w
    · exact call_ks V C R z1 y1 (z2.ks ho er).1 (z2.ks ho er).2 y2
theorem k_fault (V : VS S) (C : CRep S B h) (R : RRep S g) {a : Int} (a0 : -2147483648 ≤ a) (a1 : a ≤ 2147483647) : Call S B h g (f_HF_fault (ii a) h) (f_R_fault (ii a) g) := by
  by_cases q0 : a = 0
  · rw [q0]; exact k_fault0 V C R
  · by_cases q1 : a = 1
    · rw [q1]; exact k_fault1 V C R
    · by_cases q2 : a = 2
      · rw [q2]; exact k_fault2 V C R
      · have Kt := RS.t0 g (v := ii 0)
        have e1 : f_HF_fault (ii a) h = some (ii (-2), h) := by
          unfold f_HF_fault
          simp (disch := omega) only [Option.bind_some, if_true, if_false, not_true_eq_false, not_false_eq_true, z0, ii_add, ii_sub, ii_mul, ifLeT, ifLeF, ifLtT, ifLtF, ifEqT, ifEqF, ifNeT, ifNeF, ifIn, nixZ, ii_i64, o0, o1, isInT, isInF, tn14, tn12, tn2, tn21, tn47, tn48, tn49, tn471, tn472, Int.reduceToNat, Int.toNat_natCast, Int.reduceAdd, Int.reduceSub, Int.reduceMul, Int.reduceNeg, Nat.reduceAdd, Nat.reduceSub, Nat.reduceMul]
        have e2 : f_R_fault (ii a) g = some (ii (-2), wI g 80 0 (ii 0)) := by
          unfold f_R_fault
          generalize wI g 80 0 (ii 0) = g0
          by_cases q3 : a < 0
          · simp (disch := omega) only [Option.bind_some, if_true, if_false, not_true_eq_false, not_false_eq_true, z0, ii_add, ii_sub, ii_mul, ifLeT, ifLeF, ifLtT, ifLtF, ifEqT, ifEqF, ifNeT, ifNeF, ifIn, nixZ, ii_i64, o0, o1, isInT, isInF, tn14, tn12, tn2, tn21, tn47, tn48, tn49, tn471, tn472, Int.reduceToNat, Int.toNat_natCast, Int.reduceAdd, Int.reduceSub, Int.reduceMul, Int.reduceNeg, Nat.reduceAdd, Nat.reduceSub, Nat.reduceMul, isInF]
          · simp (disch := omega) only [Option.bind_some, if_true, if_false, not_true_eq_false, not_false_eq_true, z0, ii_add, ii_sub, ii_mul, ifLeT, ifLeF, ifLtT, ifLtF, ifEqT, ifEqF, ifNeT, ifNeF, ifIn, nixZ, ii_i64, o0, o1, isInT, isInF, tn14, tn12, tn2, tn21, tn47, tn48, tn49, tn471, tn472, Int.reduceToNat, Int.toNat_natCast, Int.reduceAdd, Int.reduceSub, Int.reduceMul, Int.reduceNeg, Nat.reduceAdd, Nat.reduceSub, Nat.reduceMul, isInF]
        exact call_same V C R e1 e2 (CS.rf _) Kt
end RR
