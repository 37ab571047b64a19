/-! the reference reads and reckons: sums -/
/-- how a reading came out: with a value that the code means; or with the fault -/
def GRs (bs : List Int) (g0 : AH) (dp : Int) (L : Nat → Int32) (K : Nat) (x : Option (Int32 × AH)) (r : PR) : Prop := match r with
  | .inl e => e ≤ bs.length ∧ ∃ (v : Int32) (p' : Nat) (dp' : Int), x = some (v, GH g0 p' e dp')
  | .inr (q, C) => ∃ v : Int, x = some (ii v, GH g0 q (-1) dp) ∧ Sem L K C v
def LTR (g0 : AH) (L : Nat → Int32) : Prop := (L 0 = g0.1 84 100 ∧ L 1 = g0.1 84 109 ∧ L 2 = g0.1 84 105 ∧ L 3 = g0.1 84 120 ∧ L 4 = g0.1 84 115 ∧ L 5 = g0.1 84 111) ∧ ∀ i, i < 6 → ∃ z : Int, -1000000 ≤ z ∧ z ≤ 1000000 ∧ L i = ii z
theorem lg_0 (x : Int64) : (lg_cmp x (Int64.ofNat 0) = ii 0) ↔ x = 0 := by
  unfold lg_cmp
  by_cases q : x = 0
  · subst q; decide
  · have q' : ¬ x = Int64.ofNat 0 := q
    by_cases q2 : x > Int64.ofNat 0
    · rw [if_pos q2]
      exact ⟨fun z => absurd z (by decide), fun z => absurd z q⟩
    · rw [if_neg q2, if_neg q']
      exact ⟨fun z => absurd z (by decide), fun z => absurd z q⟩
theorem amg_v : ∀ c : Nat, c < 256 → liM c ≠ -1 → (c = 100 ∨ c = 109 ∨ c = 105 ∨ c = 120 ∨ c = 115 ∨ c = 111) := by decide +kernel
section GE
variable {g0 : AH} {bs : List Int} {T b0 : Nat} {L : Nat → Int32}
theorem R_among {o : Nat} (ho : o < 10) (ho8 : o ≠ 8) {c : Int} {g : AH} : f_R_isAmong o (ii c) g = some (if spM o c = -1 then ii 0 else ii 1) := by
  have h1 : stL o ≤ 6 ∧ stL o ≤ 100 := by
    by_cases q : o < 8
    · have := st_6 o q; omega
    · have : o = 9 := by omega
      subst this; rw [st_9]; omega
  have e3 : p_Str_length o = ii (stL o) := by
    unfold p_Str_length p_Str_coder
    have : ∀ k : Nat, k < 7 → shrI (ii k) 0 = ii k := by decide +kernel
    exact this (stL o) (by omega)
  unfold f_R_isAmong
  have hlo := fun k i => idxF_lo (l := am_str.getD o []) (x := ii c) k i
  refine lup (fun m k (_ : Unit) => R_isAmong_L2 m o (ii c) (ii k) g) (stL o) (fun k _ => idxF (am_str.getD o []) (ii c) (stL o - k) k = spM o c) (fun y => y = some (if spM o c = -1 then ii 0 else ii 1)) ?_ ?_ (stL o) 0 FU () (by omega) (by unfold FU; omega) rfl
  · rintro m _ r
    rw [Nat.sub_self] at r
    have : spM o c = -1 := by rw [← r]; rfl
    rw [if_pos this]
    simp (disch := omega) only [Option.bind_some, if_true, if_false, not_true_eq_false, not_false_eq_true, z0, ii_add, ii_sub, ii_mul, ifLeT, ifLeF, ifLtT, ifLtF, ifEqT, ifEqF, ifNeT, ifNeF, ifIn, nixZ, ii_i64, o0, o1, isInT, isInF, tn14, tn12, tn2, tn21, tn47, tn48, tn49, tn471, tn472, Int.reduceToNat, Int.toNat_natCast, Int.reduceAdd, Int.reduceSub, Int.reduceMul, Int.reduceNeg, Nat.reduceAdd, Nat.reduceSub, Nat.reduceMul, R_isAmong_L2, R_isAmong_L2_b, e3]
  · rintro m k _ hk r
    rw [show stL o - k = (stL o - (k + 1)) + 1 by omega, idxF_s] at r
    by_cases q : (am_str.getD o []).getD k (ii 0) = ii c
    · left
      rw [if_pos q] at r
      rw [if_neg (by omega)]
      simp (disch := omega) only [Option.bind_some, if_true, if_false, not_true_eq_false, not_false_eq_true, z0, ii_add, ii_sub, ii_mul, ifLeT, ifLeF, ifLtT, ifLtF, ifEqT, ifEqF, ifNeT, ifNeF, ifIn, nixZ, ii_i64, o0, o1, isInT, isInF, tn14, tn12, tn2, tn21, tn47, tn48, tn49, tn471, tn472, Int.reduceToNat, Int.toNat_natCast, Int.reduceAdd, Int.reduceSub, Int.reduceMul, Int.reduceNeg, Nat.reduceAdd, Nat.reduceSub, Nat.reduceMul, R_isAmong_L2, R_isAmong_L2_b, e3, R_cha (h := g) ho ho8 hk, q]
    · right
      rw [if_neg q] at r
      simp (disch := omega) only [Option.bind_some, if_true, if_false, not_true_eq_false, not_false_eq_true, z0, ii_add, ii_sub, ii_mul, ifLeT, ifLeF, ifLtT, ifLtF, ifEqT, ifEqF, ifNeT, ifNeF, ifIn, nixZ, ii_i64, o0, o1, isInT, isInF, tn14, tn12, tn2, tn21, tn47, tn48, tn49, tn471, tn472, Int.reduceToNat, Int.toNat_natCast, Int.reduceAdd, Int.reduceSub, Int.reduceMul, Int.reduceNeg, Nat.reduceAdd, Nat.reduceSub, Nat.reduceMul, R_isAmong_L2, R_isAmong_L2_b, e3, R_cha (h := g) ho ho8 hk, q]
      exact ⟨(), rfl, r⟩
theorem G_atL (X : GX bs T b0 g0) {dp : Int} : ∀ (k dg : Nat) (v : Int) (p n : Nat), p ≤ bs.length → dg + k = 6 → dg ≤ 4 → k < n → 0 ≤ v → v < 10 ^ dg → (dg ≠ 0 ∨ (48 ≤ ch bs p ∧ ch bs p ≤ 57)) → GRs bs g0 dp L 1 (R_atom_L90 n (ii v) (ii dg) (GH g0 p (-1) dp)) (nuF bs 4 k dg v p) := by
  have x2 := X.2.1
  have x4 := X.2.2.2.1
  have hl := X.2.2.2.2.2.2.1.1
  have x8 := X.2.2.2.2.2.2.2
  intro k
  induction k with
  | zero => intro dg v p n _ h1 h2; omega
  | succ k ih =>
    intro dg v p n hp hk hd hn v0 v1 hdg
    obtain ⟨n, rfl⟩ : ∃ z, n = z + 1 := ⟨n - 1, by omega⟩
    have h10 : (10 : Int) ^ dg ≤ 10000 := by
      rcases (show dg = 0 ∨ dg = 1 ∨ dg = 2 ∨ dg = 3 ∨ dg = 4 by omega) with z | z | z | z | z <;> rw [z] <;> decide
    have en : nuF bs 4 (k + 1) dg v p = if 48 ≤ ch bs p ∧ ch bs p ≤ 57 then (if dg = 4 then .inl p else nuF bs 4 k (dg + 1) (v * 10 + ch bs p - 48) (p + 1)) else if dg = 0 then .inl p else .inr (p, [v]) := rfl
    rw [en]
    by_cases q : 48 ≤ ch bs p ∧ ch bs p ≤ 57
    · have hlt := ch_lt (bs := bs) (p := p) (by omega)
      obtain ⟨d1, d2⟩ := G_dgT X (ft := -1) (dp := dp) q.1 q.2
      rw [if_pos q]
      have ei : ((b0 : Int) + p).toNat = b0 + p := by omega
      have e5 : (GH g0 p (-1) dp).2.2 80 5 = T := X.1
      rw [e5] at d2
      by_cases q2 : dg = 4
      · rw [if_pos q2]
        subst q2
        simp (disch := omega) only [Option.bind_some, if_true, if_false, not_true_eq_false, not_false_eq_true, z0, ii_add, ii_sub, ii_mul, ifLeT, ifLeF, ifLtT, ifLtF, ifEqT, ifEqF, ifNeT, ifNeF, ifIn, nixZ, ii_i64, o0, o1, isInT, isInF, tn14, tn12, tn2, tn21, tn47, tn48, tn49, tn471, tn472, Int.reduceToNat, Int.toNat_natCast, Int.reduceAdd, Int.reduceSub, Int.reduceMul, Int.reduceNeg, Nat.reduceAdd, Nat.reduceSub, Nat.reduceMul, R_atom_L90, R_atom_L90_b, d1, GH_f, Int.cast_ofNat_Int, G_fl]
        exact ⟨by omega, _, _, _, rfl⟩
      · rw [if_neg q2]
        have p10 : (10 : Int) ^ (dg + 1) = 10 ^ dg * 10 := by rw [Int.pow_succ]
        have ih' := ih (dg + 1) (v * 10 + ch bs p - 48) (p + 1) n (by omega) (by omega) (by omega) (by omega) (by omega) (by omega) (Or.inl (by omega))
        have ec : 10 * v + ch bs p - 48 = v * 10 + ch bs p - 48 := by omega
        simp (disch := omega) only [Option.bind_some, if_true, if_false, not_true_eq_false, not_false_eq_true, z0, ii_add, ii_sub, ii_mul, ifLeT, ifLeF, ifLtT, ifLtF, ifEqT, ifEqF, ifNeT, ifNeF, ifIn, nixZ, ii_i64, o0, o1, isInT, isInF, tn14, tn12, tn2, tn21, tn47, tn48, tn49, tn471, tn472, Int.reduceToNat, Int.toNat_natCast, Int.reduceAdd, Int.reduceSub, Int.reduceMul, Int.reduceNeg, Nat.reduceAdd, Nat.reduceSub, Nat.reduceMul, R_atom_L90, R_atom_L90_b, d1, GH_f, GH_8, GH_a, x2, e5, ei, d2, GH_inc, ec]
        exact ih'
    · rw [if_neg q]
      rcases hdg with hdg | hdg
      · rw [if_neg hdg]
        simp (disch := omega) only [Option.bind_some, if_true, if_false, not_true_eq_false, not_false_eq_true, z0, ii_add, ii_sub, ii_mul, ifLeT, ifLeF, ifLtT, ifLtF, ifEqT, ifEqF, ifNeT, ifNeF, ifIn, nixZ, ii_i64, o0, o1, isInT, isInF, tn14, tn12, tn2, tn21, tn47, tn48, tn49, tn471, tn472, Int.reduceToNat, Int.toNat_natCast, Int.reduceAdd, Int.reduceSub, Int.reduceMul, Int.reduceNeg, Nat.reduceAdd, Nat.reduceSub, Nat.reduceMul, R_atom_L90, R_atom_L90_b, G_dgF X hp q]
        exact ⟨v, rfl, sem_num v0 (by omega)⟩
      · exact absurd hdg q
theorem G_at {rc : Nat → AH → Option (Int32 × AH)} (X : GX bs T b0 g0) (hL : LTR g0 L) {sub : Option (Nat → PR)} {dp : Nat} {K : Nat} (hK : 1 ≤ K) (hd : dp ≤ 6) (hn : sub = none → dp = 6) (hs : ∀ f, sub = some f → dp < 6 ∧ okA bs f ∧ ∀ p, p ≤ bs.length → GRs bs g0 (dp + 1 : Nat) L K (rc 0 (GH g0 p (-1) (dp + 1 : Nat))) (f p)) {p : Nat} (hp : p ≤ bs.length) : GRs bs g0 dp L K (u_R_atom rc (GH g0 p (-1) dp)) (atB bs sub p) := by
  have okb := X.2.2.2.2.2.2.1
  have hl := okb.1
  have hk := sk_lo hp
  have hc := ch_lo okb (sk bs p)
  unfold u_R_atom atB
  rw [bind_eq (G_lk X hp)]
  have hsp := R_among (o := 7) (by omega) (by omega) (c := ch bs (sk bs p)) (g := GH g0 (sk bs p) (-1) dp)
  rw [L_li hc] at hsp
  simp only
  rw [bind_eq hsp]
  have hli := li_lo (ch bs (sk bs p))
  by_cases q : ch bs (sk bs p) = 91
  · have hl1 : liM (ch bs (sk bs p)) = -1 := by rw [q]; decide
    rw [if_pos q, if_pos hl1]
    have hlt := ch_lt (bs := bs) (p := sk bs p) (by omega)
    cases sub with
    | none =>
      have := hn rfl
      unfold f_R_goesIn
      simp (disch := omega) only [Option.bind_some, if_true, if_false, not_true_eq_false, not_false_eq_true, z0, ii_add, ii_sub, ii_mul, ifLeT, ifLeF, ifLtT, ifLtF, ifEqT, ifEqF, ifNeT, ifNeF, ifIn, nixZ, ii_i64, o0, o1, isInT, isInF, tn14, tn12, tn2, tn21, tn47, tn48, tn49, tn471, tn472, Int.reduceToNat, Int.toNat_natCast, Int.reduceAdd, Int.reduceSub, Int.reduceMul, Int.reduceNeg, Nat.reduceAdd, Nat.reduceSub, Nat.reduceMul, q, GH_d, G_fl]
      rw [if_pos (Or.inl trivial)]
      simp (disch := omega) only [Option.bind_some, if_true, if_false, not_true_eq_false, not_false_eq_true, z0, ii_add, ii_sub, ii_mul, ifLeT, ifLeF, ifLtT, ifLtF, ifEqT, ifEqF, ifNeT, ifNeF, ifIn, nixZ, ii_i64, o0, o1, isInT, isInF, tn14, tn12, tn2, tn21, tn47, tn48, tn49, tn471, tn472, Int.reduceToNat, Int.toNat_natCast, Int.reduceAdd, Int.reduceSub, Int.reduceMul, Int.reduceNeg, Nat.reduceAdd, Nat.reduceSub, Nat.reduceMul]
      exact ⟨hk.2, _, _, _, rfl⟩
    | some f =>
      obtain ⟨s1, s2, s3⟩ := hs f rfl
      have s4 := s3 (sk bs p + 1) (by omega)
      have s5 := s2 (sk bs p + 1) (by omega)
      have ed : ((dp + 1 : Nat) : Int) = (dp : Int) + 1 := by omega
      rw [ed] at s4
      show GRs bs g0 dp L K _ (andP (f (sk bs p + 1)) (tkP bs 93))
      unfold f_R_goesIn
      simp (disch := omega) only [Option.bind_some, if_true, if_false, not_true_eq_false, not_false_eq_true, z0, ii_add, ii_sub, ii_mul, ifLeT, ifLeF, ifLtT, ifLtF, ifEqT, ifEqF, ifNeT, ifNeF, ifIn, nixZ, ii_i64, o0, o1, isInT, isInF, tn14, tn12, tn2, tn21, tn47, tn48, tn49, tn471, tn472, Int.reduceToNat, Int.toNat_natCast, Int.reduceAdd, Int.reduceSub, Int.reduceMul, Int.reduceNeg, Nat.reduceAdd, Nat.reduceSub, Nat.reduceMul, q, GH_d, GH_sd, GH_a, GH_inc]
      revert s4 s5
      cases f (sk bs p + 1) with
      | inl e =>
        rintro ⟨he, v, p', dp', s4⟩ _
        simp (disch := omega) only [Option.bind_some, if_true, if_false, not_true_eq_false, not_false_eq_true, z0, ii_add, ii_sub, ii_mul, ifLeT, ifLeF, ifLtT, ifLtF, ifEqT, ifEqF, ifNeT, ifNeF, ifIn, nixZ, ii_i64, o0, o1, isInT, isInF, tn14, tn12, tn2, tn21, tn47, tn48, tn49, tn471, tn472, Int.reduceToNat, Int.toNat_natCast, Int.reduceAdd, Int.reduceSub, Int.reduceMul, Int.reduceNeg, Nat.reduceAdd, Nat.reduceSub, Nat.reduceMul, s4, G_tk2 (show e ≤ 1000 by omega)]
        exact ⟨he, _, _, _, rfl⟩
      | inr u =>
        rintro ⟨v, s4, s6⟩ s5
        obtain ⟨t1, t2, t3⟩ := s5
        rw [andP_r]
        unfold tkP
        by_cases q2 : ch bs (sk bs u.1) = 93
        · rw [if_pos q2]
          have ez : (dp : Int) + 1 - 1 = dp := by omega
          simp (disch := omega) only [Option.bind_some, if_true, if_false, not_true_eq_false, not_false_eq_true, z0, ii_add, ii_sub, ii_mul, ifLeT, ifLeF, ifLtT, ifLtF, ifEqT, ifEqF, ifNeT, ifNeF, ifIn, nixZ, ii_i64, o0, o1, isInT, isInF, tn14, tn12, tn2, tn21, tn47, tn48, tn49, tn471, tn472, Int.reduceToNat, Int.toNat_natCast, Int.reduceAdd, Int.reduceSub, Int.reduceMul, Int.reduceNeg, Nat.reduceAdd, Nat.reduceSub, Nat.reduceMul, s4, G_tkT X t2 (c := 93) q2, GH_d, GH_sd, ez]
          exact ⟨v, rfl, s6⟩
        · rw [if_neg q2]
          simp (disch := omega) only [Option.bind_some, if_true, if_false, not_true_eq_false, not_false_eq_true, z0, ii_add, ii_sub, ii_mul, ifLeT, ifLeF, ifLtT, ifLtF, ifEqT, ifEqF, ifNeT, ifNeF, ifIn, nixZ, ii_i64, o0, o1, isInT, isInF, tn14, tn12, tn2, tn21, tn47, tn48, tn49, tn471, tn472, Int.reduceToNat, Int.toNat_natCast, Int.reduceAdd, Int.reduceSub, Int.reduceMul, Int.reduceNeg, Nat.reduceAdd, Nat.reduceSub, Nat.reduceMul, s4, G_tkF X t2 (c := 93) (by omega) (by omega) q2]
          have := sk_lo t2
          exact ⟨this.2, _, _, _, rfl⟩
  · rw [if_neg q]
    by_cases q2 : liM (ch bs (sk bs p)) = -1
    · rw [if_pos q2, if_pos q2]
      by_cases q3 : 48 ≤ ch bs (sk bs p) ∧ ch bs (sk bs p) ≤ 57
      · obtain ⟨d1, d2⟩ := G_dgT X (ft := -1) (dp := dp) q3.1 q3.2
        have hA := G_atL (L := L) X (dp := dp) 6 0 0 (sk bs p) FU hk.2 (by omega) (by omega) (by unfold FU; omega) (by omega) (by decide) (Or.inr q3)
        simp (disch := omega) only [Option.bind_some, if_true, if_false, not_true_eq_false, not_false_eq_true, z0, ii_add, ii_sub, ii_mul, ifLeT, ifLeF, ifLtT, ifLtF, ifEqT, ifEqF, ifNeT, ifNeF, ifIn, nixZ, ii_i64, o0, o1, isInT, isInF, tn14, tn12, tn2, tn21, tn47, tn48, tn49, tn471, tn472, Int.reduceToNat, Int.toNat_natCast, Int.reduceAdd, Int.reduceSub, Int.reduceMul, Int.reduceNeg, Nat.reduceAdd, Nat.reduceSub, Nat.reduceMul, d1]
        have hA' : GRs bs g0 dp L 1 (R_atom_L90 FU (ii 0) (ii 0) (GH g0 (sk bs p) (-1) dp)) (nuF bs 4 6 0 0 (sk bs p)) := hA
        revert hA'
        cases nuF bs 4 6 0 0 (sk bs p) with
        | inl e => intro hA'; exact hA'
        | inr u =>
          rintro ⟨v, a1, a2⟩
          exact ⟨v, a1, a2.mono hK⟩
      · have en : nuF bs 4 6 0 0 (sk bs p) = .inl (sk bs p) := by
          show (if 48 ≤ ch bs (sk bs p) ∧ ch bs (sk bs p) ≤ 57 then _ else if (0 : Nat) = 0 then _ else _) = _
          rw [if_neg q3, if_pos rfl]
        rw [en]
        obtain ⟨N, hN⟩ : ∃ N, FU = N + 1 := ⟨99999, rfl⟩
        have d0 : ∀ ft : Int, f_R_isDigit (GH g0 (sk bs p) ft dp) = some (ii 0) := fun ft => G_dgF X hk.2 q3
        rw [hN]
        simp (disch := omega) only [Option.bind_some, if_true, if_false, not_true_eq_false, not_false_eq_true, z0, ii_add, ii_sub, ii_mul, ifLeT, ifLeF, ifLtT, ifLtF, ifEqT, ifEqF, ifNeT, ifNeF, ifIn, nixZ, ii_i64, o0, o1, isInT, isInF, tn14, tn12, tn2, tn21, tn47, tn48, tn49, tn471, tn472, Int.reduceToNat, Int.toNat_natCast, Int.reduceAdd, Int.reduceSub, Int.reduceMul, Int.reduceNeg, Nat.reduceAdd, Nat.reduceSub, Nat.reduceMul, d0, G_fl, R_atom_L90, R_atom_L90_b]
        exact ⟨hk.2, _, _, _, rfl⟩
    · rw [if_neg q2, if_neg q2]
      have hlt := ch_lt (bs := bs) (p := sk bs p) (by intro z; rw [z] at q2; exact q2 (by decide))
      have hc' := ch_ok okb hlt
      obtain ⟨c, hcc⟩ := Int.eq_ofNat_of_zero_le (show 0 ≤ ch bs (sk bs p) by omega)
      rw [hcc] at q2
      have hv := amg_v c (by omega) q2
      obtain ⟨⟨l0, l1, l2, l3, l4, l5⟩, lb⟩ := hL
      have e84 : ∀ (q : Nat) (ft : Int) (dp : Int), (GH g0 q ft dp).1 84 = g0.1 84 := fun q ft dp => GH_n (by decide)
      have lz : ∃ i : Int, 0 ≤ i ∧ i ≤ 5 ∧ liM c = i ∧ L i.toNat = g0.1 84 c := by
        rcases hv with e | e | e | e | e | e <;> subst e
        · exact ⟨0, by omega, by omega, by decide, l0⟩
        · exact ⟨1, by omega, by omega, by decide, l1⟩
        · exact ⟨2, by omega, by omega, by decide, l2⟩
        · exact ⟨3, by omega, by omega, by decide, l3⟩
        · exact ⟨4, by omega, by omega, by decide, l4⟩
        · exact ⟨5, by omega, by omega, by decide, l5⟩
      obtain ⟨i, i0, i5, i6, i7⟩ := lz
      obtain ⟨z, z1, z2, z3⟩ := lb i.toNat (by omega)
      rw [hcc]
      have e84' : g0.1 84 c = ii z := by rw [← i7, z3]
      simp (disch := omega) only [Option.bind_some, if_true, if_false, not_true_eq_false, not_false_eq_true, z0, ii_add, ii_sub, ii_mul, ifLeT, ifLeF, ifLtT, ifLtF, ifEqT, ifEqF, ifNeT, ifNeF, ifIn, nixZ, ii_i64, o0, o1, isInT, isInF, tn14, tn12, tn2, tn21, tn47, tn48, tn49, tn471, tn472, Int.reduceToNat, Int.toNat_natCast, Int.reduceAdd, Int.reduceSub, Int.reduceMul, Int.reduceNeg, Nat.reduceAdd, Nat.reduceSub, Nat.reduceMul, GH_a, GH_inc, e84, e84']
      rw [i6]
      exact ⟨z, rfl, (sem_let i0 i5 z3 z1 z2).mono hK⟩
end GE
