/-! the reference reads and reckons: conditions -/
def GRb (bs : List Int) (g0 : AH) (dp : Int) (L : Nat → Int32) (K : Nat) (x : Option (Int32 × AH)) (r : PR) : Prop := match r with
  | .inl e => e ≤ bs.length ∧ ∃ (b : Bool) (p' : Nat) (dp' : Int), x = some (bI b, GH g0 p' e dp')
  | .inr (q, C) => ∃ b : Bool, x = some (bI b, GH g0 q (-1) dp) ∧ Sem L K C (if b then 1 else 0)
theorem bI_or (b : Bool) : bI b = ii 0 ∨ bI b = 1 := by cases b; exact Or.inl rfl; exact Or.inr rfl
theorem bI_z (b : Bool) : (bI b = ii 0) ↔ b = false := by cases b <;> decide
theorem isg_v : ∀ c : Nat, c < 256 → p_R_isSign (ii c) = if cmM c = -1 then ii 0 else ii 1 := by decide +kernel
theorem G_isg {c : Int} (h : c = -1 ∨ (1 ≤ c ∧ c ≤ 255)) : p_R_isSign (ii c) = if cmM c = -1 then ii 0 else ii 1 := by
  rcases h with h | h
  · subst h; decide
  · obtain ⟨n, rfl⟩ := Int.eq_ofNat_of_zero_le (show 0 ≤ c by omega)
    exact isg_v n (by omega)
section GC
variable {g0 : AH} {bs : List Int} {T b0 : Nat} {L : Nat → Int32}
theorem GRb_b {dp : Int} {K : Nat} {x : Option (Int32 × AH)} {r : PR} (h : GRb bs g0 dp L K x r) : GRb bs g0 dp L K (x.bind fun q => if q.1 = ii 0 ∨ q.1 = 1 then some (q.1, q.2) else none) r := by
  cases r with
  | inl e =>
    obtain ⟨he, b, p', dp', h⟩ := h
    rw [bind_eq h]
    exact ⟨he, b, p', dp', by simp only [if_pos (bI_or b)]⟩
  | inr v =>
    obtain ⟨b, h, s⟩ := h
    rw [bind_eq h]
    exact ⟨b, by simp only [if_pos (bI_or b)], s⟩
theorem b01_b (P : Prop) [Decidable P] : b01 P = if decide P then 1 else 0 := by unfold b01; by_cases h : P <;> simp [h]
/-- the sign and the second sum -/
theorem G_c2 (X : GX bs T b0 g0) (hL : LTR g0 L) {k dp : Nat} (h : dp + k = 6) {q : Nat} {C : List Int} {v : Int} (hq : q ≤ bs.length) (hS : Sem L (2 * k + 4) C v) : GRb bs g0 dp L (2 * k + 4) ((f_R_look (GH g0 q (-1) dp)).bind fun q3 => if p_R_isSign q3.1 = ii 0 then (f_R_fails q3.2).bind fun q5 => if q5.1 = ii 0 ∨ q5.1 = 1 then some (q5.1, q5.2) else none else (g2 40 0 (wI q3.2 80 10 (q3.2.1 80 10 + ii 1))).bind fun q4 => if q3.1 = ii 61 then (if ii v = q4.1 then some (ii 1, q4.2) else some (ii 0, q4.2)) else if q3.1 = ii 60 then (if q4.1 ≤ ii v then some (ii 0, q4.2) else some (ii 1, q4.2)) else if ii v ≤ q4.1 then some (ii 0, q4.2) else some (ii 1, q4.2)) (cm2 bs k q C) := by
  have okb := X.2.2.2.2.2.2.1
  have hl := okb.1
  have hk := sk_lo hq
  have hc := ch_lo okb (sk bs q)
  have hsg := G_isg hc
  have hv := hS.2.1
  unfold cm2
  rw [bind_eq (G_lk X hq)]
  by_cases q1 : cmM (ch bs (sk bs q)) = -1
  · rw [if_pos q1] at hsg ⊢
    simp only [hsg, if_true]
    rw [bind_eq G_fl]
    exact ⟨hk.2, false, _, _, by simp only; rw [if_pos (Or.inl trivial)]; rfl⟩
  · rw [if_neg q1] at hsg ⊢
    have hlt := ch_lt (bs := bs) (p := sk bs q) (by intro z; rw [z] at q1; exact q1 (by decide))
    simp only [hsg]
    rw [if_neg j10, GH_a, ii_add, GH_inc]
    have h1 := G_sum X hL h (p := sk bs q + 1) (by omega)
    have hcm : ch bs (sk bs q) = 61 ∨ ch bs (sk bs q) = 60 ∨ ch bs (sk bs q) = 62 := by
      unfold cmM at q1
      by_cases z1 : ch bs (sk bs q) = 61
      · exact Or.inl z1
      · by_cases z2 : ch bs (sk bs q) = 60
        · exact Or.inr (Or.inl z2)
        · by_cases z3 : ch bs (sk bs q) = 62
          · exact Or.inr (Or.inr z3)
          · rw [if_neg z1, if_neg z2, if_neg z3] at q1; exact absurd rfl q1
    revert h1
    cases pSm bs k (sk bs q + 1) with
    | inl e =>
      rintro ⟨he, w, p', dp', h1⟩
      rw [bind_eq h1, andP_l]
      simp only
      have fin : ∀ y : Option (Int32 × AH), (y = some (ii 0, GH g0 p' e dp') ∨ y = some (ii 1, GH g0 p' e dp')) → GRb bs g0 dp L (2 * k + 4) y (.inl e) := by
        rintro y (z | z)
        · exact ⟨he, false, _, _, z⟩
        · exact ⟨he, true, _, _, z⟩
      apply fin
      split
      · split
        · exact Or.inr rfl
        · exact Or.inl rfl
      · split
        · split
          · exact Or.inl rfl
          · exact Or.inr rfl
        · split
          · exact Or.inl rfl
          · exact Or.inr rfl
    | inr u =>
      rintro ⟨w, h1, hw⟩
      have hw2 := hw.2.1
      rw [bind_eq h1, andP_r]
      simp only
      rcases hcm with e | e | e
      · rw [e, if_pos rfl, show cmM 61 = -11 from rfl]
        refine ⟨decide (v = w), ?_, ?_⟩
        · by_cases z : v = w
          · rw [if_pos (by rw [z])]; simp only [z, decide_true]; rfl
          · rw [if_neg (by rw [ii_eq (by omega) (by omega) (by omega) (by omega)]; exact z)]; simp only [z, decide_false]; rfl
        · have := sem_bn hS hw (Nat.le_refl _) (by omega) (by omega) (by omega) (jn_eq hv.1 hv.2 hw2.1 hw2.2) (by unfold b01; split <;> omega) (by unfold b01; split <;> omega)
          rw [b01_b] at this
          exact this
      · rw [e, if_neg (by decide), if_pos rfl, show cmM 60 = -12 from rfl]
        refine ⟨decide (v < w), ?_, ?_⟩
        · by_cases z : v < w
          · rw [if_neg (by rw [ii_le (by omega) (by omega) (by omega) (by omega)]; omega)]; simp only [z, decide_true]; rfl
          · rw [if_pos (by rw [ii_le (by omega) (by omega) (by omega) (by omega)]; omega)]; simp only [z, decide_false]; rfl
        · have := sem_bn hS hw (Nat.le_refl _) (by omega) (by omega) (by omega) (jn_lt hv.1 hv.2 hw2.1 hw2.2) (by unfold b01; split <;> omega) (by unfold b01; split <;> omega)
          rw [b01_b] at this
          exact this
      · rw [e, if_neg (by decide), if_neg (by decide), show cmM 62 = -13 from rfl]
        refine ⟨decide (w < v), ?_, ?_⟩
        · by_cases z : w < v
          · rw [if_neg (by rw [ii_le (by omega) (by omega) (by omega) (by omega)]; omega)]; simp only [z, decide_true]; rfl
          · rw [if_pos (by rw [ii_le (by omega) (by omega) (by omega) (by omega)]; omega)]; simp only [z, decide_false]; rfl
        · have := sem_bn hS hw (Nat.le_refl _) (by omega) (by omega) (by omega) (jn_gt hv.1 hv.2 hw2.1 hw2.2) (by unfold b01; split <;> omega) (by unfold b01; split <;> omega)
          rw [b01_b] at this
          exact this
theorem G_cm1 (X : GX bs T b0 g0) (hL : LTR g0 L) {k dp : Nat} (h : dp + k = 6) {q : Nat} {C : List Int} {v : Int} (hq : q ≤ bs.length) (hS : Sem L (2 * k + 4) C v) : GRb bs g0 dp L (2 * k + 4) (f_R_compares (ii 1) (ii v) (GH g0 q (-1) dp)) (cm2 bs k q C) := by
  have := G_c2 X hL h hq hS
  unfold f_R_compares
  simp only [z0]
  rw [if_neg j10, Option.bind_some]
  simp only [GH_f, if_true]
  exact this
theorem G_cm0 (X : GX bs T b0 g0) (hL : LTR g0 L) {k dp : Nat} (h : dp + k = 6) {p : Nat} (hp : p ≤ bs.length) : GRb bs g0 dp L (2 * k + 4) (f_R_compares (ii 0) (ii 0) (GH g0 p (-1) dp)) (andP (pSm bs k p) (cm2 bs k)) := by
  have hl := X.2.2.2.2.2.2.1.1
  have h1 := G_sum X hL h hp
  have h2 := okA_pSm (bs := bs) k p hp
  unfold f_R_compares
  simp only [z0, if_true]
  revert h1 h2
  cases pSm bs k p with
  | inl e =>
    rintro ⟨he, w, p', dp', h1⟩ _
    have hne : ¬ ii (e : Int) = ii (-1) := by rw [ii_eq (by omega) (by omega) (by omega) (by omega)]; omega
    rw [bind_eq h1, Option.bind_some]
    simp only [GH_f]
    rw [if_neg hne]
    exact ⟨he, false, _, _, rfl⟩
  | inr u =>
    rintro ⟨w, h1, hw⟩ h2
    obtain ⟨t1, t2, t3⟩ := h2
    rw [bind_eq h1, Option.bind_some, andP_r]
    simp only [GH_f, if_true]
    exact G_c2 X hL h t2 (hw.mono (by omega))
theorem G_un {rc : Nat → Int32 → Int32 → AH → Option (Int32 × AH)} (X : GX bs T b0 g0) (hL : LTR g0 L) {k dp : Nat} (h : dp + k = 6) {su : Option ((Nat → PR) × (Nat → PR))} (hn : su = none → dp = 6) (hs : ∀ f, su = some f → dp < 6 ∧ (okA bs f.1 ∧ ∀ p, p ≤ bs.length → GRb bs g0 (dp + 1 : Nat) L (2 * k + 4) (rc 2 (ii 0) (ii 0) (GH g0 p (-1) (dp + 1 : Nat))) (f.1 p)) ∧ okA bs f.2 ∧ ∀ p, p ≤ bs.length → GRb bs g0 (dp + 1 : Nat) L (2 * k + 4) (rc 0 (ii 0) (ii 0) (GH g0 p (-1) (dp + 1 : Nat))) (f.2 p)) {p : Nat} (hp : p ≤ bs.length) {a1 a2 : Int32} : GRb bs g0 dp L (2 * k + 4) (u_R_unit rc a1 a2 (GH g0 p (-1) dp)) (unB bs k su p) := by
  have okb := X.2.2.2.2.2.2.1
  have hl := okb.1
  have hk := sk_lo hp
  have hc := ch_lo okb (sk bs p)
  unfold u_R_unit unB
  rw [bind_eq (G_lk X hp)]
  by_cases q : ch bs (sk bs p) = 33
  · rw [if_pos q]
    have hlt := ch_lt (bs := bs) (p := sk bs p) (by omega)
    cases su with
    | none =>
      have := hn rfl
      unfold f_R_goesIn
      simp (disch := omega) only [Option.bind_some, if_true, if_false, not_true_eq_false, not_false_eq_true, z0, ii_add, ii_sub, ii_mul, ifLeT, ifLeF, ifLtT, ifLtF, ifEqT, ifEqF, ifNeT, ifNeF, ifIn, nixZ, ii_i64, o0, o1, isInT, isInF, tn14, tn12, tn2, tn21, tn47, tn48, tn49, tn471, tn472, Int.reduceToNat, Int.toNat_natCast, Int.reduceAdd, Int.reduceSub, Int.reduceMul, Int.reduceNeg, Nat.reduceAdd, Nat.reduceSub, Nat.reduceMul, q, GH_d, G_fl]
      rw [if_pos (Or.inl trivial)]
      simp (disch := omega) only [Option.bind_some, if_true, if_false, not_true_eq_false, not_false_eq_true, z0, ii_add, ii_sub, ii_mul, ifLeT, ifLeF, ifLtT, ifLtF, ifEqT, ifEqF, ifNeT, ifNeF, ifIn, nixZ, ii_i64, o0, o1, isInT, isInF, tn14, tn12, tn2, tn21, tn47, tn48, tn49, tn471, tn472, Int.reduceToNat, Int.toNat_natCast, Int.reduceAdd, Int.reduceSub, Int.reduceMul, Int.reduceNeg, Nat.reduceAdd, Nat.reduceSub, Nat.reduceMul]
      exact ⟨hk.2, false, _, _, rfl⟩
    | some f =>
      obtain ⟨s1, ⟨s2, s3⟩, s5, s6⟩ := hs f rfl
      have s4 := s3 (sk bs p + 1) (by omega)
      have s7 := s2 (sk bs p + 1) (by omega)
      have ed : ((dp + 1 : Nat) : Int) = (dp : Int) + 1 := by omega
      rw [ed] at s4
      show GRb bs g0 dp L (2 * k + 4) _ (andP (f.1 (sk bs p + 1)) (fun r C => .inr (r, C ++ [-16])))
      unfold f_R_goesIn
      simp (disch := omega) only [Option.bind_some, if_true, if_false, not_true_eq_false, not_false_eq_true, z0, ii_add, ii_sub, ii_mul, ifLeT, ifLeF, ifLtT, ifLtF, ifEqT, ifEqF, ifNeT, ifNeF, ifIn, nixZ, ii_i64, o0, o1, isInT, isInF, tn14, tn12, tn2, tn21, tn47, tn48, tn49, tn471, tn472, Int.reduceToNat, Int.toNat_natCast, Int.reduceAdd, Int.reduceSub, Int.reduceMul, Int.reduceNeg, Nat.reduceAdd, Nat.reduceSub, Nat.reduceMul, q, GH_d, GH_sd, GH_a, GH_inc]
      revert s4 s7
      cases f.1 (sk bs p + 1) with
      | inl e =>
        rintro ⟨he, b, p', dp', s4⟩ _
        cases b with
        | false =>
          simp (disch := omega) only [Option.bind_some, if_true, if_false, not_true_eq_false, not_false_eq_true, z0, ii_add, ii_sub, ii_mul, ifLeT, ifLeF, ifLtT, ifLtF, ifEqT, ifEqF, ifNeT, ifNeF, ifIn, nixZ, ii_i64, o0, o1, isInT, isInF, tn14, tn12, tn2, tn21, tn47, tn48, tn49, tn471, tn472, Int.reduceToNat, Int.toNat_natCast, Int.reduceAdd, Int.reduceSub, Int.reduceMul, Int.reduceNeg, Nat.reduceAdd, Nat.reduceSub, Nat.reduceMul, s4, show bI false = ii 0 from rfl, GH_d, GH_sd]
          exact ⟨he, true, _, _, rfl⟩
        | true =>
          simp (disch := omega) only [Option.bind_some, if_true, if_false, not_true_eq_false, not_false_eq_true, z0, ii_add, ii_sub, ii_mul, ifLeT, ifLeF, ifLtT, ifLtF, ifEqT, ifEqF, ifNeT, ifNeF, ifIn, nixZ, ii_i64, o0, o1, isInT, isInF, tn14, tn12, tn2, tn21, tn47, tn48, tn49, tn471, tn472, Int.reduceToNat, Int.toNat_natCast, Int.reduceAdd, Int.reduceSub, Int.reduceMul, Int.reduceNeg, Nat.reduceAdd, Nat.reduceSub, Nat.reduceMul, s4, show bI true = ii 1 from rfl, GH_d, GH_sd]
          exact ⟨he, false, _, _, rfl⟩
      | inr v =>
        rintro ⟨b, s4, sS⟩ s7
        obtain ⟨t1, t2, t3⟩ := s7
        have ez : (dp : Int) + 1 - 1 = dp := by omega
        have sN := sem_not sS (by omega)
        cases b with
        | false =>
          simp (disch := omega) only [Option.bind_some, if_true, if_false, not_true_eq_false, not_false_eq_true, z0, ii_add, ii_sub, ii_mul, ifLeT, ifLeF, ifLtT, ifLtF, ifEqT, ifEqF, ifNeT, ifNeF, ifIn, nixZ, ii_i64, o0, o1, isInT, isInF, tn14, tn12, tn2, tn21, tn47, tn48, tn49, tn471, tn472, Int.reduceToNat, Int.toNat_natCast, Int.reduceAdd, Int.reduceSub, Int.reduceMul, Int.reduceNeg, Nat.reduceAdd, Nat.reduceSub, Nat.reduceMul, s4, show bI false = ii 0 from rfl, GH_d, GH_sd, ez]
          exact ⟨true, rfl, sN⟩
        | true =>
          simp (disch := omega) only [Option.bind_some, if_true, if_false, not_true_eq_false, not_false_eq_true, z0, ii_add, ii_sub, ii_mul, ifLeT, ifLeF, ifLtT, ifLtF, ifEqT, ifEqF, ifNeT, ifNeF, ifIn, nixZ, ii_i64, o0, o1, isInT, isInF, tn14, tn12, tn2, tn21, tn47, tn48, tn49, tn471, tn472, Int.reduceToNat, Int.toNat_natCast, Int.reduceAdd, Int.reduceSub, Int.reduceMul, Int.reduceNeg, Nat.reduceAdd, Nat.reduceSub, Nat.reduceMul, s4, show bI true = ii 1 from rfl, GH_d, GH_sd, ez]
          exact ⟨false, rfl, sN⟩
  · rw [if_neg q]
    by_cases q2 : ch bs (sk bs p) = 40
    · rw [if_pos q2]
      have hlt := ch_lt (bs := bs) (p := sk bs p) (by omega)
      cases su with
      | none =>
        have := hn rfl
        unfold f_R_goesIn
        simp (disch := omega) only [Option.bind_some, if_true, if_false, not_true_eq_false, not_false_eq_true, z0, ii_add, ii_sub, ii_mul, ifLeT, ifLeF, ifLtT, ifLtF, ifEqT, ifEqF, ifNeT, ifNeF, ifIn, nixZ, ii_i64, o0, o1, isInT, isInF, tn14, tn12, tn2, tn21, tn47, tn48, tn49, tn471, tn472, Int.reduceToNat, Int.toNat_natCast, Int.reduceAdd, Int.reduceSub, Int.reduceMul, Int.reduceNeg, Nat.reduceAdd, Nat.reduceSub, Nat.reduceMul, q2, GH_d, G_fl]
        rw [if_pos (Or.inl trivial)]
        simp (disch := omega) only [Option.bind_some, if_true, if_false, not_true_eq_false, not_false_eq_true, z0, ii_add, ii_sub, ii_mul, ifLeT, ifLeF, ifLtT, ifLtF, ifEqT, ifEqF, ifNeT, ifNeF, ifIn, nixZ, ii_i64, o0, o1, isInT, isInF, tn14, tn12, tn2, tn21, tn47, tn48, tn49, tn471, tn472, Int.reduceToNat, Int.toNat_natCast, Int.reduceAdd, Int.reduceSub, Int.reduceMul, Int.reduceNeg, Nat.reduceAdd, Nat.reduceSub, Nat.reduceMul]
        exact ⟨hk.2, false, _, _, rfl⟩
      | some f =>
        obtain ⟨s1, ⟨s2, s3⟩, s5, s6⟩ := hs f rfl
        have s4 := s6 (sk bs p + 1) (by omega)
        have s7 := s5 (sk bs p + 1) (by omega)
        have ed : ((dp + 1 : Nat) : Int) = (dp : Int) + 1 := by omega
        rw [ed] at s4
        show GRb bs g0 dp L (2 * k + 4) _ (andP (f.2 (sk bs p + 1)) (tkP bs 41))
        unfold f_R_goesIn
        simp (disch := omega) only [Option.bind_some, if_true, if_false, not_true_eq_false, not_false_eq_true, z0, ii_add, ii_sub, ii_mul, ifLeT, ifLeF, ifLtT, ifLtF, ifEqT, ifEqF, ifNeT, ifNeF, ifIn, nixZ, ii_i64, o0, o1, isInT, isInF, tn14, tn12, tn2, tn21, tn47, tn48, tn49, tn471, tn472, Int.reduceToNat, Int.toNat_natCast, Int.reduceAdd, Int.reduceSub, Int.reduceMul, Int.reduceNeg, Nat.reduceAdd, Nat.reduceSub, Nat.reduceMul, q2, GH_d, GH_sd, GH_a, GH_inc]
        revert s4 s7
        cases f.2 (sk bs p + 1) with
        | inl e =>
          rintro ⟨he, b, p', dp', s4⟩ _
          simp (disch := omega) only [Option.bind_some, if_true, if_false, not_true_eq_false, not_false_eq_true, z0, ii_add, ii_sub, ii_mul, ifLeT, ifLeF, ifLtT, ifLtF, ifEqT, ifEqF, ifNeT, ifNeF, ifIn, nixZ, ii_i64, o0, o1, isInT, isInF, tn14, tn12, tn2, tn21, tn47, tn48, tn49, tn471, tn472, Int.reduceToNat, Int.toNat_natCast, Int.reduceAdd, Int.reduceSub, Int.reduceMul, Int.reduceNeg, Nat.reduceAdd, Nat.reduceSub, Nat.reduceMul, s4, G_tk2 (show e ≤ 1000 by omega)]
          exact ⟨he, false, _, _, rfl⟩
        | inr v =>
          rintro ⟨b, s4, sS⟩ s7
          obtain ⟨t1, t2, t3⟩ := s7
          rw [andP_r]
          unfold tkP
          have ez : (dp : Int) + 1 - 1 = dp := by omega
          by_cases q3 : ch bs (sk bs v.1) = 41
          · rw [if_pos q3]
            simp (disch := omega) only [Option.bind_some, if_true, if_false, not_true_eq_false, not_false_eq_true, z0, ii_add, ii_sub, ii_mul, ifLeT, ifLeF, ifLtT, ifLtF, ifEqT, ifEqF, ifNeT, ifNeF, ifIn, nixZ, ii_i64, o0, o1, isInT, isInF, tn14, tn12, tn2, tn21, tn47, tn48, tn49, tn471, tn472, Int.reduceToNat, Int.toNat_natCast, Int.reduceAdd, Int.reduceSub, Int.reduceMul, Int.reduceNeg, Nat.reduceAdd, Nat.reduceSub, Nat.reduceMul, s4, G_tkT X t2 (c := 41) q3, GH_d, GH_sd, ez]
            rw [if_pos (bI_or b)]
            exact ⟨b, rfl, sS⟩
          · rw [if_neg q3]
            simp (disch := omega) only [Option.bind_some, if_true, if_false, not_true_eq_false, not_false_eq_true, z0, ii_add, ii_sub, ii_mul, ifLeT, ifLeF, ifLtT, ifLtF, ifEqT, ifEqF, ifNeT, ifNeF, ifIn, nixZ, ii_i64, o0, o1, isInT, isInF, tn14, tn12, tn2, tn21, tn47, tn48, tn49, tn471, tn472, Int.reduceToNat, Int.toNat_natCast, Int.reduceAdd, Int.reduceSub, Int.reduceMul, Int.reduceNeg, Nat.reduceAdd, Nat.reduceSub, Nat.reduceMul, s4, G_tkF X t2 (c := 41) (by omega) (by omega) q3]
            have := sk_lo t2
            exact ⟨this.2, false, _, _, rfl⟩
    · rw [if_neg q2]
      have h3 := GRb_b (G_cm0 X hL h (p := sk bs p) hk.2)
      simp (disch := omega) only [Option.bind_some, if_true, if_false, not_true_eq_false, not_false_eq_true, z0, ii_add, ii_sub, ii_mul, ifLeT, ifLeF, ifLtT, ifLtF, ifEqT, ifEqF, ifNeT, ifNeF, ifIn, nixZ, ii_i64, o0, o1, isInT, isInF, tn14, tn12, tn2, tn21, tn47, tn48, tn49, tn471, tn472, Int.reduceToNat, Int.toNat_natCast, Int.reduceAdd, Int.reduceSub, Int.reduceMul, Int.reduceNeg, Nat.reduceAdd, Nat.reduceSub, Nat.reduceMul]
      exact h3
theorem G_pa2 {rc : Nat → Int32 → Int32 → AH → Option (Int32 × AH)} {n p e : Nat} {dp : Int} (hn : 1 ≤ n) (he : e ≤ 1000) (b : Bool) : R_part_L18 rc n (bI b) (GH g0 p e dp) = some (bI b, GH g0 p e dp) := by
  obtain ⟨n, rfl⟩ : ∃ z, n = z + 1 := ⟨n - 1, by omega⟩
  have hne : ¬ ii (e : Int) = ii (-1) := by rw [ii_eq (by omega) (by omega) (by omega) (by omega)]; omega
  simp (disch := omega) only [Option.bind_some, if_true, if_false, not_true_eq_false, not_false_eq_true, z0, ii_add, ii_sub, ii_mul, ifLeT, ifLeF, ifLtT, ifLtF, ifEqT, ifEqF, ifNeT, ifNeF, ifIn, nixZ, ii_i64, o0, o1, isInT, isInF, tn14, tn12, tn2, tn21, tn47, tn48, tn49, tn471, tn472, Int.reduceToNat, Int.toNat_natCast, Int.reduceAdd, Int.reduceSub, Int.reduceMul, Int.reduceNeg, Nat.reduceAdd, Nat.reduceSub, Nat.reduceMul, R_part_L18, R_part_L18_b, GH_f, hne]
  rw [if_pos (bI_or b)]
theorem G_co2 {rc : Nat → Int32 → Int32 → AH → Option (Int32 × AH)} {n p e : Nat} {dp : Int} (hn : 1 ≤ n) (he : e ≤ 1000) (b : Bool) : R_condition_L7 rc n (bI b) (GH g0 p e dp) = some (bI b, GH g0 p e dp) := by
  obtain ⟨n, rfl⟩ : ∃ z, n = z + 1 := ⟨n - 1, by omega⟩
  have hne : ¬ ii (e : Int) = ii (-1) := by rw [ii_eq (by omega) (by omega) (by omega) (by omega)]; omega
  simp (disch := omega) only [Option.bind_some, if_true, if_false, not_true_eq_false, not_false_eq_true, z0, ii_add, ii_sub, ii_mul, ifLeT, ifLeF, ifLtT, ifLtF, ifEqT, ifEqF, ifNeT, ifNeF, ifIn, nixZ, ii_i64, o0, o1, isInT, isInF, tn14, tn12, tn2, tn21, tn47, tn48, tn49, tn471, tn472, Int.reduceToNat, Int.toNat_natCast, Int.reduceAdd, Int.reduceSub, Int.reduceMul, Int.reduceNeg, Nat.reduceAdd, Nat.reduceSub, Nat.reduceMul, R_condition_L7, R_condition_L7_b, GH_f, hne]
  rw [if_pos (bI_or b)]
theorem G_paL {rc : Nat → Int32 → Int32 → AH → Option (Int32 × AH)} (X : GX bs T b0 g0) {a : Nat → PR} (ha : okA bs a) {dp : Int} {K : Nat} (hA : ∀ p, p ≤ bs.length → GRb bs g0 dp L K (rc 2 (ii 0) (ii 0) (GH g0 p (-1) dp)) (a p)) : ∀ (m q n f : Nat) (v : Bool) (C : List Int), bs.length - q ≤ m → q ≤ bs.length → m < n → m < f → Sem L (K + 1) C (if v then 1 else 0) → GRb bs g0 dp L (K + 1) (R_part_L18 rc n (bI v) (GH g0 q (-1) dp)) (mlG bs mcC a f q C) := by
  have okb := X.2.2.2.2.2.2.1
  have hl := okb.1
  intro m
  induction m with
  | zero =>
    intro q n f v C hm hq hn hf hS
    obtain ⟨n, rfl⟩ : ∃ z, n = z + 1 := ⟨n - 1, by omega⟩
    obtain ⟨f, rfl⟩ : ∃ z, f = z + 1 := ⟨f - 1, by omega⟩
    have hk := sk_lo hq
    have ec : ch bs (sk bs q) = -1 := ch_ge (by omega)
    have ef : mlG bs mcC a (f + 1) q C = .inr (sk bs q, C) := by
      unfold mlG; rw [ec, if_pos (by decide)]
    rw [ef]
    simp (disch := omega) only [Option.bind_some, if_true, if_false, not_true_eq_false, not_false_eq_true, z0, ii_add, ii_sub, ii_mul, ifLeT, ifLeF, ifLtT, ifLtF, ifEqT, ifEqF, ifNeT, ifNeF, ifIn, nixZ, ii_i64, o0, o1, isInT, isInF, tn14, tn12, tn2, tn21, tn47, tn48, tn49, tn471, tn472, Int.reduceToNat, Int.toNat_natCast, Int.reduceAdd, Int.reduceSub, Int.reduceMul, Int.reduceNeg, Nat.reduceAdd, Nat.reduceSub, Nat.reduceMul, R_part_L18, R_part_L18_b, GH_f, G_lk X hq, ec]
    rw [if_pos (bI_or v)]
    exact ⟨v, rfl, hS⟩
  | succ m ih =>
    intro q n f v C hm hq hn hf hS
    obtain ⟨n, rfl⟩ : ∃ z, n = z + 1 := ⟨n - 1, by omega⟩
    obtain ⟨f, rfl⟩ : ∃ z, f = z + 1 := ⟨f - 1, by omega⟩
    have hk := sk_lo hq
    have hc := ch_lo okb (sk bs q)
    have ef : mlG bs mcC a (f + 1) q C = if mcC (ch bs (sk bs q)) = -1 then .inr (sk bs q, C) else andP (a (sk bs q + 1)) (fun r D => mlG bs mcC a f r (C ++ D ++ [mcC (ch bs (sk bs q))])) := rfl
    rw [ef]
    by_cases q1 : ch bs (sk bs q) = 38
    · have hlt := ch_lt (bs := bs) (p := sk bs q) (by omega)
      rw [q1, if_neg (by decide), show mcC 38 = -14 from rfl]
      have h1 := hA (sk bs q + 1) (by omega)
      have h2 := ha (sk bs q + 1) (by omega)
      have eb : ∀ w : Bool, (if bI v = ii 0 then ii 0 else if bI w = ii 0 then ii 0 else ii 1) = bI (v && w) := by intro w; cases v <;> cases w <;> rfl
      revert h1 h2
      cases a (sk bs q + 1) with
      | inl e =>
        rintro ⟨he, w, p', dp', h1⟩ _
        simp (disch := omega) only [Option.bind_some, if_true, if_false, not_true_eq_false, not_false_eq_true, z0, ii_add, ii_sub, ii_mul, ifLeT, ifLeF, ifLtT, ifLtF, ifEqT, ifEqF, ifNeT, ifNeF, ifIn, nixZ, ii_i64, o0, o1, isInT, isInF, tn14, tn12, tn2, tn21, tn47, tn48, tn49, tn471, tn472, Int.reduceToNat, Int.toNat_natCast, Int.reduceAdd, Int.reduceSub, Int.reduceMul, Int.reduceNeg, Nat.reduceAdd, Nat.reduceSub, Nat.reduceMul, R_part_L18, R_part_L18_b, GH_f, G_lk X hq, q1, GH_a, GH_inc, h1, eb w, G_pa2 (show 1 ≤ n by omega) (show e ≤ 1000 by omega)]
        exact ⟨he, _, _, _, rfl⟩
      | inr u =>
        rintro ⟨w, h1, hw⟩ h2
        obtain ⟨t1, t2, t3⟩ := h2
        have hS2 := sem_bn hS hw (Nat.le_refl _) (Nat.le_refl _) (by omega) (by omega) (jn_and v w) (by split <;> omega) (by split <;> omega)
        have hih := ih u.1 n f (v && w) _ (by omega) t2 (by omega) (by omega) hS2
        simp (disch := omega) only [Option.bind_some, if_true, if_false, not_true_eq_false, not_false_eq_true, z0, ii_add, ii_sub, ii_mul, ifLeT, ifLeF, ifLtT, ifLtF, ifEqT, ifEqF, ifNeT, ifNeF, ifIn, nixZ, ii_i64, o0, o1, isInT, isInF, tn14, tn12, tn2, tn21, tn47, tn48, tn49, tn471, tn472, Int.reduceToNat, Int.toNat_natCast, Int.reduceAdd, Int.reduceSub, Int.reduceMul, Int.reduceNeg, Nat.reduceAdd, Nat.reduceSub, Nat.reduceMul, R_part_L18, R_part_L18_b, GH_f, G_lk X hq, q1, GH_a, GH_inc, h1, eb w]
        exact hih
    · rw [if_pos (mcC_v q1)]
      simp (disch := omega) only [Option.bind_some, if_true, if_false, not_true_eq_false, not_false_eq_true, z0, ii_add, ii_sub, ii_mul, ifLeT, ifLeF, ifLtT, ifLtF, ifEqT, ifEqF, ifNeT, ifNeF, ifIn, nixZ, ii_i64, o0, o1, isInT, isInF, tn14, tn12, tn2, tn21, tn47, tn48, tn49, tn471, tn472, Int.reduceToNat, Int.toNat_natCast, Int.reduceAdd, Int.reduceSub, Int.reduceMul, Int.reduceNeg, Nat.reduceAdd, Nat.reduceSub, Nat.reduceMul, R_part_L18, R_part_L18_b, GH_f, G_lk X hq]
      rw [if_pos (bI_or v)]
      exact ⟨v, rfl, hS⟩
theorem G_coL {rc : Nat → Int32 → Int32 → AH → Option (Int32 × AH)} (X : GX bs T b0 g0) {a : Nat → PR} (ha : okA bs a) {dp : Int} {K : Nat} (hA : ∀ p, p ≤ bs.length → GRb bs g0 dp L K (rc 1 (ii 0) (ii 0) (GH g0 p (-1) dp)) (tmG bs mcC a (a p))) : ∀ (m q n f : Nat) (v : Bool) (C : List Int), bs.length - q ≤ m → q ≤ bs.length → m < n → m < f → Sem L (K + 1) C (if v then 1 else 0) → GRb bs g0 dp L (K + 1) (R_condition_L7 rc n (bI v) (GH g0 q (-1) dp)) (adG bs mcC acC a f q C) := by
  have okb := X.2.2.2.2.2.2.1
  have hl := okb.1
  intro m
  induction m with
  | zero =>
    intro q n f v C hm hq hn hf hS
    obtain ⟨n, rfl⟩ : ∃ z, n = z + 1 := ⟨n - 1, by omega⟩
    obtain ⟨f, rfl⟩ : ∃ z, f = z + 1 := ⟨f - 1, by omega⟩
    have hk := sk_lo hq
    have ec : ch bs (sk bs q) = -1 := ch_ge (by omega)
    have ef : adG bs mcC acC a (f + 1) q C = .inr (sk bs q, C) := by
      unfold adG; rw [ec, if_pos (by decide)]
    rw [ef]
    simp (disch := omega) only [Option.bind_some, if_true, if_false, not_true_eq_false, not_false_eq_true, z0, ii_add, ii_sub, ii_mul, ifLeT, ifLeF, ifLtT, ifLtF, ifEqT, ifEqF, ifNeT, ifNeF, ifIn, nixZ, ii_i64, o0, o1, isInT, isInF, tn14, tn12, tn2, tn21, tn47, tn48, tn49, tn471, tn472, Int.reduceToNat, Int.toNat_natCast, Int.reduceAdd, Int.reduceSub, Int.reduceMul, Int.reduceNeg, Nat.reduceAdd, Nat.reduceSub, Nat.reduceMul, R_condition_L7, R_condition_L7_b, GH_f, G_lk X hq, ec]
    rw [if_pos (bI_or v)]
    exact ⟨v, rfl, hS⟩
  | succ m ih =>
    intro q n f v C hm hq hn hf hS
    obtain ⟨n, rfl⟩ : ∃ z, n = z + 1 := ⟨n - 1, by omega⟩
    obtain ⟨f, rfl⟩ : ∃ z, f = z + 1 := ⟨f - 1, by omega⟩
    have hk := sk_lo hq
    have hc := ch_lo okb (sk bs q)
    have ef : adG bs mcC acC a (f + 1) q C = if acC (ch bs (sk bs q)) = -1 then .inr (sk bs q, C) else andP (tmG bs mcC a (a (sk bs q + 1))) (fun r D => adG bs mcC acC a f r (C ++ D ++ [acC (ch bs (sk bs q))])) := rfl
    rw [ef]
    by_cases q1 : ch bs (sk bs q) = 124
    · have hlt := ch_lt (bs := bs) (p := sk bs q) (by omega)
      rw [q1, if_neg (by decide), show acC 124 = -15 from rfl]
      have h1 := hA (sk bs q + 1) (by omega)
      have h2 := okP_tm (mc := mcC) rfl ha (ha (sk bs q + 1) (by omega))
      have eb : ∀ w : Bool, (if bI v = ii 0 then (if bI w = ii 0 then ii 0 else ii 1) else ii 1) = bI (v || w) := by intro w; cases v <;> cases w <;> rfl
      revert h1 h2
      cases tmG bs mcC a (a (sk bs q + 1)) with
      | inl e =>
        rintro ⟨he, w, p', dp', h1⟩ _
        simp (disch := omega) only [Option.bind_some, if_true, if_false, not_true_eq_false, not_false_eq_true, z0, ii_add, ii_sub, ii_mul, ifLeT, ifLeF, ifLtT, ifLtF, ifEqT, ifEqF, ifNeT, ifNeF, ifIn, nixZ, ii_i64, o0, o1, isInT, isInF, tn14, tn12, tn2, tn21, tn47, tn48, tn49, tn471, tn472, Int.reduceToNat, Int.toNat_natCast, Int.reduceAdd, Int.reduceSub, Int.reduceMul, Int.reduceNeg, Nat.reduceAdd, Nat.reduceSub, Nat.reduceMul, R_condition_L7, R_condition_L7_b, GH_f, G_lk X hq, q1, GH_a, GH_inc, h1, eb w, G_co2 (show 1 ≤ n by omega) (show e ≤ 1000 by omega)]
        exact ⟨he, _, _, _, rfl⟩
      | inr u =>
        rintro ⟨w, h1, hw⟩ h2
        obtain ⟨t1, t2, t3⟩ := h2
        have hS2 := sem_bn hS hw (Nat.le_refl _) (Nat.le_refl _) (by omega) (by omega) (jn_or v w) (by split <;> omega) (by split <;> omega)
        have hih := ih u.1 n f (v || w) _ (by omega) t2 (by omega) (by omega) hS2
        simp (disch := omega) only [Option.bind_some, if_true, if_false, not_true_eq_false, not_false_eq_true, z0, ii_add, ii_sub, ii_mul, ifLeT, ifLeF, ifLtT, ifLtF, ifEqT, ifEqF, ifNeT, ifNeF, ifIn, nixZ, ii_i64, o0, o1, isInT, isInF, tn14, tn12, tn2, tn21, tn47, tn48, tn49, tn471, tn472, Int.reduceToNat, Int.toNat_natCast, Int.reduceAdd, Int.reduceSub, Int.reduceMul, Int.reduceNeg, Nat.reduceAdd, Nat.reduceSub, Nat.reduceMul, R_condition_L7, R_condition_L7_b, GH_f, G_lk X hq, q1, GH_a, GH_inc, h1, eb w]
        exact hih
    · rw [if_pos (acC_v q1)]
      simp (disch := omega) only [Option.bind_some, if_true, if_false, not_true_eq_false, not_false_eq_true, z0, ii_add, ii_sub, ii_mul, ifLeT, ifLeF, ifLtT, ifLtF, ifEqT, ifEqF, ifNeT, ifNeF, ifIn, nixZ, ii_i64, o0, o1, isInT, isInF, tn14, tn12, tn2, tn21, tn47, tn48, tn49, tn471, tn472, Int.reduceToNat, Int.toNat_natCast, Int.reduceAdd, Int.reduceSub, Int.reduceMul, Int.reduceNeg, Nat.reduceAdd, Nat.reduceSub, Nat.reduceMul, R_condition_L7, R_condition_L7_b, GH_f, G_lk X hq]
      rw [if_pos (bI_or v)]
      exact ⟨v, rfl, hS⟩
end GC
