/-! the reference reads and reckons: terms, sums -/
section GF
variable {g0 : AH} {bs : List Int} {T b0 : Nat} {L : Nat → Int32}
theorem sem_bn {K K' M : Nat} {C D : List Int} {a b r op : Int} (h1 : Sem L K C a) (h2 : Sem L K' D b) (m1 : K ≤ M) (m2 : K' + 1 ≤ M) (o1 : -15 ≤ op) (o2 : op ≤ -7) (hj : jnI op (ii a) (ii b) = ii r) (r1 : -1000000 ≤ r) (r2 : r ≤ 1000000) : Sem L M (C ++ D ++ [op]) r := by
  refine ⟨fun s hs => ?_, ⟨r1, r2⟩, fun x hx => ?_⟩
  · rw [rn_app, rn_app, h1.1 s (by omega), h2.1 (s ++ [ii a]) (by simp; omega), rn_1]
    unfold stpM psh
    rw [if_neg (by omega), if_neg (by omega), if_neg (by omega), tp_app, dl_app, tp_app, dl_app, hj, if_pos (by omega)]
  · rcases List.mem_append.mp hx with h | h
    · rcases List.mem_append.mp h with h | h
      · exact h1.2.2 x h
      · exact h2.2.2 x h
    · rw [List.mem_singleton.mp h]; omega
theorem G_tm2 {rc : Nat → AH → Option (Int32 × AH)} {n p e : Nat} {dp : Int} (hn : 1 ≤ n) (he : e ≤ 1000) (x : Int32) : R_term_L5 rc n x (GH g0 p e dp) = some (x, GH g0 p e dp) := by
  obtain ⟨n, rfl⟩ : ∃ z, n = z + 1 := ⟨n - 1, by omega⟩
  have hne : ¬ ii (e : Int) = ii (-1) := by rw [ii_eq (by omega) (by omega) (by omega) (by omega)]; omega
  simp (disch := omega) only [Option.bind_some, if_true, if_false, not_true_eq_false, not_false_eq_true, z0, ii_add, ii_sub, ii_mul, ifLeT, ifLeF, ifLtT, ifLtF, ifEqT, ifEqF, ifNeT, ifNeF, ifIn, nixZ, ii_i64, o0, o1, isInT, isInF, tn14, tn12, tn2, tn21, tn47, tn48, tn49, tn471, tn472, Int.reduceToNat, Int.toNat_natCast, Int.reduceAdd, Int.reduceSub, Int.reduceMul, Int.reduceNeg, Nat.reduceAdd, Nat.reduceSub, Nat.reduceMul, R_term_L5, R_term_L5_b, GH_f, hne]
theorem G_su2 {rc : Nat → AH → Option (Int32 × AH)} {n p e : Nat} {dp : Int} (hn : 1 ≤ n) (he : e ≤ 1000) (x : Int32) : R_sum_L5 rc n x (GH g0 p e dp) = some (x, GH g0 p e dp) := by
  obtain ⟨n, rfl⟩ : ∃ z, n = z + 1 := ⟨n - 1, by omega⟩
  have hne : ¬ ii (e : Int) = ii (-1) := by rw [ii_eq (by omega) (by omega) (by omega) (by omega)]; omega
  simp (disch := omega) only [Option.bind_some, if_true, if_false, not_true_eq_false, not_false_eq_true, z0, ii_add, ii_sub, ii_mul, ifLeT, ifLeF, ifLtT, ifLtF, ifEqT, ifEqF, ifNeT, ifNeF, ifIn, nixZ, ii_i64, o0, o1, isInT, isInF, tn14, tn12, tn2, tn21, tn47, tn48, tn49, tn471, tn472, Int.reduceToNat, Int.toNat_natCast, Int.reduceAdd, Int.reduceSub, Int.reduceMul, Int.reduceNeg, Nat.reduceAdd, Nat.reduceSub, Nat.reduceMul, R_sum_L5, R_sum_L5_b, GH_f, hne]
theorem dv_some (v w : Int32) : ∃ y, (if lg_cmp w.toInt64 (Int64.ofNat 0) = ii 0 then some (Int64.ofNat 0) else if ¬ w.toInt64 = 0 then some (v.toInt64 / w.toInt64) else none) = some y := by
  by_cases q : w.toInt64 = 0
  · rw [if_pos ((lg_0 _).mpr q)]; exact ⟨_, rfl⟩
  · rw [if_neg (fun z => q ((lg_0 _).mp z)), if_pos q]; exact ⟨_, rfl⟩
theorem dv_val {a b : Int} (h1 : -1000000 ≤ a) (h2 : a ≤ 1000000) (h3 : -1000000 ≤ b) (h4 : b ≤ 1000000) : (if lg_cmp (ii b).toInt64 (Int64.ofNat 0) = ii 0 then some (Int64.ofNat 0) else if ¬ (ii b).toInt64 = 0 then some ((ii a).toInt64 / (ii b).toInt64) else none) = some (Int64.ofInt (dvM a b)) := by
  rw [ii_i64 (by omega) (by omega), ii_i64 (by omega) (by omega)]
  unfold dvM
  by_cases q : b = 0
  · subst q
    rw [if_pos ((lg_0 (Int64.ofInt 0)).mpr rfl), if_pos rfl]; rfl
  · have hne : ¬ Int64.ofInt b = 0 := by
      rw [z64, i64_eq (by omega) (by omega) (by omega) (by omega)]; exact q
    rw [if_neg (fun z => hne ((lg_0 _).mp z)), if_pos hne, if_neg q, l64_tdiv h1 h2 h3 h4]
theorem G_tmL {rc : Nat → AH → Option (Int32 × AH)} (X : GX bs T b0 g0) {a : Nat → PR} (ha : okA bs a) {dp : Int} {K : Nat} (hA : ∀ p, p ≤ bs.length → GRs bs g0 dp L K (rc 2 (GH g0 p (-1) dp)) (a p)) : ∀ (m q n f : Nat) (v : Int) (C : List Int), bs.length - q ≤ m → q ≤ bs.length → m < n → m < f → Sem L (K + 1) C v → GRs bs g0 dp L (K + 1) (R_term_L5 rc n (ii v) (GH g0 q (-1) dp)) (mlG bs mcS a f q C) := by
  have okb := X.2.2.2.2.2.2.1
  have hl := okb.1
  intro m
  induction m with
  | zero =>
    intro q n f v C hm hq hn hf hS
    obtain ⟨n, rfl⟩ : ∃ z, n = z + 1 := ⟨n - 1, by omega⟩
    obtain ⟨f, rfl⟩ : ∃ z, f = z + 1 := ⟨f - 1, by omega⟩
    have hk := sk_lo hq
    have ec : ch bs (sk bs q) = -1 := ch_ge (by omega)
    have ef : mlG bs mcS a (f + 1) q C = .inr (sk bs q, C) := by
      unfold mlG; rw [ec, if_pos (by decide)]
    rw [ef]
    simp (disch := omega) only [Option.bind_some, if_true, if_false, not_true_eq_false, not_false_eq_true, z0, ii_add, ii_sub, ii_mul, ifLeT, ifLeF, ifLtT, ifLtF, ifEqT, ifEqF, ifNeT, ifNeF, ifIn, nixZ, ii_i64, o0, o1, isInT, isInF, tn14, tn12, tn2, tn21, tn47, tn48, tn49, tn471, tn472, Int.reduceToNat, Int.toNat_natCast, Int.reduceAdd, Int.reduceSub, Int.reduceMul, Int.reduceNeg, Nat.reduceAdd, Nat.reduceSub, Nat.reduceMul, R_term_L5, R_term_L5_b, GH_f, G_lk X hq, G_lk X hk.2, sk_sk, ec]
    exact ⟨v, rfl, hS⟩
  | succ m ih =>
    intro q n f v C hm hq hn hf hS
    obtain ⟨n, rfl⟩ : ∃ z, n = z + 1 := ⟨n - 1, by omega⟩
    obtain ⟨f, rfl⟩ : ∃ z, f = z + 1 := ⟨f - 1, by omega⟩
    have hk := sk_lo hq
    have hc := ch_lo okb (sk bs q)
    have hv := hS.2.1
    have ef : mlG bs mcS a (f + 1) q C = if mcS (ch bs (sk bs q)) = -1 then .inr (sk bs q, C) else andP (a (sk bs q + 1)) (fun r D => mlG bs mcS a f r (C ++ D ++ [mcS (ch bs (sk bs q))])) := rfl
    rw [ef]
    by_cases q1 : ch bs (sk bs q) = 42
    · have hlt := ch_lt (bs := bs) (p := sk bs q) (by omega)
      rw [q1, if_neg (by decide), show mcS 42 = -9 from rfl]
      have h1 := hA (sk bs q + 1) (by omega)
      have h2 := ha (sk bs q + 1) (by omega)
      revert h1 h2
      cases a (sk bs q + 1) with
      | inl e =>
        rintro ⟨he, w, p', dp', h1⟩ _
        simp (disch := omega) only [Option.bind_some, if_true, if_false, not_true_eq_false, not_false_eq_true, z0, ii_add, ii_sub, ii_mul, ifLeT, ifLeF, ifLtT, ifLtF, ifEqT, ifEqF, ifNeT, ifNeF, ifIn, nixZ, ii_i64, o0, o1, isInT, isInF, tn14, tn12, tn2, tn21, tn47, tn48, tn49, tn471, tn472, Int.reduceToNat, Int.toNat_natCast, Int.reduceAdd, Int.reduceSub, Int.reduceMul, Int.reduceNeg, Nat.reduceAdd, Nat.reduceSub, Nat.reduceMul, R_term_L5, R_term_L5_b, GH_f, G_lk X hq, G_lk X hk.2, sk_sk, q1, GH_a, GH_inc, h1, G_tm2 (show 1 ≤ n by omega) (show e ≤ 1000 by omega)]
        exact ⟨he, _, _, _, rfl⟩
      | inr u =>
        rintro ⟨w, h1, hw⟩ h2
        obtain ⟨t1, t2, t3⟩ := h2
        have hw2 := hw.2.1
        have hml := mul_lo hv.1 hv.2 hw2.1 hw2.2
        have hwt := wthM_lo (v * w)
        have hS2 := sem_bn hS hw (Nat.le_refl _) (Nat.le_refl _) (by omega) (by omega) (jn_mul hv.1 hv.2 hw2.1 hw2.2) hwt.1 hwt.2
        have hih := ih u.1 n f (wthM (v * w)) _ (by omega) t2 (by omega) (by omega) hS2
        simp (disch := omega) only [Option.bind_some, if_true, if_false, not_true_eq_false, not_false_eq_true, z0, ii_add, ii_sub, ii_mul, ifLeT, ifLeF, ifLtT, ifLtF, ifEqT, ifEqF, ifNeT, ifNeF, ifIn, nixZ, ii_i64, o0, o1, isInT, isInF, tn14, tn12, tn2, tn21, tn47, tn48, tn49, tn471, tn472, Int.reduceToNat, Int.toNat_natCast, Int.reduceAdd, Int.reduceSub, Int.reduceMul, Int.reduceNeg, Nat.reduceAdd, Nat.reduceSub, Nat.reduceMul, R_term_L5, R_term_L5_b, GH_f, G_lk X hq, G_lk X hk.2, sk_sk, q1, GH_a, GH_inc, h1, l64_mul, R_wth]
        exact hih
    · by_cases q2 : ch bs (sk bs q) = 47
      · have hlt := ch_lt (bs := bs) (p := sk bs q) (by omega)
        rw [q2, if_neg (by decide), show mcS 47 = -10 from rfl]
        have h1 := hA (sk bs q + 1) (by omega)
        have h2 := ha (sk bs q + 1) (by omega)
        revert h1 h2
        cases a (sk bs q + 1) with
        | inl e =>
          rintro ⟨he, w, p', dp', h1⟩ _
          obtain ⟨y, hy⟩ := dv_some (ii v) w
          have hb : ∀ (F : Int64 → Option (Int32 × AH)), ((if lg_cmp w.toInt64 (Int64.ofNat 0) = ii 0 then some (Int64.ofNat 0) else if ¬ w.toInt64 = 0 then some ((ii v).toInt64 / w.toInt64) else none).bind F) = F y := fun F => bind_eq hy
          show GRs bs g0 dp L (K + 1) (R_term_L5_b rc (R_term_L5 rc n) (ii v) (GH g0 q (-1) dp)) _
          unfold R_term_L5_b
          rw [GH_f, if_pos rfl, bind_eq (G_lk X hq)]
          simp only [q2]
          rw [if_neg (by decide), bind_eq (G_lk X hk.2)]
          simp only [sk_sk, q2, if_true]
          rw [bind_eq (G_lk X hk.2)]
          simp only [sk_sk, q2, GH_a]
          rw [ii_add, GH_inc, bind_eq h1]
          simp only
          rw [if_neg (by decide : ¬ ii 47 = ii 42), if_pos i00]
          have hb' := hb (fun q8 => R_term_L5 rc n (p_R_within q8) (GH g0 p' e dp'))
          rw [show (0 : Int32) = ii 0 from rfl]
          rw [hb', G_tm2 (show 1 ≤ n by omega) (show e ≤ 1000 by omega)]
          exact ⟨he, _, _, _, rfl⟩
        | inr u =>
          rintro ⟨w, h1, hw⟩ h2
          obtain ⟨t1, t2, t3⟩ := h2
          have hw2 := hw.2.1
          have hdl := dvM_lo (b := w) hv.1 hv.2
          have hS2 := sem_bn hS hw (Nat.le_refl _) (Nat.le_refl _) (by omega) (by omega) (jn_div hv.1 hv.2 hw2.1 hw2.2) hdl.1 hdl.2
          have hih := ih u.1 n f (dvM v w) _ (by omega) t2 (by omega) (by omega) hS2
          have hy := dv_val hv.1 hv.2 hw2.1 hw2.2
          show GRs bs g0 dp L (K + 1) (R_term_L5_b rc (R_term_L5 rc n) (ii v) (GH g0 q (-1) dp)) _
          unfold R_term_L5_b
          rw [GH_f, if_pos rfl, bind_eq (G_lk X hq)]
          simp only [q2]
          rw [if_neg (by decide), bind_eq (G_lk X hk.2)]
          simp only [sk_sk, q2, if_true]
          rw [bind_eq (G_lk X hk.2)]
          simp only [sk_sk, q2, GH_a]
          rw [ii_add, GH_inc, bind_eq h1]
          simp only
          rw [if_neg (by decide : ¬ ii 47 = ii 42), if_pos i00]
          rw [show (0 : Int32) = ii 0 from rfl]
          rw [bind_eq hy, R_wth (by omega) (by omega), wthM_id hdl.1 hdl.2]
          exact hih
      · have em : mcS (ch bs (sk bs q)) = -1 := by unfold mcS; rw [if_neg q1, if_neg q2]
        rw [if_pos em]
        simp (disch := omega) only [Option.bind_some, if_true, if_false, not_true_eq_false, not_false_eq_true, z0, ii_add, ii_sub, ii_mul, ifLeT, ifLeF, ifLtT, ifLtF, ifEqT, ifEqF, ifNeT, ifNeF, ifIn, nixZ, ii_i64, o0, o1, isInT, isInF, tn14, tn12, tn2, tn21, tn47, tn48, tn49, tn471, tn472, Int.reduceToNat, Int.toNat_natCast, Int.reduceAdd, Int.reduceSub, Int.reduceMul, Int.reduceNeg, Nat.reduceAdd, Nat.reduceSub, Nat.reduceMul, R_term_L5, R_term_L5_b, GH_f, G_lk X hq, G_lk X hk.2, sk_sk]
        exact ⟨v, rfl, hS⟩
theorem G_tm {rc : Nat → AH → Option (Int32 × AH)} (X : GX bs T b0 g0) {a : Nat → PR} (ha : okA bs a) {dp : Int} {K : Nat} (hA : ∀ p, p ≤ bs.length → GRs bs g0 dp L K (rc 2 (GH g0 p (-1) dp)) (a p)) {p : Nat} (hp : p ≤ bs.length) : GRs bs g0 dp L (K + 1) (u_R_term rc (GH g0 p (-1) dp)) (tmG bs mcS a (a p)) := by
  have hl := X.2.2.2.2.2.2.1.1
  unfold u_R_term tmG
  have hFU : 1000 < FU := by unfold FU; omega
  generalize FU = F at *
  have h250 : 240 < 250 := by omega
  generalize (250 : Nat) = G at *
  have h1 := hA p hp
  have h2 := ha p hp
  revert h1 h2
  cases a p with
  | inl e =>
    rintro ⟨he, w, p', dp', h1⟩ _
    rw [bind_eq h1, andP_l]
    exact ⟨he, _, _, _, G_tm2 (by omega) (by omega) _⟩
  | inr u =>
    rintro ⟨w, h1, hw⟩ h2
    obtain ⟨t1, t2, t3⟩ := h2
    rw [bind_eq h1, andP_r]
    exact G_tmL X ha hA bs.length u.1 F G w u.2 (by omega) t2 (by omega) (by omega) (hw.mono (by omega))
theorem G_suL {rc : Nat → AH → Option (Int32 × AH)} (X : GX bs T b0 g0) {a : Nat → PR} (ha : okA bs a) {dp : Int} {K : Nat} (hA : ∀ p, p ≤ bs.length → GRs bs g0 dp L K (rc 1 (GH g0 p (-1) dp)) (tmG bs mcS a (a p))) : ∀ (m q n f : Nat) (v : Int) (C : List Int), bs.length - q ≤ m → q ≤ bs.length → m < n → m < f → Sem L (K + 1) C v → GRs bs g0 dp L (K + 1) (R_sum_L5 rc n (ii v) (GH g0 q (-1) dp)) (adG bs mcS acS a f q C) := by
  have okb := X.2.2.2.2.2.2.1
  have hl := okb.1
  intro m
  induction m with
  | zero =>
    intro q n f v C hm hq hn hf hS
    obtain ⟨n, rfl⟩ : ∃ z, n = z + 1 := ⟨n - 1, by omega⟩
    obtain ⟨f, rfl⟩ : ∃ z, f = z + 1 := ⟨f - 1, by omega⟩
    have hk := sk_lo hq
    have ec : ch bs (sk bs q) = -1 := ch_ge (by omega)
    have ef : adG bs mcS acS a (f + 1) q C = .inr (sk bs q, C) := by
      unfold adG; rw [ec, if_pos (by decide)]
    rw [ef]
    simp (disch := omega) only [Option.bind_some, if_true, if_false, not_true_eq_false, not_false_eq_true, z0, ii_add, ii_sub, ii_mul, ifLeT, ifLeF, ifLtT, ifLtF, ifEqT, ifEqF, ifNeT, ifNeF, ifIn, nixZ, ii_i64, o0, o1, isInT, isInF, tn14, tn12, tn2, tn21, tn47, tn48, tn49, tn471, tn472, Int.reduceToNat, Int.toNat_natCast, Int.reduceAdd, Int.reduceSub, Int.reduceMul, Int.reduceNeg, Nat.reduceAdd, Nat.reduceSub, Nat.reduceMul, R_sum_L5, R_sum_L5_b, GH_f, G_lk X hq, G_lk X hk.2, sk_sk, ec]
    exact ⟨v, rfl, hS⟩
  | succ m ih =>
    intro q n f v C hm hq hn hf hS
    obtain ⟨n, rfl⟩ : ∃ z, n = z + 1 := ⟨n - 1, by omega⟩
    obtain ⟨f, rfl⟩ : ∃ z, f = z + 1 := ⟨f - 1, by omega⟩
    have hk := sk_lo hq
    have hc := ch_lo okb (sk bs q)
    have hv := hS.2.1
    have ef : adG bs mcS acS a (f + 1) q C = if acS (ch bs (sk bs q)) = -1 then .inr (sk bs q, C) else andP (tmG bs mcS a (a (sk bs q + 1))) (fun r D => adG bs mcS acS a f r (C ++ D ++ [acS (ch bs (sk bs q))])) := rfl
    rw [ef]
    by_cases q1 : ch bs (sk bs q) = 43
    · have hlt := ch_lt (bs := bs) (p := sk bs q) (by omega)
      rw [q1, if_neg (by decide), show acS 43 = -7 from rfl]
      have h1 := hA (sk bs q + 1) (by omega)
      have h2 := okP_tm (mc := mcS) rfl ha (ha (sk bs q + 1) (by omega))
      revert h1 h2
      cases tmG bs mcS a (a (sk bs q + 1)) with
      | inl e =>
        rintro ⟨he, w, p', dp', h1⟩ _
        simp (disch := omega) only [Option.bind_some, if_true, if_false, not_true_eq_false, not_false_eq_true, z0, ii_add, ii_sub, ii_mul, ifLeT, ifLeF, ifLtT, ifLtF, ifEqT, ifEqF, ifNeT, ifNeF, ifIn, nixZ, ii_i64, o0, o1, isInT, isInF, tn14, tn12, tn2, tn21, tn47, tn48, tn49, tn471, tn472, Int.reduceToNat, Int.toNat_natCast, Int.reduceAdd, Int.reduceSub, Int.reduceMul, Int.reduceNeg, Nat.reduceAdd, Nat.reduceSub, Nat.reduceMul, R_sum_L5, R_sum_L5_b, GH_f, G_lk X hq, G_lk X hk.2, sk_sk, q1, GH_a, GH_inc, h1, G_su2 (show 1 ≤ n by omega) (show e ≤ 1000 by omega)]
        exact ⟨he, _, _, _, rfl⟩
      | inr u =>
        rintro ⟨w, h1, hw⟩ h2
        obtain ⟨t1, t2, t3⟩ := h2
        have hw2 := hw.2.1
        have hwt := wthM_lo (v + w)
        have hS2 := sem_bn hS hw (Nat.le_refl _) (Nat.le_refl _) (by omega) (by omega) (jn_add hv.1 hv.2 hw2.1 hw2.2) hwt.1 hwt.2
        have hih := ih u.1 n f (wthM (v + w)) _ (by omega) t2 (by omega) (by omega) hS2
        simp (disch := omega) only [Option.bind_some, if_true, if_false, not_true_eq_false, not_false_eq_true, z0, ii_add, ii_sub, ii_mul, ifLeT, ifLeF, ifLtT, ifLtF, ifEqT, ifEqF, ifNeT, ifNeF, ifIn, nixZ, ii_i64, o0, o1, isInT, isInF, tn14, tn12, tn2, tn21, tn47, tn48, tn49, tn471, tn472, Int.reduceToNat, Int.toNat_natCast, Int.reduceAdd, Int.reduceSub, Int.reduceMul, Int.reduceNeg, Nat.reduceAdd, Nat.reduceSub, Nat.reduceMul, R_sum_L5, R_sum_L5_b, GH_f, G_lk X hq, G_lk X hk.2, sk_sk, q1, GH_a, GH_inc, h1, l64_add, R_wth]
        exact hih
    · by_cases q2 : ch bs (sk bs q) = 45
      · have hlt := ch_lt (bs := bs) (p := sk bs q) (by omega)
        rw [q2, if_neg (by decide), show acS 45 = -8 from rfl]
        have h1 := hA (sk bs q + 1) (by omega)
        have h2 := okP_tm (mc := mcS) rfl ha (ha (sk bs q + 1) (by omega))
        revert h1 h2
        cases tmG bs mcS a (a (sk bs q + 1)) with
        | inl e =>
          rintro ⟨he, w, p', dp', h1⟩ _
          simp (disch := omega) only [Option.bind_some, if_true, if_false, not_true_eq_false, not_false_eq_true, z0, ii_add, ii_sub, ii_mul, ifLeT, ifLeF, ifLtT, ifLtF, ifEqT, ifEqF, ifNeT, ifNeF, ifIn, nixZ, ii_i64, o0, o1, isInT, isInF, tn14, tn12, tn2, tn21, tn47, tn48, tn49, tn471, tn472, Int.reduceToNat, Int.toNat_natCast, Int.reduceAdd, Int.reduceSub, Int.reduceMul, Int.reduceNeg, Nat.reduceAdd, Nat.reduceSub, Nat.reduceMul, R_sum_L5, R_sum_L5_b, GH_f, G_lk X hq, G_lk X hk.2, sk_sk, q2, GH_a, GH_inc, h1, G_su2 (show 1 ≤ n by omega) (show e ≤ 1000 by omega)]
          exact ⟨he, _, _, _, rfl⟩
        | inr u =>
          rintro ⟨w, h1, hw⟩ h2
          obtain ⟨t1, t2, t3⟩ := h2
          have hw2 := hw.2.1
          have hwt := wthM_lo (v - w)
          have hS2 := sem_bn hS hw (Nat.le_refl _) (Nat.le_refl _) (by omega) (by omega) (jn_sub hv.1 hv.2 hw2.1 hw2.2) hwt.1 hwt.2
          have hih := ih u.1 n f (wthM (v - w)) _ (by omega) t2 (by omega) (by omega) hS2
          simp (disch := omega) only [Option.bind_some, if_true, if_false, not_true_eq_false, not_false_eq_true, z0, ii_add, ii_sub, ii_mul, ifLeT, ifLeF, ifLtT, ifLtF, ifEqT, ifEqF, ifNeT, ifNeF, ifIn, nixZ, ii_i64, o0, o1, isInT, isInF, tn14, tn12, tn2, tn21, tn47, tn48, tn49, tn471, tn472, Int.reduceToNat, Int.toNat_natCast, Int.reduceAdd, Int.reduceSub, Int.reduceMul, Int.reduceNeg, Nat.reduceAdd, Nat.reduceSub, Nat.reduceMul, R_sum_L5, R_sum_L5_b, GH_f, G_lk X hq, G_lk X hk.2, sk_sk, q2, GH_a, GH_inc, h1, l64_sub, R_wth]
          exact hih
      · have em : acS (ch bs (sk bs q)) = -1 := by unfold acS; rw [if_neg q1, if_neg q2]
        rw [if_pos em]
        simp (disch := omega) only [Option.bind_some, if_true, if_false, not_true_eq_false, not_false_eq_true, z0, ii_add, ii_sub, ii_mul, ifLeT, ifLeF, ifLtT, ifLtF, ifEqT, ifEqF, ifNeT, ifNeF, ifIn, nixZ, ii_i64, o0, o1, isInT, isInF, tn14, tn12, tn2, tn21, tn47, tn48, tn49, tn471, tn472, Int.reduceToNat, Int.toNat_natCast, Int.reduceAdd, Int.reduceSub, Int.reduceMul, Int.reduceNeg, Nat.reduceAdd, Nat.reduceSub, Nat.reduceMul, R_sum_L5, R_sum_L5_b, GH_f, G_lk X hq, G_lk X hk.2, sk_sk]
        exact ⟨v, rfl, hS⟩
theorem G_su {rc : Nat → AH → Option (Int32 × AH)} (X : GX bs T b0 g0) {a : Nat → PR} (ha : okA bs a) {dp : Int} {K : Nat} (hA : ∀ p, p ≤ bs.length → GRs bs g0 dp L K (rc 1 (GH g0 p (-1) dp)) (tmG bs mcS a (a p))) {p : Nat} (hp : p ≤ bs.length) : GRs bs g0 dp L (K + 1) (u_R_sum rc (GH g0 p (-1) dp)) (smG bs mcS acS a (a p)) := by
  have hl := X.2.2.2.2.2.2.1.1
  unfold u_R_sum smG
  have hFU : 1000 < FU := by unfold FU; omega
  generalize FU = F at *
  have h250 : 240 < 250 := by omega
  have h1 := hA p hp
  have h2 := okP_tm (mc := mcS) rfl ha (ha p hp)
  revert h1 h2
  cases tmG bs mcS a (a p) with
  | inl e =>
    rintro ⟨he, w, p', dp', h1⟩ _
    rw [bind_eq h1, andP_l]
    exact ⟨he, _, _, _, G_su2 (by omega) (by omega) _⟩
  | inr u =>
    rintro ⟨w, h1, hw⟩ h2
    obtain ⟨t1, t2, t3⟩ := h2
    rw [bind_eq h1, andP_r]
    generalize (250 : Nat) = G at *
    exact G_suL X ha hA bs.length u.1 F G w u.2 (by omega) t2 (by omega) (by omega) (hw.mono (by omega))
theorem G_g2 (X : GX bs T b0 g0) (hL : LTR g0 L) : ∀ (k dp : Nat), dp + k = 6 → (∀ j p, p ≤ bs.length → GRs bs g0 dp L (2 * k + 1) (g2 (3 * k + 1 + j) 2 (GH g0 p (-1) dp)) (pAt bs k p)) ∧ (∀ j p, p ≤ bs.length → GRs bs g0 dp L (2 * k + 3) (g2 (3 * k + 3 + j) 0 (GH g0 p (-1) dp)) (pSm bs k p)) := by
  have step : ∀ k dp : Nat, dp + k = 6 → (∀ j p, p ≤ bs.length → GRs bs g0 dp L (2 * k + 1) (g2 (3 * k + 1 + j) 2 (GH g0 p (-1) dp)) (pAt bs k p)) → (∀ j p, p ≤ bs.length → GRs bs g0 dp L (2 * k + 3) (g2 (3 * k + 3 + j) 0 (GH g0 p (-1) dp)) (pSm bs k p)) := by
    intro k dp hdk hA j p hp
    have e : g2 (3 * k + 3 + j) 0 (GH g0 p (-1) dp) = u_R_sum (g2 (3 * k + 2 + j)) (GH g0 p (-1) dp) := by
      rw [show 3 * k + 3 + j = (3 * k + 2 + j) + 1 by omega]; rfl
    rw [e]
    refine G_su X (okA_pAt k) (K := 2 * k + 2) (fun p hp => ?_) hp
    have e2 : g2 (3 * k + 2 + j) 1 (GH g0 p (-1) dp) = u_R_term (g2 (3 * k + 1 + j)) (GH g0 p (-1) dp) := by
      rw [show 3 * k + 2 + j = (3 * k + 1 + j) + 1 by omega]; rfl
    rw [e2]
    exact G_tm X (okA_pAt k) (K := 2 * k + 1) (hA j) hp
  have all : ∀ k dp : Nat, dp + k = 6 → (∀ j p, p ≤ bs.length → GRs bs g0 dp L (2 * k + 1) (g2 (3 * k + 1 + j) 2 (GH g0 p (-1) dp)) (pAt bs k p)) := by
    intro k
    induction k with
    | zero =>
      intro dp hdk j p hp
      have e : g2 (3 * 0 + 1 + j) 2 (GH g0 p (-1) dp) = u_R_atom (g2 j) (GH g0 p (-1) dp) := by
        rw [show 3 * 0 + 1 + j = j + 1 by omega]; rfl
      rw [e]
      exact G_at X hL (sub := none) (by omega) (by omega) (fun _ => by omega) (fun f z => by cases z) hp
    | succ k ih =>
      intro dp hdk j p hp
      have e : g2 (3 * (k + 1) + 1 + j) 2 (GH g0 p (-1) dp) = u_R_atom (g2 (3 * k + 3 + j)) (GH g0 p (-1) dp) := by
        rw [show 3 * (k + 1) + 1 + j = (3 * k + 3 + j) + 1 by omega]; rfl
      rw [e]
      exact G_at X hL (sub := some (pSm bs k)) (by omega) (by omega) (fun z => by cases z) (fun f z => by
        cases z
        exact ⟨by omega, okA_pSm k, step k (dp + 1) (by omega) (ih (dp + 1) (by omega)) j⟩) hp
  intro k dp hdk
  exact ⟨all k dp hdk, step k dp hdk (all k dp hdk)⟩
theorem G_sum (X : GX bs T b0 g0) (hL : LTR g0 L) {k dp : Nat} (h : dp + k = 6) {p : Nat} (hp : p ≤ bs.length) : GRs bs g0 dp L (2 * k + 3) (g2 40 0 (GH g0 p (-1) dp)) (pSm bs k p) := by
  have := (G_g2 X hL k dp h).2 (40 - (3 * k + 3)) p hp
  rwa [show 3 * k + 3 + (40 - (3 * k + 3)) = 40 by omega] at this
end GF
