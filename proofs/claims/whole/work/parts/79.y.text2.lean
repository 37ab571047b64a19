/-! walks: text -/
section TX2
variable {S : ST} {B : Nat} {h g h' g' h1 g1 : AH} {bs : List Int}
def swp (n i : Nat) : Nat := if i = n then 4 else if i = 4 then n else i
theorem swp_lt {n i : Nat} (hn : n < 4) (hi : i < 5) : swp n i < 5 := by unfold swp; split; omega; split <;> omega
theorem swp_inj {n i j : Nat} (hn : n < 4) (hi : i < 5) (hj : j < 5) (e : swp n i = swp n j) : i = j := by
  unfold swp at e
  split at e <;> split at e <;> (try split at e) <;> (try split at e) <;> omega
/-- the reference's row of walks, told -/
theorem R_t137 {n : Nat} (hn : n < 4) {A : List (Nat × Nat)} (hA : A.length ≤ 64) (e39 : g.1 80 39 = ii n) (hw : WSo A g) (e4 : g.1 96 4 = ii A.length) : ∃ g1, R_text_L137 FU (ii 0) g = some (ii n, g1) ∧ g1.2 = g.2 ∧ (∀ x, x ≠ 80 → x ≠ 95 → x ≠ 96 → g1.1 x = g.1 x) ∧ (∀ j, j ≠ 39 → g1.1 80 j = g.1 80 j) ∧ g1.1 80 39 = ii (n + 1 : Nat) ∧ (∀ j, j ≠ n → g1.1 96 j = g.1 96 j) ∧ g1.1 96 n = ii A.length ∧ (∀ j, j < 128 * n → g1.1 95 j = g.1 95 j) ∧ ∀ j, j < A.length → g1.1 95 (128 * n + 2 * j) = ii (A.getD j (0, 0)).1 ∧ g1.1 95 (128 * n + 2 * j + 1) = ii (A.getD j (0, 0)).2 := by
  refine lup (fun m k (x : AH) => R_text_L137 m (ii k) x) 128 (fun k x => x.2 = g.2 ∧ (∀ z, z ≠ 95 → x.1 z = g.1 z) ∧ (∀ j, j < 128 * n → x.1 95 j = g.1 95 j) ∧ (∀ j, j < k → x.1 95 (128 * n + j) = g.1 95 (512 + j)) ∧ ∀ j, 512 ≤ j → x.1 95 j = g.1 95 j) (fun y => ∃ g1, y = some (ii n, g1) ∧ g1.2 = g.2 ∧ (∀ x, x ≠ 80 → x ≠ 95 → x ≠ 96 → g1.1 x = g.1 x) ∧ (∀ j, j ≠ 39 → g1.1 80 j = g.1 80 j) ∧ g1.1 80 39 = ii (n + 1 : Nat) ∧ (∀ j, j ≠ n → g1.1 96 j = g.1 96 j) ∧ g1.1 96 n = ii A.length ∧ (∀ j, j < 128 * n → g1.1 95 j = g.1 95 j) ∧ ∀ j, j < A.length → g1.1 95 (128 * n + 2 * j) = ii (A.getD j (0, 0)).1 ∧ g1.1 95 (128 * n + 2 * j + 1) = ii (A.getD j (0, 0)).2) ?_ ?_ 128 0 FU g (by omega) (by unfold FU; omega) ⟨rfl, fun _ _ => rfl, fun _ _ => rfl, fun j hj => by omega, fun _ _ => rfl⟩
  · rintro m x ⟨r1, r2, r3, r4, r5⟩
    have x39 : x.1 80 39 = ii n := by rw [r2 80 (by decide)]; exact e39
    have x96 : x.1 96 4 = ii A.length := by rw [r2 96 (by decide)]; exact e4
    have y39 : ∀ v, (wI x 96 n v).1 80 39 = ii n := fun v => by rw [wI_ne (by decide)]; exact x39
    have z39 : ∀ v, (wI (wI x 96 n v) 80 39 (ii ((n : Int) + 1))).1 80 39 = ii ((n : Int) + 1) := fun v => by rw [wI_self, upd_self]
    have es : (n : Int) + 1 - 1 = n := by omega
    simp (disch := omega) only [Option.bind_some, if_true, if_false, not_true_eq_false, not_false_eq_true, z0, ii_add, ii_sub, ii_mul, ifLeT, ifLeF, ifLtT, ifLtF, ifEqT, ifEqF, ifNeT, ifNeF, ifIn, nixZ, ii_i64, o0, o1, isInT, isInF, tn14, tn12, tn2, tn21, tn47, tn48, tn49, tn471, tn472, Int.reduceToNat, Int.toNat_natCast, Int.reduceAdd, Int.reduceSub, Int.reduceMul, Int.reduceNeg, Nat.reduceAdd, Nat.reduceSub, Nat.reduceMul, R_text_L137, R_text_L137_b, Int.cast_ofNat_Int, x39, x96, y39, z39, es]
    refine ⟨_, rfl, r1, fun z h1 h2 h3 => by rw [wI_ne h1, wI_ne h3]; exact r2 z h2, fun j hj => by rw [wI_self, upd_ne hj, wI_ne (by decide)]; rw [r2 80 (by decide)], by rw [wI_self, upd_self]; rfl, fun j hj => by rw [wI_ne (by decide), wI_self, upd_ne hj]; rw [r2 96 (by decide)], by rw [wI_ne (by decide), wI_self, upd_self], fun j hj => by rw [wI_ne (by decide), wI_ne (by decide)]; exact r3 j hj, fun j hj => ?_⟩
    rw [wI_ne (by decide), wI_ne (by decide), r4 (2 * j) (by omega), show 128 * n + 2 * j + 1 = 128 * n + (2 * j + 1) by omega, r4 (2 * j + 1) (by omega)]
    exact hw j hj
  · rintro m k x hk ⟨r1, r2, r3, r4, r5⟩
    right
    have x39 : x.1 80 39 = ii n := by rw [r2 80 (by decide)]; exact e39
    have t1 : (512 + (k : Int)).toNat = 512 + k := by omega
    have t2 : (128 * (n : Int) + k).toNat = 128 * n + k := by omega
    simp (disch := omega) only [Option.bind_some, if_true, if_false, not_true_eq_false, not_false_eq_true, z0, ii_add, ii_sub, ii_mul, ifLeT, ifLeF, ifLtT, ifLtF, ifEqT, ifEqF, ifNeT, ifNeF, ifIn, nixZ, ii_i64, o0, o1, isInT, isInF, tn14, tn12, tn2, tn21, tn47, tn48, tn49, tn471, tn472, Int.reduceToNat, Int.toNat_natCast, Int.reduceAdd, Int.reduceSub, Int.reduceMul, Int.reduceNeg, Nat.reduceAdd, Nat.reduceSub, Nat.reduceMul, R_text_L137, R_text_L137_b, x39, t1, t2]
    refine ⟨_, rfl, r1, fun z hz => by rw [wI_ne hz]; exact r2 z hz, fun j hj => by rw [wI_self, upd_ne (by omega)]; exact r3 j hj, fun j hj => ?_, fun j hj => by rw [wI_self, upd_ne (by omega)]; exact r5 j hj⟩
    rw [wI_self]
    by_cases e : j = k
    · rw [e, upd_self]; exact r5 _ (by omega)
    · rw [upd_ne (by omega)]; exact r4 j (by omega)
/-- the class takes the walks -/
theorem C_tkw (C : CRep S B h) (V : VS S) (hn : (sW S).length < 4) {A : List (Nat × Nat)} (hA : WalC A (ww h 4) h) : ∃ h1, f_HF_takeWalks h = some (ii (sW S).length, h1) ∧ CRep ([], sH S, sD S, sA S, sI S, sE S, sL S, sO S, sW S ++ [A]) B h1 ∧ KR h h1 := by
  obtain ⟨c1, ⟨o, ho, p1, p2, p3⟩, ⟨wr, w1, w2, w3⟩, c4, c5, c6, c7⟩ := C
  obtain ⟨n, hn'⟩ : ∃ n, n = (sW S).length := ⟨_, rfl⟩
  have e15 : h.1 0 15 = ii n := by rw [hn']; exact c7.1
  rw [← hn'] at hn ⊢
  obtain ⟨x, hx⟩ : ∃ x, x = wR (wR h 9 0 (h.2.2 11 n)) 11 n (h.2.2 9 0) := ⟨_, rfl⟩
  have x1 : x.1 = h.1 := by rw [hx]; rfl
  have x2 : ∀ a j, x.2.2 a j = if a = 11 then (if j = n then h.2.2 9 0 else h.2.2 11 j) else if a = 9 then (if j = 0 then h.2.2 11 n else h.2.2 9 j) else h.2.2 a j := fun a j => by
    rw [hx, wR_rd, wR_rd]
    by_cases ea : a = 11
    · rw [if_pos ea, if_pos ea, if_neg (show ¬ (11 : Nat) = 9 by decide)]
    · rw [if_neg ea, if_neg ea, wR_rd]
  have x21 : x.2.1 = h.2.1 := by rw [hx]; rfl
  obtain ⟨y, hy⟩ : ∃ y, y = wI (wI x 1 1 (ii 0)) 0 15 (ii (n + 1 : Nat)) := ⟨_, rfl⟩
  have y2 : y.2 = x.2 := by rw [hy]; rfl
  have yn : ∀ z, z ≠ 0 → z ≠ 1 → y.1 z = h.1 z := fun z h1 h2 => by rw [hy, wI_ne h1, wI_ne h2, x1]
  have y0 : ∀ j, j ≠ 15 → y.1 0 j = h.1 0 j := fun j hj => by rw [hy, wI_self, upd_ne hj, wI_ne (by decide), x1]
  have y15 : y.1 0 15 = ii (n + 1 : Nat) := by rw [hy, wI_self, upd_self]
  have y11 : y.1 1 1 = ii 0 := by rw [hy, wI_ne (by decide), wI_self, upd_self]
  have eww : ∀ i, i < 5 → ww y i = ww h (swp n i) := fun i hi => by
    unfold ww swp
    rw [y2]
    by_cases q1 : i = n
    · rw [if_pos q1, if_pos (by omega), x2, if_pos rfl, if_pos q1]; rfl
    · rw [if_neg q1]
      by_cases q2 : i = 4
      · rw [if_pos q2, if_neg (by omega), if_pos hn, x2, if_neg (by decide), if_pos rfl, if_pos rfl]
      · rw [if_neg q2, if_pos (by omega), if_pos (by omega), x2, if_pos rfl, if_neg q1]
  have elw : ∀ i, lw y i = lw h i := fun i => by
    unfold lw
    rw [y2, x2 10, x2 8, if_neg (show ¬ (10 : Nat) = 11 by decide), if_neg (show ¬ (10 : Nat) = 9 by decide), if_neg (show ¬ (8 : Nat) = 11 by decide), if_neg (show ¬ (8 : Nat) = 9 by decide)]
  have m13 : mvO y 13 = mvO h 13 := mv_eq (fun i hi => yn _ (by omega) (by omega))
  have m19 : mvO y 19 = mvO h 19 := mv_eq (fun i hi => yn _ (by omega) (by omega))
  refine ⟨y, ?_, ⟨⟨y11, fun j hj => absurd hj (by simp [sB])⟩, ⟨o, ho, by rw [y2, x2, if_neg (by decide), if_neg (by decide)]; exact p1, by rw [y2, x2, if_neg (by decide), if_neg (by decide)]; exact p2, p3.ag (fun i hi => yn _ (by omega) (by omega))⟩, ⟨wr, w1, by rw [m13]; exact w2, w3.eq (yn 31 (by decide) (by decide)) (yn 32 (by decide) (by decide)) m13⟩, c4.eq (y0 17 (by decide)) m19 (Nat.le_refl _), c5.eq (by rw [yn 33 (by decide) (by decide)]) (yn 34 (by decide) (by decide)) (yn 35 (by decide) (by decide)) (yn 36 (by decide) (by decide)), ?_, ?_⟩, ?_⟩
  · unfold f_HF_takeWalks f_WR_exchange
    have z1 : (wI (wR (wR h 9 0 (h.2.2 11 n)) 11 n (h.2.2 9 0)) 1 1 (ii 0)).1 0 15 = ii n := by rw [wI_ne (by decide)]; exact e15
    have z2 : (wI (wI (wR (wR h 9 0 (h.2.2 11 n)) 11 n (h.2.2 9 0)) 1 1 (ii 0)) 0 15 (ii ((n : Int) + 1))).1 0 15 = ii ((n : Int) + 1) := by rw [wI_self, upd_self]
    have es : (n : Int) + 1 - 1 = n := by omega
    simp (disch := omega) only [Option.bind_some, if_true, if_false, not_true_eq_false, not_false_eq_true, z0, ii_add, ii_sub, ii_mul, ifLeT, ifLeF, ifLtT, ifLtF, ifEqT, ifEqF, ifNeT, ifNeF, ifIn, nixZ, ii_i64, o0, o1, isInT, isInF, tn14, tn12, tn2, tn21, tn47, tn48, tn49, tn471, tn472, Int.reduceToNat, Int.toNat_natCast, Int.reduceAdd, Int.reduceSub, Int.reduceMul, Int.reduceNeg, Nat.reduceAdd, Nat.reduceSub, Nat.reduceMul, e15, z1, z2, es]
    rw [hy, hx]; rfl
  · obtain ⟨a1, a2, a3, a4, a5⟩ := c6
    refine ⟨by rw [y0 14 (by decide)]; exact a1, by rw [y0 16 (by decide)]; exact a2, fun i hi => by rw [elw]; exact a3 i hi, fun i j hi hj => by rw [elw, elw]; exact a4 i j hi hj, fun i hi => ?_⟩
    rw [elw]
    have hla : (sL S).length ≤ 4 := V.2.2.2.2.2.2.1.1
    have hi' : i < (sL S).length := hi
    have hm := a3 i (by omega)
    obtain ⟨D, d1, d2, d3, d4⟩ := a5 i hi
    have hge : 55 ≤ lw h i := by simp only [List.mem_cons, List.not_mem_nil, or_false] at hm; omega
    exact ⟨D, d1, d2, by rw [yn _ (by omega) (by omega)]; exact d3, by rw [yn _ (by omega) (by omega)]; exact d4⟩
  · obtain ⟨a1, a3, a4, a5⟩ := c7
    have hge : ∀ i, i < 5 → 70 ≤ ww h i := fun i hi => by have hm := a3 i hi; simp only [List.mem_cons, List.not_mem_nil, or_false] at hm; omega
    refine ⟨by rw [y15, hn']; show _ = ii ((sW S ++ [A]).length : Int); rw [List.length_append]; rfl, fun i hi => by rw [eww i hi]; exact a3 _ (swp_lt hn hi), fun i j hi hj e => ?_, fun i hi => ?_⟩
    · rw [eww i hi, eww j hj] at e
      exact swp_inj hn hi hj (a4 _ _ (swp_lt hn hi) (swp_lt hn hj) e)
    · have hi' : i < n + 1 := by rw [hn']; have : i < (sW S ++ [A]).length := hi; rw [List.length_append] at this; exact this
      rw [eww i (by omega)]
      show WalC ((sW S ++ [A]).getD i []) _ _
      have hg := hge (swp n i) (swp_lt hn (by omega))
      unfold WalC
      rw [yn _ (by omega) (by omega), yn _ (by omega) (by omega)]
      by_cases q : i = n
      · have : swp n i = 4 := by unfold swp; rw [if_pos q]
        rw [this, q, hn', gd_last]
        exact hA
      · have : swp n i = i := by unfold swp; rw [if_neg q, if_neg (by omega)]
        rw [this, gd_app (by omega)]
        exact a5 i (by omega)
  · refine ⟨fun a ha => yn a (by omega) (by omega), fun a ha => ?_, by rw [y2, x21]⟩
    funext j
    rw [y2, x2, if_neg (by omega), if_neg (by omega)]
theorem k_text2 (V : VS S) (C : CRep S B h) (R : RRep S g) : Call S B h g (f_HF_text (ii 2) h) (f_R_text (ii 2) g) := by
  have hw4 := C.2.2.2.2.2.2.2.1 4 (by omega)
  have hw : 70 ≤ ww h 4 ∧ ww h 4 ≤ 78 := by simp only [List.mem_cons, List.not_mem_nil, or_false] at hw4; omega
  have e9 : h.2.2 9 0 = ww h 4 := rfl
  have h4 := V.2.2.2.2.2.2.2.2.1
  have c := C_wfault V.1 C.1 hw.1 e9
  have Kt := RS.t0 g (v := ii 0)
  have R0 : RRep S (wI g 80 0 (ii 0)) := R.keep V Kt.1
  have r := R_wfault R0.1 V.1
  have so := stF_ok V.1 8 0 [] (Nat.zero_le _) (by simp) (by simp)
  have e0 : f_HF_text (ii 2) h = (f_WR_faultOf h).bind fun q5 => if q5.1 = (ii (-1)) then (f_HF_takeWalks q5.2).bind fun q6 => some (q6.1, q6.2) else some ((ii (-1)), q5.2) := by
    unfold f_HF_text
    rw [if_neg (by decide), if_neg (by decide), if_pos rfl]
  have e39 := R0.2.2.2.2.2.2.2.1.1
  have er : f_R_text (ii 2) g = if ((wI g 80 0 (ii 0)).1 80 39) = (ii 4) then some ((ii (-1)), (wI g 80 0 (ii 0))) else (f_R_fault (ii 2) (wI g 80 0 (ii 0))).bind fun q => if q.1 = (ii (-1)) then R_text_L137 FU (ii 0) (wI q.2 80 6 (ii 0)) else some ((ii (-1)), q.2) := by
    unfold f_R_text
    generalize FU = F
    rw [if_neg (by decide), if_neg (by decide), if_pos rfl]
    simp only [if_neg (show ¬ ii 2 = ii 1 by decide), if_true]
  rw [e0, er]
  generalize wI g 80 0 (ii 0) = g0 at *
  by_cases q4 : (sW S).length = 4
  · rw [if_pos (show g0.1 80 39 = ii 4 by rw [e39, q4]; rfl)]
    generalize stF (sB S) 8 0 [] = z at *
    rcases z with e | A
    · obtain ⟨h1, A, z1, z2⟩ := c
      have so' : e ≤ (sB S).length := so
      have hb := V.1.1
      have ec : ((f_WR_faultOf h).bind fun q5 => if q5.1 = (ii (-1)) then (f_HF_takeWalks q5.2).bind fun q6 => some (q6.1, q6.2) else some ((ii (-1)), q5.2)) = some (ii (-1), h1) := by
        rw [bind_eq z1]
        simp only
        rw [if_neg (by rw [ii_eq (by omega) (by omega) (by omega) (by omega)]; omega)]
      exact call_ks V C R ec rfl (z2.ks hw rfl).1 (z2.ks hw rfl).2 Kt
    · obtain ⟨h1, p, z1, z2⟩ := c
      have K := z2.ks hw rfl
      have C1 := C.ks V K.1
      have e15 := C1.2.2.2.2.2.2.1
      have et : f_HF_takeWalks h1 = some (ii (-1), h1) := by
        unfold f_HF_takeWalks
        have e15' : h1.1 0 15 = ii 4 := by rw [e15, q4]; rfl
        simp (disch := omega) only [Option.bind_some, if_true, if_false, not_true_eq_false, not_false_eq_true, z0, ii_add, ii_sub, ii_mul, ifLeT, ifLeF, ifLtT, ifLtF, ifEqT, ifEqF, ifNeT, ifNeF, ifIn, nixZ, ii_i64, o0, o1, isInT, isInF, tn14, tn12, tn2, tn21, tn47, tn48, tn49, tn471, tn472, Int.reduceToNat, Int.toNat_natCast, Int.reduceAdd, Int.reduceSub, Int.reduceMul, Int.reduceNeg, Nat.reduceAdd, Nat.reduceSub, Nat.reduceMul, e15']
      have ec : ((f_WR_faultOf h).bind fun q5 => if q5.1 = (ii (-1)) then (f_HF_takeWalks q5.2).bind fun q6 => some (q6.1, q6.2) else some ((ii (-1)), q5.2)) = some (ii (-1), h1) := by
        rw [bind_eq z1]
        simp only
        rw [if_pos trivial, bind_eq et]
      exact call_ks V C R ec rfl K.1 K.2 Kt
  · rw [if_neg (show ¬ g0.1 80 39 = ii 4 by rw [e39, ii_eq (by omega) (by omega) (by omega) (by omega)]; omega)]
    generalize stF (sB S) 8 0 [] = z at *
    rcases z with e | A
    · obtain ⟨h1, A, z1, z2⟩ := c
      obtain ⟨g1, y1, y2⟩ := r
      have so' : e ≤ (sB S).length := so
      have hb := V.1.1
      have en : ¬ ii (e : Int) = ii (-1) := by rw [ii_eq (by omega) (by omega) (by omega) (by omega)]; omega
      rw [bind_eq z1, bind_eq y1]
      simp only
      rw [if_neg en, if_neg en]
      exact call_ks V C R rfl rfl (z2.ks hw rfl).1 (z2.ks hw rfl).2 (Kt.tr y2)
    · obtain ⟨h1, p, z1, z2⟩ := c
      obtain ⟨g1, y1, y2, y3, y4⟩ := r
      have K := z2.ks hw rfl
      have C1 := C.ks V K.1
      have eww : ww h1 4 = ww h 4 := by unfold ww; rw [K.1.2.2.2.2]
      obtain ⟨h2, t1, C2, K2⟩ := C_tkw C1 V (by omega) (A := A) (by rw [eww]; exact z2.2.2.2.2)
      have R1 := R0.keep V y2.1
      obtain ⟨s1, s2, s3, s4, s5, s6, s7, s8, s9⟩ := R1
      have hl64 : A.length ≤ 64 := so.1
      have hok : ∀ x ∈ A, x.1 ≤ 9 ∧ x.2 ≤ 3 := so.2
      obtain ⟨n, hn⟩ : ∃ n, n = (sW S).length := ⟨_, rfl⟩
      obtain ⟨g2, u1, u2, u3, u4, u5, u6, u7, u8, u9⟩ := R_t137 (g := wI g1 80 6 (ii 0)) (n := n) (by omega) hl64 (by rw [wI_self, upd_ne (by decide), hn]; exact s8.1) (fun j hj => by rw [wI_ne (by decide)]; exact y3 j hj) (by rw [wI_ne (by decide)]; exact y4)
      rw [bind_eq z1, bind_eq y1]
      simp only
      rw [if_pos trivial, if_pos trivial, bind_eq t1, u1, ← hn]
      have v80 : ∀ j, j ≠ 39 → j ≠ 6 → g2.1 80 j = g1.1 80 j := fun j h1 h2 => by rw [u4 j h1, wI_self, upd_ne h2]
      have vx : ∀ x, x ≠ 80 → x ≠ 95 → x ≠ 96 → g2.1 x = g1.1 x := fun x h1 h2 h3 => by rw [u3 x h1 h2 h3, wI_ne h1]
      refine ⟨_, h2, g2, ([], sH S, sD S, sA S, sI S, sE S, sL S, sO S, sW S ++ [A]), rfl, rfl, ?_, C2.mono (by omega), ?_, K.2.tr K2, ?_⟩
      · obtain ⟨v1, v2, v3, v4, v5, v6, v7, v8, v9⟩ := V
        refine ⟨⟨by simp [sB], fun b hb => absurd hb (by simp [sB])⟩, v2, v3, v4, v5, v6, v7, v8, ⟨?_, fun x hx => ?_⟩⟩
        · show (sW S ++ [A]).length ≤ 4
          rw [List.length_append]; simp; omega
        · have hx' : x ∈ sW S ++ [A] := hx
          rcases List.mem_append.mp hx' with z | z
          · exact v9.2 x z
          · rw [List.mem_singleton.mp z]; exact ⟨hl64, hok⟩
      · refine ⟨⟨?_, fun j hj => absurd hj (by simp [sB])⟩, ?_, fun j hj => by rw [vx 97 (by decide) (by decide) (by decide)]; exact s3 j hj, ⟨by rw [v80 45 (by decide) (by decide)]; exact s4.1, fun i hi j hj => by rw [vx 99 (by decide) (by decide) (by decide)]; exact s4.2 i hi j hj⟩, s5.eq (v80 55 (by decide) (by decide)) (vx 104 (by decide) (by decide) (by decide)), s6.eq (v80 52 (by decide) (by decide)) (vx 100 (by decide) (by decide) (by decide)) (vx 101 (by decide) (by decide) (by decide)) (vx 102 (by decide) (by decide) (by decide)), ⟨by rw [v80 7 (by decide) (by decide)]; exact s7.1, by rw [v80 43 (by decide) (by decide)]; exact s7.2.1, fun i hi => ⟨by rw [vx 83 (by decide) (by decide) (by decide)]; exact (s7.2.2 i hi).1, fun j hj => by rw [vx 82 (by decide) (by decide) (by decide)]; exact (s7.2.2 i hi).2 j hj⟩⟩, ⟨?_, fun i hi => ?_⟩, fun j hj => by rw [vx 84 (by decide) (by decide) (by decide)]; exact s9 j hj⟩
        · rw [u4 6 (by decide), wI_self, upd_self]; rfl
        · obtain ⟨a1, a2, a3, a4, a5, a6, a7, a8, a9, a10⟩ := s2
          exact ⟨fun j hj => by rw [vx 85 (by decide) (by decide) (by decide)]; exact a1 j hj, by rw [v80 30 (by decide) (by decide)]; exact a2, by rw [v80 31 (by decide) (by decide)]; exact a3, by rw [v80 32 (by decide) (by decide)]; exact a4, by rw [v80 33 (by decide) (by decide)]; exact a5, by rw [v80 34 (by decide) (by decide)]; exact a6, fun j hj => by rw [vx 87 (by decide) (by decide) (by decide)]; exact a7 j hj, fun j hj => by rw [vx 89 (by decide) (by decide) (by decide)]; exact a8 j hj, fun j hj => by rw [vx 91 (by decide) (by decide) (by decide)]; exact a9 j hj, fun j hj => by rw [vx 93 (by decide) (by decide) (by decide)]; exact a10 j hj⟩
        · show g2.1 80 39 = ii ((sW S ++ [A]).length : Int)
          rw [u5, List.length_append, ← hn]; rfl
        · have hi' : i < n + 1 := by rw [hn]; have : i < (sW S ++ [A]).length := hi; rw [List.length_append] at this; exact this
          show g2.1 96 i = ii ((sW S ++ [A]).getD i []).length ∧ _
          by_cases q : i = n
          · have eg : (sW S ++ [A]).getD i [] = A := by rw [q, hn, gd_last]
            refine ⟨by rw [eg, q]; exact u7, fun j hj => ?_⟩
            show g2.1 95 (128 * i + 2 * j) = ii (((sW S ++ [A]).getD i []).getD j (0, 0)).1 ∧ g2.1 95 (128 * i + 2 * j + 1) = ii (((sW S ++ [A]).getD i []).getD j (0, 0)).2
            have hj' : j < ((sW S ++ [A]).getD i []).length := hj
            rw [eg] at hj' ⊢
            rw [q]; exact u9 j hj'
          · have eg : (sW S ++ [A]).getD i [] = (sW S).getD i [] := gd_app (by omega)
            have s8i := s8.2 i (by omega)
            have hle := (V.2.2.2.2.2.2.2.2.2 _ (getD_mem (l := sW S) (i := i) [] (by omega))).1
            refine ⟨by rw [eg, u6 i q, wI_ne (by decide)]; exact s8i.1, fun j hj => ?_⟩
            show g2.1 95 (128 * i + 2 * j) = ii (((sW S ++ [A]).getD i []).getD j (0, 0)).1 ∧ g2.1 95 (128 * i + 2 * j + 1) = ii (((sW S ++ [A]).getD i []).getD j (0, 0)).2
            have hj' : j < ((sW S ++ [A]).getD i []).length := hj
            rw [eg] at hj' ⊢
            rw [u8 _ (by omega), u8 _ (by omega), wI_ne (by decide)]
            exact s8i.2 j hj'
      · refine (Kt.2.tr y2.2).tr ⟨fun x hx => vx x (by omega) (by omega) (by omega), fun x hx => by rw [u2]; rfl⟩
end TX2
