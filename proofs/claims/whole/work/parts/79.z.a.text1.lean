/-! laws: fault and text -/
section TX1
variable {S : ST} {B : Nat} {h g h' g' h1 g1 : AH} {bs : List Int}
theorem sb_id : ∀ b : Nat, b < 256 → (sb b).toInt8.toInt32 = sb b := by decide +kernel
theorem LH.ks {o q : Nat} {C : List Int} (ho : o ∈ [55, 58, 61, 64, 67]) (e : lw h 4 = o) : CKs h (LH h o q C) ∧ KR h (LH h o q C) := by
  have hr : 55 ≤ o ∧ o ≤ 67 := by simp only [List.mem_cons, List.not_mem_nil, or_false] at ho; omega
  refine ⟨⟨fun x hx hs hp => ?_, by rw [LH_1, upd_ne (by decide)], by rw [LH_n (by decide) (by omega) (by omega)], fun x hx hn => ?_, by rw [LH_2]⟩, ⟨fun x hx => LH_n (by omega) (by omega) (by omega), fun x hx => by rw [LH_2], by rw [LH_2]⟩⟩
  · unfold spP at hp
    refine LH_n (fun z => by subst z; exact absurd hs (by decide)) (fun z => ?_) (fun z => hp (by omega))
    subst z
    simp only [List.mem_cons, List.not_mem_nil, or_false] at ho
    rcases ho with y | y | y | y | y <;> rw [y] at hs <;> exact absurd hs (by decide)
  · simp only [List.mem_cons, List.not_mem_nil, or_false] at hx ho
    rw [LH_n (by omega) (by omega) (by omega)]
theorem R_lfault (t : TP 80 6 81 sb g bs) (ok : okB bs) (L : LR g) : (match pLaw bs with
    | .inl e => e ≤ bs.length ∧ ∃ g1, f_R_fault (ii 1) g = some (ii e, g1) ∧ RS g g1
    | .inr C => ∃ g1, f_R_fault (ii 1) g = some (ii (-1), g1) ∧ RS g g1) := by
  have t0 : TP 80 6 81 sb (wI g 80 0 (ii 0)) bs := ⟨by rw [wI_self, upd_ne (by decide)]; exact t.1, fun j hj => by rw [wI_ne (by decide)]; exact t.2 j hj⟩
  have Kt := RS.t0 g (v := ii 0)
  have L0 := Kt.1.1 L
  have hb := ok.1
  have e0 : f_R_fault (ii 1) g = (f_R_goThrough 240 81 (ii 0) (ii bs.length) (wI g 80 0 (ii 0))).bind fun q => some (q.1 80 11, q) := by
    unfold f_R_fault
    rw [if_neg (by decide), if_neg (by decide), Option.bind_some, if_pos rfl, t0.1]
    cases f_R_goThrough 240 81 (ii 0) (ii bs.length) (wI g 80 0 (ii 0)) with
    | none => rfl
    | some x =>
      simp only [Option.bind_some]
      rw [if_neg (by decide)]
      rfl
  rw [e0]
  generalize wI g 80 0 (ii 0) = g0 at *
  have hL : LTR g0 (fun i => if i = 0 then g0.1 84 100 else if i = 1 then g0.1 84 109 else if i = 2 then g0.1 84 105 else if i = 3 then g0.1 84 120 else if i = 4 then g0.1 84 115 else g0.1 84 111) := by
    refine ⟨⟨rfl, rfl, rfl, rfl, rfl, rfl⟩, fun i hi => ?_⟩
    rcases (show i = 0 ∨ i = 1 ∨ i = 2 ∨ i = 3 ∨ i = 4 ∨ i = 5 by omega) with e | e | e | e | e | e <;> subst e
    · exact L0 100 (by omega)
    · exact L0 109 (by omega)
    · exact L0 105 (by omega)
    · exact L0 120 (by omega)
    · exact L0 115 (by omega)
    · exact L0 111 (by omega)
  have hsh := sh81
  obtain ⟨g2, z1, z2, z3, z4⟩ := G_go (n1 := 240) (T := 81) (b0 := 0) (Or.inl rfl) ok (by omega) (fun j hj => by rw [Nat.zero_add]; exact t0.2 j hj) hL
  have z1' : f_R_goThrough 240 81 (ii 0) (ii bs.length) g0 = some g2 := z1
  generalize pLaw bs = r at *
  rcases r with e | C
  · exact ⟨z4.1, g2, by rw [bind_eq z1', z4.2], Kt.tr z2⟩
  · exact ⟨g2, by rw [bind_eq z1', z4.1], Kt.tr z2⟩
theorem lx_of (C : CRep S B h) (V : VS S) : LX (sB S) h (lw h 4) := ⟨C.1, V.1, rfl, C.2.2.2.2.2.1.2.2.1 4 (by omega)⟩
theorem k_fault1 (V : VS S) (C : CRep S B h) (R : RRep S g) : Call S B h g (f_HF_fault (ii 1) h) (f_R_fault (ii 1) g) := by
  have X := lx_of C V
  have c := L_law X
  have r := R_lfault R.1 V.1 R.2.2.2.2.2.2.2.2
  have e0 : f_HF_fault (ii 1) h = f_LR_faultOf h := by
    unfold f_HF_fault
    rw [if_neg (by decide), if_pos rfl]
    cases f_LR_faultOf h <;> rfl
  rw [e0]
  have K : ∀ q D, CKs h (LH h (lw h 4) q D) ∧ KR h (LH h (lw h 4) q D) := fun q D => LH.ks X.2.2.2 rfl
  generalize pLaw (sB S) = z at *
  rcases z with e | A
  · obtain ⟨D, z1⟩ := c
    obtain ⟨_, g1, y1, y2⟩ := r
    exact call_ks V C R z1 y1 (K _ _).1 (K _ _).2 y2
  · obtain ⟨_, q, z1⟩ := c
    obtain ⟨g1, y1, y2⟩ := r
    exact call_ks V C R z1 y1 (K _ _).1 (K _ _).2 y2
theorem R_t71 {n : Nat} (hn : n < 4) (ok : okB bs) (e7 : g.1 80 7 = ii n) (ht : ∀ j, j < bs.length → g.1 81 j = sb (bs.getD j 0)) : ∃ g1, R_text_L71 FU (ii bs.length) (ii 0) g = some (ii n, g1) ∧ g1.2 = g.2 ∧ (∀ x, x ≠ 80 → x ≠ 82 → x ≠ 83 → g1.1 x = g.1 x) ∧ (∀ j, j ≠ 7 → g1.1 80 j = g.1 80 j) ∧ g1.1 80 7 = ii (n + 1 : Nat) ∧ (∀ j, j ≠ n → g1.1 83 j = g.1 83 j) ∧ g1.1 83 n = ii bs.length ∧ (∀ j, j < 240 * n → g1.1 82 j = g.1 82 j) ∧ ∀ j, j < bs.length → g1.1 82 (240 * n + j) = sb (bs.getD j 0) := by
  have hl := ok.1
  refine lup (fun m k (x : AH) => R_text_L71 m (ii bs.length) (ii k) x) bs.length (fun k x => x.2 = g.2 ∧ (∀ z, z ≠ 82 → x.1 z = g.1 z) ∧ (∀ j, j < 240 * n → x.1 82 j = g.1 82 j) ∧ ∀ j, j < k → x.1 82 (240 * n + j) = sb (bs.getD j 0)) (fun y => ∃ g1, y = some (ii n, g1) ∧ g1.2 = g.2 ∧ (∀ x, x ≠ 80 → x ≠ 82 → x ≠ 83 → g1.1 x = g.1 x) ∧ (∀ j, j ≠ 7 → g1.1 80 j = g.1 80 j) ∧ g1.1 80 7 = ii (n + 1 : Nat) ∧ (∀ j, j ≠ n → g1.1 83 j = g.1 83 j) ∧ g1.1 83 n = ii bs.length ∧ (∀ j, j < 240 * n → g1.1 82 j = g.1 82 j) ∧ ∀ j, j < bs.length → g1.1 82 (240 * n + j) = sb (bs.getD j 0)) ?_ ?_ bs.length 0 FU g (by omega) (by unfold FU; omega) ⟨rfl, fun _ _ => rfl, fun _ _ => rfl, fun j hj => by omega⟩
  · rintro m x ⟨r1, r2, r3, r4⟩
    have x7 : x.1 80 7 = ii n := by rw [r2 80 (by decide)]; exact e7
    have y7 : ∀ v, (wI x 83 n v).1 80 7 = ii n := fun v => by rw [wI_ne (by decide)]; exact x7
    have z7 : ∀ v, (wI (wI x 83 n v) 80 7 (ii ((n : Int) + 1))).1 80 7 = ii ((n : Int) + 1) := fun v => by rw [wI_self, upd_self]
    have es : (n : Int) + 1 - 1 = n := by omega
    simp (disch := omega) only [Option.bind_some, if_true, if_false, not_true_eq_false, not_false_eq_true, z0, ii_add, ii_sub, ii_mul, ifLeT, ifLeF, ifLtT, ifLtF, ifEqT, ifEqF, ifNeT, ifNeF, ifIn, nixZ, ii_i64, o0, o1, isInT, isInF, tn14, tn12, tn2, tn21, tn47, tn48, tn49, tn471, tn472, Int.reduceToNat, Int.toNat_natCast, Int.reduceAdd, Int.reduceSub, Int.reduceMul, Int.reduceNeg, Nat.reduceAdd, Nat.reduceSub, Nat.reduceMul, R_text_L71, R_text_L71_b, x7, y7, z7, es]
    exact ⟨_, rfl, r1, fun z h1 h2 h3 => by rw [wI_ne h1, wI_ne h3]; exact r2 z h2, fun j hj => by rw [wI_self, upd_ne hj, wI_ne (by decide)]; rw [r2 80 (by decide)], by rw [wI_self, upd_self]; rfl, fun j hj => by rw [wI_ne (by decide), wI_self, upd_ne hj]; rw [r2 83 (by decide)], by rw [wI_ne (by decide), wI_self, upd_self], fun j hj => by rw [wI_ne (by decide), wI_ne (by decide)]; exact r3 j hj, fun j hj => by rw [wI_ne (by decide), wI_ne (by decide)]; exact r4 j hj⟩
  · rintro m k x hk ⟨r1, r2, r3, r4⟩
    right
    have x7 : x.1 80 7 = ii n := by rw [r2 80 (by decide)]; exact e7
    have t2 : (240 * (n : Int) + k).toNat = 240 * n + k := by omega
    have hbk := ok.2 _ (getD_mem (l := bs) (i := k) 0 hk)
    obtain ⟨b, hb⟩ := Int.eq_ofNat_of_zero_le (show 0 ≤ bs.getD k 0 by omega)
    have x81 : (x.1 81 k).toInt8.toInt32 = sb (bs.getD k 0) := by rw [r2 81 (by decide), ht k hk, hb]; exact sb_id b (by omega)
    simp (disch := omega) only [Option.bind_some, if_true, if_false, not_true_eq_false, not_false_eq_true, z0, ii_add, ii_sub, ii_mul, ifLeT, ifLeF, ifLtT, ifLtF, ifEqT, ifEqF, ifNeT, ifNeF, ifIn, nixZ, ii_i64, o0, o1, isInT, isInF, tn14, tn12, tn2, tn21, tn47, tn48, tn49, tn471, tn472, Int.reduceToNat, Int.toNat_natCast, Int.reduceAdd, Int.reduceSub, Int.reduceMul, Int.reduceNeg, Nat.reduceAdd, Nat.reduceSub, Nat.reduceMul, R_text_L71, R_text_L71_b, x7, t2, x81]
    refine ⟨_, rfl, r1, fun z hz => by rw [wI_ne hz]; exact r2 z hz, fun j hj => by rw [wI_self, upd_ne (by omega)]; exact r3 j hj, fun j hj => ?_⟩
    rw [wI_self]
    by_cases e : j = k
    · rw [e, upd_self]
    · rw [upd_ne (by omega)]; exact r4 j (by omega)
theorem C_tkl (C : CRep S B h) (V : VS S) (hn : (sL S).length < 4) {A : List Int} (hA : LawC A (lw h 4) h) : ∃ h1, f_HF_takeLaw h = some (ii (sL S).length, h1) ∧ CRep ([], sH S, sD S, sA S, sI S, sE S, sL S ++ [A], sO S, sW S) B h1 ∧ KR h h1 := by
  obtain ⟨c1, ⟨o, ho, p1, p2, p3⟩, ⟨wr, w1, w2, w3⟩, c4, c5, c6, c7⟩ := C
  obtain ⟨n, hn'⟩ : ∃ n, n = (sL S).length := ⟨_, rfl⟩
  have e15 : h.1 0 14 = ii n := by rw [hn']; exact c6.1
  rw [← hn'] at hn ⊢
  obtain ⟨x, hx⟩ : ∃ x, x = wR (wR h 8 0 (h.2.2 10 n)) 10 n (h.2.2 8 0) := ⟨_, rfl⟩
  have x1 : x.1 = h.1 := by rw [hx]; rfl
  have x2 : ∀ a j, x.2.2 a j = if a = 10 then (if j = n then h.2.2 8 0 else h.2.2 10 j) else if a = 8 then (if j = 0 then h.2.2 10 n else h.2.2 8 j) else h.2.2 a j := fun a j => by
    rw [hx, wR_rd, wR_rd]
    by_cases ea : a = 10
    · rw [if_pos ea, if_pos ea, if_neg (show ¬ (10 : Nat) = 8 by decide)]
    · rw [if_neg ea, if_neg ea, wR_rd]
  have x21 : x.2.1 = h.2.1 := by rw [hx]; rfl
  obtain ⟨y, hy⟩ : ∃ y, y = wI (wI x 1 1 (ii 0)) 0 14 (ii (n + 1 : Nat)) := ⟨_, rfl⟩
  have y2 : y.2 = x.2 := by rw [hy]; rfl
  have yn : ∀ z, z ≠ 0 → z ≠ 1 → y.1 z = h.1 z := fun z h1 h2 => by rw [hy, wI_ne h1, wI_ne h2, x1]
  have y0 : ∀ j, j ≠ 14 → y.1 0 j = h.1 0 j := fun j hj => by rw [hy, wI_self, upd_ne hj, wI_ne (by decide), x1]
  have y15 : y.1 0 14 = ii (n + 1 : Nat) := by rw [hy, wI_self, upd_self]
  have y11 : y.1 1 1 = ii 0 := by rw [hy, wI_ne (by decide), wI_self, upd_self]
  have elw : ∀ i, i < 5 → lw y i = lw h (swp n i) := fun i hi => by
    unfold lw swp
    rw [y2]
    by_cases q1 : i = n
    · rw [if_pos q1, if_pos (by omega), x2, if_pos rfl, if_pos q1]; rfl
    · rw [if_neg q1]
      by_cases q2 : i = 4
      · rw [if_pos q2, if_neg (by omega), if_pos hn, x2, if_neg (by decide), if_pos rfl, if_pos rfl]
      · rw [if_neg q2, if_pos (by omega), if_pos (by omega), x2, if_pos rfl, if_neg q1]
  have eww : ∀ i, ww y i = ww h i := fun i => by
    unfold ww
    rw [y2, x2 11, x2 9, if_neg (show ¬ (11 : Nat) = 10 by decide), if_neg (show ¬ (11 : Nat) = 8 by decide), if_neg (show ¬ (9 : Nat) = 10 by decide), if_neg (show ¬ (9 : Nat) = 8 by decide)]
  have m13 : mvO y 13 = mvO h 13 := mv_eq (fun i hi => yn _ (by omega) (by omega))
  have m19 : mvO y 19 = mvO h 19 := mv_eq (fun i hi => yn _ (by omega) (by omega))
  refine ⟨y, ?_, ⟨⟨y11, fun j hj => absurd hj (by simp [sB])⟩, ⟨o, ho, by rw [y2, x2, if_neg (by decide), if_neg (by decide)]; exact p1, by rw [y2, x2, if_neg (by decide), if_neg (by decide)]; exact p2, p3.ag (fun i hi => yn _ (by omega) (by omega))⟩, ⟨wr, w1, by rw [m13]; exact w2, w3.eq (yn 31 (by decide) (by decide)) (yn 32 (by decide) (by decide)) m13⟩, c4.eq (y0 17 (by decide)) m19 (Nat.le_refl _), c5.eq (by rw [yn 33 (by decide) (by decide)]) (yn 34 (by decide) (by decide)) (yn 35 (by decide) (by decide)) (yn 36 (by decide) (by decide)), ?_, ?_⟩, ?_⟩
  · unfold f_HF_takeLaw f_LR_exchange
    have z1 : (wI (wR (wR h 8 0 (h.2.2 10 n)) 10 n (h.2.2 8 0)) 1 1 (ii 0)).1 0 14 = ii n := by rw [wI_ne (by decide)]; exact e15
    have z2 : (wI (wI (wR (wR h 8 0 (h.2.2 10 n)) 10 n (h.2.2 8 0)) 1 1 (ii 0)) 0 14 (ii ((n : Int) + 1))).1 0 14 = ii ((n : Int) + 1) := by rw [wI_self, upd_self]
    have es : (n : Int) + 1 - 1 = n := by omega
    simp (disch := omega) only [Option.bind_some, if_true, if_false, not_true_eq_false, not_false_eq_true, z0, ii_add, ii_sub, ii_mul, ifLeT, ifLeF, ifLtT, ifLtF, ifEqT, ifEqF, ifNeT, ifNeF, ifIn, nixZ, ii_i64, o0, o1, isInT, isInF, tn14, tn12, tn2, tn21, tn47, tn48, tn49, tn471, tn472, Int.reduceToNat, Int.toNat_natCast, Int.reduceAdd, Int.reduceSub, Int.reduceMul, Int.reduceNeg, Nat.reduceAdd, Nat.reduceSub, Nat.reduceMul, e15, z1, z2, es]
    rw [hy, hx]; rfl
  · obtain ⟨a1, a2, a3, a4, a5⟩ := c6
    have hge : ∀ i, i < 5 → 55 ≤ lw h i := fun i hi => by have hm := a3 i hi; simp only [List.mem_cons, List.not_mem_nil, or_false] at hm; omega
    refine ⟨by rw [y15, hn']; show _ = ii ((sL S ++ [A]).length : Int); rw [List.length_append]; rfl, by rw [y0 16 (by decide)]; exact a2, fun i hi => by rw [elw i hi]; exact a3 _ (swp_lt hn hi), fun i j hi hj e => ?_, fun i hi => ?_⟩
    · rw [elw i hi, elw j hj] at e
      exact swp_inj hn hi hj (a4 _ _ (swp_lt hn hi) (swp_lt hn hj) e)
    · have hi' : i < n + 1 := by rw [hn']; have : i < (sL S ++ [A]).length := hi; rw [List.length_append] at this; exact this
      rw [elw i (by omega)]
      show LawC ((sL S ++ [A]).getD i []) _ _
      have hg := hge (swp n i) (swp_lt hn (by omega))
      unfold LawC
      rw [yn _ (by omega) (by omega), yn _ (by omega) (by omega)]
      by_cases q : i = n
      · have : swp n i = 4 := by unfold swp; rw [if_pos q]
        rw [this, q, hn', gd_last]
        exact hA
      · have : swp n i = i := by unfold swp; rw [if_neg q, if_neg (by omega)]
        rw [this, gd_app (by omega)]
        exact a5 i (by omega)
  · obtain ⟨a1, a3, a4, a5⟩ := c7
    refine ⟨by rw [y0 15 (by decide)]; exact a1, fun i hi => by rw [eww]; exact a3 i hi, fun i j hi hj => by rw [eww, eww]; exact a4 i j hi hj, fun i hi => ?_⟩
    rw [eww]
    have hla : (sW S).length ≤ 4 := V.2.2.2.2.2.2.2.2.1
    have hi' : i < (sW S).length := hi
    have hm := a3 i (by omega)
    have hge : 70 ≤ ww h i := by simp only [List.mem_cons, List.not_mem_nil, or_false] at hm; omega
    unfold WalC
    rw [yn _ (by omega) (by omega), yn _ (by omega) (by omega)]
    exact a5 i hi
  · refine ⟨fun a ha => yn a (by omega) (by omega), fun a ha => ?_, by rw [y2, x21]⟩
    funext j
    rw [y2, x2, if_neg (by omega), if_neg (by omega)]
theorem k_text1 (V : VS S) (C : CRep S B h) (R : RRep S g) : Call S B h g (f_HF_text (ii 1) h) (f_R_text (ii 1) g) := by
  have X := lx_of C V
  have c := L_law X
  have h4 := V.2.2.2.2.2.2.1.1
  have Kt := RS.t0 g (v := ii 0)
  have R0 : RRep S (wI g 80 0 (ii 0)) := R.keep V Kt.1
  have r := R_lfault R0.1 V.1 R0.2.2.2.2.2.2.2.2
  have K : ∀ q D, CKs h (LH h (lw h 4) q D) ∧ KR h (LH h (lw h 4) q D) := fun q D => LH.ks X.2.2.2 rfl
  have e0 : f_HF_text (ii 1) h = (f_LR_faultOf h).bind fun q5 => if q5.1 = (ii (-1)) then (f_HF_takeLaw q5.2).bind fun q6 => some (q6.1, q6.2) else some ((ii (-1)), q5.2) := by
    unfold f_HF_text
    rw [if_neg (by decide), if_pos rfl]
  have e7 := R0.2.2.2.2.2.2.1.1
  have er : f_R_text (ii 1) g = if ((wI g 80 0 (ii 0)).1 80 7) = (ii 4) then some ((ii (-1)), (wI g 80 0 (ii 0))) else (f_R_fault (ii 1) (wI g 80 0 (ii 0))).bind fun q => if q.1 = (ii (-1)) then R_text_L71 FU (q.2.1 80 6) (ii 0) (wI q.2 80 6 (ii 0)) else some ((ii (-1)), q.2) := by
    unfold f_R_text
    generalize FU = F
    rw [if_neg (by decide), if_pos rfl]
    simp only [if_neg (show ¬ ii 1 = ii 2 by decide), if_true]
  rw [e0, er]
  generalize wI g 80 0 (ii 0) = g0 at *
  by_cases q4 : (sL S).length = 4
  · rw [if_pos (show g0.1 80 7 = ii 4 by rw [e7, q4]; rfl)]
    generalize hz : pLaw (sB S) = z at *
    rcases z with e | A
    · obtain ⟨D, z1⟩ := c
      have so' : e ≤ (sB S).length := r.1
      have hb := V.1.1
      have ec : ((f_LR_faultOf h).bind fun q5 => if q5.1 = (ii (-1)) then (f_HF_takeLaw q5.2).bind fun q6 => some (q6.1, q6.2) else some ((ii (-1)), q5.2)) = some (ii (-1), LH h (lw h 4) e D) := by
        rw [bind_eq z1]
        simp only
        rw [if_neg (by rw [ii_eq (by omega) (by omega) (by omega) (by omega)]; omega)]
      exact call_ks V C R ec rfl (K _ _).1 (K _ _).2 Kt
    · obtain ⟨_, q, z1⟩ := c
      have C1 := C.ks V (K q A).1
      have e15 := C1.2.2.2.2.2.1.1
      have et : f_HF_takeLaw (LH h (lw h 4) q A) = some (ii (-1), LH h (lw h 4) q A) := by
        unfold f_HF_takeLaw
        have e15' : (LH h (lw h 4) q A).1 0 14 = ii 4 := by rw [e15, q4]; rfl
        simp (disch := omega) only [Option.bind_some, if_true, if_false, not_true_eq_false, not_false_eq_true, z0, ii_add, ii_sub, ii_mul, ifLeT, ifLeF, ifLtT, ifLtF, ifEqT, ifEqF, ifNeT, ifNeF, ifIn, nixZ, ii_i64, o0, o1, isInT, isInF, tn14, tn12, tn2, tn21, tn47, tn48, tn49, tn471, tn472, Int.reduceToNat, Int.toNat_natCast, Int.reduceAdd, Int.reduceSub, Int.reduceMul, Int.reduceNeg, Nat.reduceAdd, Nat.reduceSub, Nat.reduceMul, e15']
      have ec : ((f_LR_faultOf h).bind fun q5 => if q5.1 = (ii (-1)) then (f_HF_takeLaw q5.2).bind fun q6 => some (q6.1, q6.2) else some ((ii (-1)), q5.2)) = some (ii (-1), LH h (lw h 4) q A) := by
        rw [bind_eq z1]
        simp only
        rw [if_pos trivial, bind_eq et]
      exact call_ks V C R ec rfl (K _ _).1 (K _ _).2 Kt
  · rw [if_neg (show ¬ g0.1 80 7 = ii 4 by rw [e7, ii_eq (by omega) (by omega) (by omega) (by omega)]; omega)]
    generalize hz : pLaw (sB S) = z at *
    rcases z with e | A
    · obtain ⟨D, z1⟩ := c
      obtain ⟨so', g1, y1, y2⟩ := r
      have hb := V.1.1
      have en : ¬ ii (e : Int) = ii (-1) := by rw [ii_eq (by omega) (by omega) (by omega) (by omega)]; omega
      rw [bind_eq z1, bind_eq y1]
      simp only
      rw [if_neg en, if_neg en]
      exact call_ks V C R rfl rfl (K _ _).1 (K _ _).2 (Kt.tr y2)
    · obtain ⟨hA, q, z1⟩ := c
      obtain ⟨g1, y1, y2⟩ := r
      have C1 := C.ks V (K q A).1
      have elw : lw (LH h (lw h 4) q A) 4 = lw h 4 := rfl
      have hge : 55 ≤ lw h 4 := by have hm := X.2.2.2; simp only [List.mem_cons, List.not_mem_nil, or_false] at hm; omega
      obtain ⟨h2, t1, C2, K2⟩ := C_tkl C1 V (by omega) (A := sB S) (by
        rw [elw]
        exact ⟨A, hz, hA, by rw [LH_o (by omega), upd_self], fun j hj => by rw [LH_o1 (by omega)]; simp only [hj, if_true]⟩)
      have R1 := R0.keep V y2.1
      obtain ⟨s1, s2, s3, s4, s5, s6, s7, s8, s9⟩ := R1
      obtain ⟨n, hn⟩ : ∃ n, n = (sL S).length := ⟨_, rfl⟩
      obtain ⟨g2, u1, u2, u3, u4, u5, u6, u7, u8, u9⟩ := R_t71 (g := wI g1 80 6 (ii 0)) (n := n) (by omega) V.1 (by rw [wI_self, upd_ne (by decide), hn]; exact s7.1) (fun j hj => by rw [wI_ne (by decide)]; exact s1.2 j hj)
      rw [bind_eq z1, bind_eq y1]
      simp only
      rw [if_pos trivial, if_pos trivial, bind_eq t1, s1.1, u1, ← hn]
      have v80 : ∀ j, j ≠ 7 → j ≠ 6 → g2.1 80 j = g1.1 80 j := fun j h1 h2 => by rw [u4 j h1, wI_self, upd_ne h2]
      have vx : ∀ x, x ≠ 80 → x ≠ 82 → x ≠ 83 → g2.1 x = g1.1 x := fun x h1 h2 h3 => by rw [u3 x h1 h2 h3, wI_ne h1]
      refine ⟨_, h2, g2, ([], sH S, sD S, sA S, sI S, sE S, sL S ++ [sB S], sO S, sW S), rfl, rfl, ?_, C2.mono (by omega), ?_, (K _ _).2.tr K2, ?_⟩
      · obtain ⟨v1, v2, v3, v4, v5, v6, v7, v8, v9⟩ := V
        refine ⟨⟨by simp [sB], fun b hb => absurd hb (by simp [sB])⟩, v2, v3, v4, v5, v6, ⟨?_, fun x hx => ?_⟩, ⟨v8.1, ?_⟩, v9⟩
        · show (sL S ++ [sB S]).length ≤ 4
          rw [List.length_append]; simp; omega
        · have hx' : x ∈ sL S ++ [sB S] := hx
          rcases List.mem_append.mp hx' with z | z
          · exact v7.2 x z
          · rw [List.mem_singleton.mp z]; exact v1
        · show sO S < ((sL S ++ [sB S]).length : Int)
          have := v8.2
          rw [List.length_append]; simp; omega
      · refine ⟨⟨?_, fun j hj => absurd hj (by simp [sB])⟩, ?_, fun j hj => by rw [vx 97 (by decide) (by decide) (by decide)]; exact s3 j hj, ⟨by rw [v80 45 (by decide) (by decide)]; exact s4.1, fun i hi j hj => by rw [vx 99 (by decide) (by decide) (by decide)]; exact s4.2 i hi j hj⟩, s5.eq (v80 55 (by decide) (by decide)) (vx 104 (by decide) (by decide) (by decide)), s6.eq (v80 52 (by decide) (by decide)) (vx 100 (by decide) (by decide) (by decide)) (vx 101 (by decide) (by decide) (by decide)) (vx 102 (by decide) (by decide) (by decide)), ⟨?_, by rw [v80 43 (by decide) (by decide)]; exact s7.2.1, fun i hi => ?_⟩, ⟨by rw [v80 39 (by decide) (by decide)]; exact s8.1, fun i hi => ⟨by rw [vx 96 (by decide) (by decide) (by decide)]; exact (s8.2 i hi).1, fun j hj => by rw [vx 95 (by decide) (by decide) (by decide)]; exact (s8.2 i hi).2 j hj⟩⟩, fun j hj => by rw [vx 84 (by decide) (by decide) (by decide)]; exact s9 j hj⟩
        · rw [u4 6 (by decide), wI_self, upd_self]; rfl
        · obtain ⟨a1, a2, a3, a4, a5, a6, a7, a8, a9, a10⟩ := s2
          exact ⟨fun j hj => by rw [vx 85 (by decide) (by decide) (by decide)]; exact a1 j hj, by rw [v80 30 (by decide) (by decide)]; exact a2, by rw [v80 31 (by decide) (by decide)]; exact a3, by rw [v80 32 (by decide) (by decide)]; exact a4, by rw [v80 33 (by decide) (by decide)]; exact a5, by rw [v80 34 (by decide) (by decide)]; exact a6, fun j hj => by rw [vx 87 (by decide) (by decide) (by decide)]; exact a7 j hj, fun j hj => by rw [vx 89 (by decide) (by decide) (by decide)]; exact a8 j hj, fun j hj => by rw [vx 91 (by decide) (by decide) (by decide)]; exact a9 j hj, fun j hj => by rw [vx 93 (by decide) (by decide) (by decide)]; exact a10 j hj⟩
        · show g2.1 80 7 = ii ((sL S ++ [sB S]).length : Int)
          rw [u5, List.length_append, ← hn]; rfl
        · have hi' : i < n + 1 := by rw [hn]; have : i < (sL S ++ [sB S]).length := hi; rw [List.length_append] at this; exact this
          show g2.1 83 i = ii ((sL S ++ [sB S]).getD i []).length ∧ ∀ j, j < ((sL S ++ [sB S]).getD i []).length → g2.1 82 (240 * i + j) = sb (((sL S ++ [sB S]).getD i []).getD j 0)
          by_cases q : i = n
          · have eg : (sL S ++ [sB S]).getD i [] = sB S := by rw [q, hn, gd_last]
            rw [eg, q]
            exact ⟨u7, u9⟩
          · have eg : (sL S ++ [sB S]).getD i [] = (sL S).getD i [] := gd_app (by omega)
            have s7i := s7.2.2 i (by omega)
            have hle := (V.2.2.2.2.2.2.1.2 _ (getD_mem (l := sL S) (i := i) [] (by omega))).1
            rw [eg]
            refine ⟨by rw [u6 i q, wI_ne (by decide)]; exact s7i.1, fun j hj => ?_⟩
            rw [u8 _ (by omega), wI_ne (by decide)]
            exact s7i.2 j hj
      · refine (Kt.2.tr y2.2).tr ⟨fun x hx => vx x (by omega) (by omega) (by omega), fun x hx => by rw [u2]; rfl⟩
end TX1
