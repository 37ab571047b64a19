/-! the reference reads walks: all stretches -/
section WS
variable {bs : List Int} {g g0 g1 : AH} {T b0 : Nat}
/-- the walks read so far -/
def WSo (ac : List (Nat × Nat)) (g : AH) : Prop := ∀ j, j < ac.length → g.1 95 (512 + 2 * j) = ii (ac.getD j (0, 0)).1 ∧ g.1 95 (512 + 2 * j + 1) = ii (ac.getD j (0, 0)).2
def W9 (g1 g2 : AH) : Prop := g2.2 = g1.2 ∧ (∀ x, x ≠ 95 → x ≠ 96 → g2.1 x = g1.1 x) ∧ (∀ j, j < 512 → g2.1 95 j = g1.1 95 j) ∧ ∀ j, j < 4 → g2.1 96 j = g1.1 96 j
theorem W9.rf (g1 : AH) : W9 g1 g1 := ⟨rfl, fun _ _ _ => rfl, fun _ _ => rfl, fun _ _ => rfl⟩
theorem W9.tr {g1 g2 g3 : AH} (x : W9 g1 g2) (y : W9 g2 g3) : W9 g1 g3 := ⟨y.1.trans x.1, fun z h1 h2 => (y.2.1 z h1 h2).trans (x.2.1 z h1 h2), fun j hj => (y.2.2.1 j hj).trans (x.2.2.1 j hj), fun j hj => (y.2.2.2 j hj).trans (x.2.2.2 j hj)⟩
theorem R_w88 {v1 v2 : Int32} {c : Int} {m l p : Nat} {ft dp : Int} (hm : m ≤ 8) (hl : l ≤ 56) : ∃ g2, R_readWalks_L88 FU v1 v2 (ii c) (ii (2 * (256 + (l : Int)))) (ii m) (ii 0) (GH g1 p ft dp) = some (GH g2 p ft dp) ∧ g2.2 = g1.2 ∧ (∀ x, x ≠ 95 → g2.1 x = g1.1 x) ∧ (∀ j, j < 512 + 2 * l → g2.1 95 j = g1.1 95 j) ∧ (∀ j, j < m → g2.1 95 (512 + 2 * l + 2 * j) = ii (c - 48)) ∧ ∀ j, g2.1 95 (512 + 2 * l + 2 * j + 1) = g1.1 95 (512 + 2 * l + 2 * j + 1) := by
  refine lup (fun n k (x : AH) => R_readWalks_L88 n v1 v2 (ii c) (ii (2 * (256 + (l : Int)))) (ii m) (ii k) (GH x p ft dp)) m (fun k x => x.2 = g1.2 ∧ (∀ z, z ≠ 95 → x.1 z = g1.1 z) ∧ (∀ j, j < 512 + 2 * l → x.1 95 j = g1.1 95 j) ∧ (∀ j, j < k → x.1 95 (512 + 2 * l + 2 * j) = ii (c - 48)) ∧ ∀ j, x.1 95 (512 + 2 * l + 2 * j + 1) = g1.1 95 (512 + 2 * l + 2 * j + 1)) (fun y => ∃ g2, y = some (GH g2 p ft dp) ∧ g2.2 = g1.2 ∧ (∀ x, x ≠ 95 → g2.1 x = g1.1 x) ∧ (∀ j, j < 512 + 2 * l → g2.1 95 j = g1.1 95 j) ∧ (∀ j, j < m → g2.1 95 (512 + 2 * l + 2 * j) = ii (c - 48)) ∧ ∀ j, g2.1 95 (512 + 2 * l + 2 * j + 1) = g1.1 95 (512 + 2 * l + 2 * j + 1)) ?_ ?_ m 0 FU g1 (by omega) (by unfold FU; omega) ⟨rfl, fun _ _ => rfl, fun _ _ => rfl, fun j hj => by omega, fun _ => rfl⟩
  · rintro n x ⟨r1, r2, r3, r4, r5⟩
    refine ⟨x, ?_, r1, r2, r3, r4, r5⟩
    simp (disch := omega) only [Option.bind_some, if_true, if_false, not_true_eq_false, not_false_eq_true, z0, ii_add, ii_sub, ii_mul, ifLeT, ifLeF, ifLtT, ifLtF, ifEqT, ifEqF, ifNeT, ifNeF, ifIn, nixZ, ii_i64, o0, o1, isInT, isInF, tn14, tn12, tn2, tn21, tn47, tn48, tn49, tn471, tn472, Int.reduceToNat, Int.toNat_natCast, Int.reduceAdd, Int.reduceSub, Int.reduceMul, Int.reduceNeg, Nat.reduceAdd, Nat.reduceSub, Nat.reduceMul, R_readWalks_L88, R_readWalks_L88_b]
  · rintro n k x hk ⟨r1, r2, r3, r4, r5⟩
    right
    have t1 : (2 * (256 + (l : Int)) + 2 * (k : Int)).toNat = 512 + 2 * l + 2 * k := by omega
    refine ⟨wI x 95 (512 + 2 * l + 2 * k) (ii (c - 48)), ?_, r1, fun z hz => by rw [wI_ne hz]; exact r2 z hz, fun j hj => by rw [wI_self, upd_ne (by omega)]; exact r3 j hj, fun j hj => ?_, fun j => by rw [wI_self, upd_ne (by omega)]; exact r5 j⟩
    · show R_readWalks_L88_b _ _ _ _ _ _ _ _ = _
      unfold R_readWalks_L88_b
      rw [if_neg (by rw [ii_le (by omega) (by omega) (by omega) (by omega)]; omega), ii_mul, ii_add, ii_sub, if_pos (by rw [ii_inb (by omega) (by omega)]; simp; omega), ii_nat (by omega) (by omega), t1, GH_w (by decide), ii_sc]
    · rw [wI_self]
      by_cases e : j = k
      · rw [e, upd_self]
      · rw [upd_ne (by omega)]; exact r4 j (by omega)
def GWo (g1 : AH) (dp : Int) (x : Option AH) (r : Nat ⊕ List (Nat × Nat)) : Prop := match r with
  | .inl e => ∃ g2 p, x = some (GH g2 p e dp) ∧ W9 g1 g2
  | .inr A => ∃ g2 p, x = some (GH g2 p (-1) dp) ∧ W9 g1 g2 ∧ WSo A g2 ∧ g2.1 96 4 = ii A.length
theorem GWo.tr {g2 : AH} {dp : Int} {x : Option AH} {r : Nat ⊕ List (Nat × Nat)} (w : W9 g1 g2) (z : GWo g2 dp x r) : GWo g1 dp x r := by
  cases r with
  | inl e => obtain ⟨g3, p, a, b⟩ := z; exact ⟨g3, p, a, w.tr b⟩
  | inr A => obtain ⟨g3, p, a, b, c⟩ := z; exact ⟨g3, p, a, w.tr b, c⟩
theorem sp6_59 : spM 6 59 = -1 ∧ spM 6 (-1) = -1 := by decide +kernel
theorem R_rways {oa n1 b a : Nat} (ho : oa ≠ 80) (hT : oa ≠ T) (hn1 : n1 ≤ 1000) (ha : a = 1 ∨ a = 2) (hb : b + 7 * a < n1) (ok : okB bs) {dp : Int} {q : Nat} (hq : q ≤ bs.length) (X : GX bs T b0 g1) : (match wyF bs 8 q [] with
    | .inl e => ∃ i' g2, f_R_readWays n1 oa (ii b) (ii a) (GH g1 q (-1) dp) = some (i', GH g2 e e dp) ∧ WFr oa b a g1 g2
    | .inr (p, ws') => if spM 6 (ch bs (sk bs p)) = -1 then ∃ g2, f_R_readWays n1 oa (ii b) (ii a) (GH g1 q (-1) dp) = some (ii ws'.length, GH g2 (sk bs p) (-1) dp) ∧ WFr oa b a g1 g2 ∧ (∀ j, j < ws'.length → g2.1 oa (b + a * j) = ii (ws'.getD j 0)) ∧ ([] : List Nat).length ≤ ws'.length ∧ ∀ j, b + a * ws'.length ≤ j → g2.1 oa j = g1.1 oa j else ∃ i' g2, f_R_readWays n1 oa (ii b) (ii a) (GH g1 q (-1) dp) = some (i', GH g2 (sk bs p) (sk bs p : Nat) dp) ∧ WFr oa b a g1 g2) := by
  have hFU := fu_1000
  have e1 := G_lk X (ft := -1) (dp := dp) hq
  have e2 := R_spot (o := 6) (by omega) (by omega) (c := ch bs (sk bs q)) (g := GH g1 (sk bs q) (-1) dp)
  have key := R_wys (b := b) ho hT hn1 ha hb ok (dp := dp) 8 q [] FU g1 hq (by simp) (by omega) X (fun j hj => absurd hj (by simp))
  have est : f_R_readWays n1 oa (ii b) (ii a) (GH g1 q (-1) dp) = R_readWays_L14 FU n1 oa (ii b) (ii a) (ii (([] : List Nat).length : Int)) (ii (spM 6 (ch bs (sk bs q)))) (GH g1 (sk bs q) (-1) dp) := by
    have e0 : (([] : List Nat).length : Int) = 0 := rfl
    unfold f_R_readWays
    generalize FU = F at *
    rw [bind_eq e1, e0, bind_eq e2]
  rw [est]
  exact key
theorem R_rw1 (hT : T = 81) (ok : okB bs) {dp : Int} {k q i n : Nat} {ac : List (Nat × Nat)} (hik : i + (k + 1) = 8) (hq : q ≤ bs.length) (hac : ac.length ≤ 8 * i) (hn : 0 < n) (X : GX bs T b0 g1) (hws : WSo ac g1) (hr : ∀ p A g', k ≠ 0 → p ≤ bs.length → A.length ≤ 8 * (i + 1) → GX bs T b0 g' → WSo A g' → GWo g' dp (R_readWalks_L19 n (ii (i + 1 : Nat)) (ii A.length) (ii 1) (GH g' p (-1) dp)) (stF bs k p A)) : GWo g1 dp (R_readWalks_L19 (n + 1) (ii i) (ii ac.length) (ii 1) (GH g1 q (-1) dp)) (stF bs (k + 1) q ac) := by
  have hk := sk_lo hq
  have hsh := X.2.2.2.1
  have e1 := G_lk X (ft := -1) (dp := dp) hq
  show GWo g1 dp (R_readWalks_L19_b _ _ _ _ _) _
  unfold R_readWalks_L19_b stF
  rw [if_neg (show ¬ ii 1 = 0 by decide), bind_eq e1]
  simp only
  by_cases q1 : 48 ≤ ch bs (sk bs q) ∧ ch bs (sk bs q) ≤ 57
  · rw [if_pos q1, bind_eq (G_dgT X q1.1 q1.2).1, if_neg (show ¬ ii 1 = 0 by decide), GH_a, ii_add ((sk bs q : Nat) : Int), GH_inc]
    have hlt : sk bs q < bs.length := ch_lt (by omega)
    have eb : ii 2 * (ii 256 + ii ac.length) + ii 1 = ii ((2 * (256 + ac.length) + 1 : Nat) : Int) := by rw [ii_add, ii_mul, ii_add]; rfl
    have eb2 : ii 2 * (ii 256 + ii ac.length) = ii (2 * (256 + (ac.length : Int))) := by rw [ii_add, ii_mul]
    have rw1 := R_rways (oa := 95) (n1 := 640) (b := 2 * (256 + ac.length) + 1) (a := 2) (by decide) (by omega) (by omega) (Or.inr rfl) (by omega) ok (dp := dp) (q := sk bs q + 1) (by omega) X
    have ow := wyF_ok (ok := ok) 8 (sk bs q + 1) [] (by omega) (by simp) (by simp)
    rw [eb, eb2]
    have e2' : ii (2 : Int) = ii ((2 : Nat) : Int) := rfl
    rw [← e2'] at rw1
    generalize hw : wyF bs 8 (sk bs q + 1) [] = r at *
    rcases r with e | ⟨p, ws⟩
    · obtain ⟨i', g2, z1, z2⟩ := rw1
      have oe : e ≤ bs.length := ow
      have hl := ok.1
      rw [bind_eq z1]
      simp only
      rw [if_neg (show ¬ (GH g2 e e dp).1 80 11 = ii (-1) by rw [GH_f, ii_eq (by omega) (by omega) (by omega) (by omega)]; omega)]
      exact ⟨g2, e, rfl, z2.1, fun x h1 h2 => z2.2.1 x h1, fun j hj => z2.2.2 j (by omega), fun j hj => by rw [z2.2.1 96 (by decide)]⟩
    · simp only at rw1 ow ⊢
      have hp := sk_lo ow.1
      have hl := ok.1
      by_cases q2 : spM 6 (ch bs (sk bs p)) = -1
      · rw [if_pos q2] at rw1
        obtain ⟨g2, z1, z2, z3, _, _⟩ := rw1
        rw [bind_eq z1]
        simp only
        rw [if_pos (show (GH g2 (sk bs p) (-1) dp).1 80 11 = ii (-1) from GH_f)]
        obtain ⟨g3, y1, y2, y3, y4, y5, y6⟩ := R_w88 (g1 := g2) (v1 := ii i) (v2 := ii ac.length) (c := ch bs (sk bs q)) (m := ws.length) (l := ac.length) (p := sk bs p) (ft := -1) (dp := dp) ow.2.1 (by omega)
        have W13 : W9 g1 g3 := ⟨y2.trans z2.1, fun x h1 h2 => (y3 x h1).trans (z2.2.1 x h1), fun j hj => (y4 j (by omega)).trans (z2.2.2 j (by omega)), fun j hj => by rw [y3 96 (by decide), z2.2.1 96 (by decide)]⟩
        have X3 : GX bs T b0 g3 := X.eq W13.1 (fun j _ => by rw [W13.2.1 80 (by decide) (by decide)]) (W13.2.1 T (by omega) (by omega))
        obtain ⟨f, hf⟩ := Int.eq_ofNat_of_zero_le (show 0 ≤ ch bs (sk bs q) - 48 by omega)
        have hlen : (ac ++ pr2 (ch bs (sk bs q) - 48).toNat ws).length = ac.length + ws.length := by rw [List.length_append, pr2_len]
        have WS3 : WSo (ac ++ pr2 (ch bs (sk bs q) - 48).toNat ws) g3 := by
          intro j hj
          rw [hlen] at hj
          by_cases c : j < ac.length
          · have := hws j c
            rw [y4 _ (by omega), y4 _ (by omega), z2.2.2 _ (by omega), z2.2.2 _ (by omega), List.getD_eq_getElem?_getD, List.getElem?_append_left c, ← List.getD_eq_getElem?_getD]
            exact this
          · obtain ⟨u, hu⟩ : ∃ u, u = j - ac.length := ⟨_, rfl⟩
            have ej : j = ac.length + u := by omega
            have eg : (ac ++ pr2 (ch bs (sk bs q) - 48).toNat ws).getD j (0, 0) = (f, ws.getD u 0) := by
              rw [List.getD_eq_getElem?_getD, List.getElem?_append_right (by omega), ← hu]
              unfold pr2
              rw [List.getElem?_map, List.getD_eq_getElem?_getD, List.getElem?_eq_getElem (by omega), hf, Int.toNat_natCast]
              rfl
            rw [eg]
            have a1 := y5 u (by omega)
            have a2 := z3 u (by omega)
            rw [hf] at a1
            refine ⟨by rw [ej, show 512 + 2 * (ac.length + u) = 512 + 2 * ac.length + 2 * u by omega]; exact a1, ?_⟩
            rw [ej, show 512 + 2 * (ac.length + u) + 1 = 512 + 2 * ac.length + 2 * u + 1 by omega, y6, show 512 + 2 * ac.length + 2 * u + 1 = 2 * (256 + ac.length) + 1 + 2 * u by omega]
            exact a2
        have hch := ch_lo ok (sk bs p)
        have e3 := G_lk X3 (ft := -1) (dp := dp) hp.2
        rw [sk_sk] at e3
        have el : ii ac.length + ii ws.length = ii (ac ++ pr2 (ch bs (sk bs q) - 48).toNat ws).length := by rw [hlen, ii_add]; congr 1
        rw [bind_eq y1, bind_eq e3]
        simp only
        refine GWo.tr W13 ?_
        generalize ac ++ pr2 (ch bs (sk bs q) - 48).toNat ws = A at *
        rw [el, ii_sc]
        by_cases c59 : ch bs (sk bs p) = 59
        · have hlt2 : sk bs p < bs.length := ch_lt (by omega)
          rw [c59, if_neg (show ¬ (59 : Int) = -1 by decide), if_pos rfl, if_neg (show ¬ ii 1 = 0 by decide)]
          by_cases k0 : k = 0
          · rw [if_neg (show ¬ ((59 : Int) = 59 ∧ k ≠ 0) from fun z => z.2 k0), if_pos (show ii ((i + 1 : Nat) : Int) = ii 8 by rw [show i + 1 = 8 by omega]; rfl), bind_eq G_fl]
            exact ⟨g3, sk bs p, rfl, W9.rf _⟩
          · rw [if_pos (show (59 : Int) = 59 ∧ k ≠ 0 from ⟨rfl, k0⟩), if_neg (show ¬ ii ((i + 1 : Nat) : Int) = ii 8 by rw [ii_eq (by omega) (by omega) (by omega) (by omega)]; omega), if_neg (show ¬ ii 1 = 0 by decide), Option.bind_some, GH_a, ii_add ((sk bs p : Nat) : Int), GH_inc]
            exact hr (sk bs p + 1) A g3 k0 (by omega) (by omega) X3 WS3
        · rw [if_neg (show ¬ (ch bs (sk bs p) = 59 ∧ k ≠ 0) from fun z => c59 z.1), if_neg (show ¬ ii (ch bs (sk bs p)) = ii 59 by rw [ii_eq (by omega) (by omega) (by omega) (by omega)]; exact c59), if_pos i00, if_pos i00, Option.bind_some]
          obtain ⟨n', rfl⟩ : ∃ n', n = n' + 1 := ⟨n - 1, by omega⟩
          show GWo g3 dp (R_readWalks_L19_b _ _ _ _ _) _
          unfold R_readWalks_L19_b
          have X4 : GX bs T b0 (wI g3 96 4 (ii A.length)) := X3.w (by decide) (by omega)
          have e4 := G_lk X4 (ft := -1) (dp := dp) hp.2
          rw [sk_sk] at e4
          have W4 : W9 g3 (wI g3 96 4 (ii A.length)) := ⟨rfl, fun x _ h2 => wI_ne h2, fun j _ => by rw [wI_ne (by decide)], fun j hj => by rw [wI_self, upd_ne (by omega)]⟩
          rw [if_pos i00, if_pos (show inb (ii 4) 5 = true by decide), show (ii 4).toNatClampNeg = 4 by decide, GH_w (by decide), bind_eq e4]
          simp only
          by_cases cm : ch bs (sk bs p) = -1
          · rw [if_pos cm, if_pos (by rw [cm])]
            exact ⟨_, _, rfl, W4, fun j hj => by rw [wI_ne (by decide)]; exact WS3 j hj, by rw [wI_self, upd_self]⟩
          · rw [if_neg cm, if_neg (by rw [ii_eq (by omega) (by omega) (by omega) (by omega)]; exact cm), bind_eq G_fl]
            exact ⟨_, _, rfl, W4⟩
      · rw [if_neg q2] at rw1
        obtain ⟨i', g2, z1, z2⟩ := rw1
        have c1 : ch bs (sk bs p) ≠ -1 := fun z => q2 (by rw [z]; exact sp6_59.2)
        have c2 : ch bs (sk bs p) ≠ 59 := fun z => q2 (by rw [z]; exact sp6_59.1)
        rw [bind_eq z1, if_neg c1, if_neg (show ¬ (ch bs (sk bs p) = 59 ∧ k ≠ 0) from fun z => c2 z.1)]
        simp only
        rw [if_neg (show ¬ (GH g2 (sk bs p) (sk bs p : Nat) dp).1 80 11 = ii (-1) by rw [GH_f, ii_eq (by omega) (by omega) (by omega) (by omega)]; omega)]
        exact ⟨g2, _, rfl, z2.1, fun x h1 h2 => z2.2.1 x h1, fun j hj => z2.2.2 j (by omega), fun j hj => by rw [z2.2.1 96 (by decide)]⟩
  · rw [if_neg q1, bind_eq (G_dgF X hk.2 q1), if_pos i00, bind_eq G_fl]
    exact ⟨g1, sk bs q, rfl, W9.rf _⟩
theorem R_rw (hT : T = 81) (ok : okB bs) {dp : Int} : ∀ (k q : Nat) (ac : List (Nat × Nat)) (i n : Nat) (g1 : AH), i + (k + 1) = 8 → q ≤ bs.length → ac.length ≤ 8 * i → k + 2 < n → GX bs T b0 g1 → WSo ac g1 → GWo g1 dp (R_readWalks_L19 n (ii i) (ii ac.length) (ii 1) (GH g1 q (-1) dp)) (stF bs (k + 1) q ac) := by
  intro k
  induction k with
  | zero =>
    intro q ac i n g1 h1 h2 h3 h4 h5 h6
    obtain ⟨n', rfl⟩ : ∃ n', n = n' + 1 := ⟨n - 1, by omega⟩
    exact R_rw1 hT ok h1 h2 h3 (by omega) h5 h6 (fun _ _ _ z => absurd rfl z)
  | succ k ih =>
    intro q ac i n g1 h1 h2 h3 h4 h5 h6
    obtain ⟨n', rfl⟩ : ∃ n', n = n' + 1 := ⟨n - 1, by omega⟩
    exact R_rw1 hT ok h1 h2 h3 (by omega) h5 h6 (fun p A g' _ a1 a2 a3 a4 => ih p A (i + 1) n' g' (by omega) a1 a2 (by omega) a3 a4)
end WS
