/-! the class reads a law -/
def LH (h0 : AH) (o p : Nat) (C : List Int) : AH := (fun x => if x = 1 then upd (h0.1 1) 2 (ii p) else if x = o then upd (h0.1 o) 2 (ii C.length) else if x = o + 1 then (fun j => if j < C.length then ii (C.getD j 0) else h0.1 (o + 1) j) else h0.1 x, h0.2)
def LX (bs : List Int) (h0 : AH) (o : Nat) : Prop := TP 1 1 2 ii h0 bs ∧ okB bs ∧ h0.2.2 8 0 = o ∧ o ∈ [55, 58, 61, 64, 67]
theorem reck_v : ∀ c : Nat, c < 256 → p_LR_reckoning (ii c) = ii (if mcS c = -1 then acS c else mcS c) := by decide +kernel
theorem comp_v : ∀ c : Nat, c < 256 → p_LR_comparing (ii c) = ii (cmM c) := by decide +kernel
theorem L_reck {c : Int} (h : c = -1 ∨ (1 ≤ c ∧ c ≤ 255)) : p_LR_reckoning (ii c) = ii (if mcS c = -1 then acS c else mcS c) := by
  rcases h with h | h
  · subst h; decide
  · obtain ⟨n, rfl⟩ := Int.eq_ofNat_of_zero_le (show 0 ≤ c by omega)
    exact reck_v n (by omega)
theorem L_comp {c : Int} (h : c = -1 ∨ (1 ≤ c ∧ c ≤ 255)) : p_LR_comparing (ii c) = ii (cmM c) := by
  rcases h with h | h
  · subst h; decide
  · obtain ⟨n, rfl⟩ := Int.eq_ofNat_of_zero_le (show 0 ≤ c by omega)
    exact comp_v n (by omega)
theorem L_li {c : Int} (h : c = -1 ∨ (1 ≤ c ∧ c ≤ 255)) : spM 7 c = liM c := by
  rcases h with h | h
  · subst h; decide
  · obtain ⟨n, rfl⟩ := Int.eq_ofNat_of_zero_le (show 0 ≤ c by omega)
    exact sp_li n (by omega)
theorem li_lo (c : Int) : -1 ≤ liM c ∧ liM c ≤ 5 := by unfold liM; repeat' split <;> try omega
theorem cm_lo (c : Int) : cmM c = -1 ∨ (-13 ≤ cmM c ∧ cmM c ≤ -11) := by unfold cmM; repeat' split <;> try omega
theorem andP_l (e : Nat) (f : Nat → List Int → PR) : andP (.inl e) f = .inl e := rfl
theorem andP_r (v : Nat × List Int) (f : Nat → List Int → PR) : andP (.inr v) f = f v.1 v.2 := rfl
section LR
variable {bs : List Int} {h0 : AH} {o : Nat}
theorem LX.ne (X : LX bs h0 o) : o ≠ 1 ∧ o ≠ 0 ∧ o ≠ 2 ∧ o < 80 ∧ 8 < o := by
  have := X.2.2.2
  simp only [List.mem_cons, List.not_mem_nil, or_false] at this
  omega
theorem LH_at {p : Nat} {C : List Int} : (LH h0 o p C).1 1 2 = ii p := rfl
theorem LH_2 {p : Nat} {C : List Int} : (LH h0 o p C).2 = h0.2 := rfl
theorem LH_22 {p : Nat} {C : List Int} (X : LX bs h0 o) : (LH h0 o p C).2.2 8 0 = o := X.2.2.1
theorem heap_ext {a b : AH} (h1 : ∀ x, a.1 x = b.1 x) (h2 : a.2 = b.2) : a = b := Prod.ext (funext h1) h2
theorem LH_1 {p : Nat} {C : List Int} : (LH h0 o p C).1 1 = upd (h0.1 1) 2 (ii p) := rfl
theorem LH_o {p : Nat} {C : List Int} (h : o ≠ 1) : (LH h0 o p C).1 o = upd (h0.1 o) 2 (ii C.length) := by
  unfold LH
  simp only [h, if_false, if_true]
theorem LH_o1 {p : Nat} {C : List Int} (h : o + 1 ≠ 1) : (LH h0 o p C).1 (o + 1) = fun j => if j < C.length then ii (C.getD j 0) else h0.1 (o + 1) j := by
  unfold LH
  simp only [h, show ¬ o + 1 = o by omega, if_false, if_true]
theorem LH_n {p : Nat} {C : List Int} {x : Nat} (h1 : x ≠ 1) (h2 : x ≠ o) (h3 : x ≠ o + 1) : (LH h0 o p C).1 x = h0.1 x := by
  unfold LH
  simp only [h1, h2, h3, if_false]
theorem LH_tp (X : LX bs h0 o) (p : Nat) (C : List Int) : TP 1 1 2 ii (LH h0 o p C) bs := by
  obtain ⟨o1', o2, o3, o4, o5⟩ := X.ne
  refine ⟨X.1.1, fun j hj => ?_⟩
  rw [LH_n (by omega) (by omega) (by omega)]
  exact X.1.2 j hj
theorem LH_set {p q : Nat} {C : List Int} : wI (LH h0 o p C) 1 2 (ii q) = LH h0 o q C := by
  apply heap_ext
  · intro x
    by_cases e : x = 1
    · subst e
      rw [wI_self, LH_1, LH_1]
      funext k
      unfold upd
      split <;> rfl
    · rw [wI_ne e]
      unfold LH
      simp only [e, if_false]
  · rfl
theorem LH_inc {p : Nat} {C : List Int} : wI (LH h0 o p C) 1 2 (ii ((p : Int) + 1)) = LH h0 o (p + 1) C := LH_set (q := p + 1)
theorem LH_emit (X : LX bs h0 o) {p : Nat} {C : List Int} (hC : C.length < 240) (v : Int) : f_Law_emit o (ii v) (LH h0 o p C) = some (LH h0 o p (C ++ [v])) := by
  obtain ⟨o1', o2, o3, o4, o5⟩ := X.ne
  have e2 : (LH h0 o p C).1 o 2 = ii C.length := by rw [LH_o o1', upd_self]
  unfold f_Law_emit
  simp (disch := omega) only [Option.bind_some, if_true, if_false, not_true_eq_false, not_false_eq_true, z0, ii_add, ii_sub, ii_mul, ifLeT, ifLeF, ifLtT, ifLtF, ifEqT, ifEqF, ifNeT, ifNeF, ifIn, nixZ, ii_i64, o0, o1, isInT, isInF, tn14, tn12, tn2, tn21, tn47, tn48, tn49, tn471, tn472, Int.reduceToNat, Int.toNat_natCast, Int.reduceAdd, Int.reduceSub, Int.reduceMul, Int.reduceNeg, Nat.reduceAdd, Nat.reduceSub, Nat.reduceMul, e2]
  rw [wI_ne (by omega), e2, ii_add]
  congr 1
  apply heap_ext
  · intro x
    by_cases e : x = o
    · subst e
      rw [wI_self, wI_ne (by omega), LH_o o1', LH_o o1']
      funext k
      unfold upd
      by_cases e3 : k = 2
      · rw [if_pos e3, if_pos e3]; simp
      · rw [if_neg e3, if_neg e3, if_neg e3]
    · rw [wI_ne e]
      by_cases e4 : x = o + 1
      · subst e4
        rw [wI_self, LH_o1 (by omega), LH_o1 (by omega)]
        funext k
        unfold upd
        simp only [List.length_append, List.length_cons, List.length_nil]
        by_cases e5 : k = C.length
        · subst e5
          rw [if_pos rfl, if_pos (by omega), List.getD_eq_getElem?_getD, List.getElem?_append_right (Nat.le_refl _)]
          simp
        · rw [if_neg e5]
          by_cases e6 : k < C.length
          · rw [if_pos e6, if_pos (by omega), List.getD_eq_getElem?_getD, List.getD_eq_getElem?_getD, List.getElem?_append_left e6]
          · rw [if_neg e6, if_neg (by omega)]
      · rw [wI_ne e4]
        by_cases e5 : x = 1
        · subst e5; rw [LH_1, LH_1]
        · rw [LH_n e5 e e4, LH_n e5 e e4]
  · rfl
theorem L_pk (X : LX bs h0 o) {p : Nat} (C : List Int) (hp : p ≤ bs.length) : f_Tape_peek (LH h0 o p C) = some (ii (ch bs (sk bs p)), LH h0 o (sk bs p) C) := by
  rw [C_pk X.2.1 (LH_tp X p C) LH_at hp, LH_set]
theorem L_tkT (X : LX bs h0 o) {p : Nat} {C : List Int} (hp : p ≤ bs.length) {c : Int} (c0 : 0 ≤ c) (c1 : c ≤ 255) (e : ch bs (sk bs p) = c) : f_Tape_take (ii c) (LH h0 o p C) = some (ii 1, LH h0 o (sk bs p + 1) C) := by
  rw [C_take X.2.1 (LH_tp X p C) LH_at hp c0 c1, LH_set, if_pos e]
theorem L_tkF (X : LX bs h0 o) {p : Nat} {C : List Int} (hp : p ≤ bs.length) {c : Int} (c0 : 0 ≤ c) (c1 : c ≤ 255) (e : ch bs (sk bs p) ≠ c) : f_Tape_take (ii c) (LH h0 o p C) = some (ii 0, LH h0 o (sk bs p) C) := by
  rw [C_take X.2.1 (LH_tp X p C) LH_at hp c0 c1, LH_set, LH_set, if_neg e]
theorem L_num (X : LX bs h0 o) {p : Nat} {C : List Int} (hp : p ≤ bs.length) : f_Tape_number (ii 4) (LH h0 o p C) = match nuF bs 4 6 0 0 p with
    | .inl e => some (ii (-1), LH h0 o e C)
    | .inr (q, D) => some (ii (D.getD 0 0), LH h0 o q C) := by
  have := C_num X.2.1 (LH_tp X p C) LH_at hp (most := 4) (by omega)
  rw [show ii 4 = ii ((4 : Nat) : Int) from rfl, this]
  cases nuF bs 4 (4 + 2) 0 0 p with
  | inl e => simp only [LH_set]
  | inr v => simp only [LH_set]
/-- how a reading came out: true, with more code; or false, the tape at the fault -/
def CRs (h0 : AH) (o : Nat) (C : List Int) (x : Option (Int32 × AH)) (r : PR) : Prop := match r with
  | .inl e => ∃ C', x = some (ii 0, LH h0 o e C')
  | .inr (q, D) => x = some (ii 1, LH h0 o q (C ++ D))
theorem L_at {rc : Nat → Int32 → AH → Option (Int32 × AH)} (X : LX bs h0 o) {sub : Option (Nat → PR)} {dp : Nat} (hd : dp ≤ 6) (hn : sub = none → dp = 6) (hs : ∀ f, sub = some f → dp < 6 ∧ okA bs f ∧ ∀ p C, p ≤ bs.length → C.length ≤ p → CRs h0 o C (rc 0 (ii (dp + 1 : Nat)) (LH h0 o p C)) (f p)) {p : Nat} {C : List Int} (hp : p ≤ bs.length) (hC : C.length ≤ p) : CRs h0 o C (u_LR_readAtom rc (ii dp) (LH h0 o p C)) (atB bs sub p) := by
  have hl := X.2.1.1
  have hk := sk_lo hp
  have hc := ch_lo X.2.1 (sk bs p)
  have e8 : ∀ q D, (LH h0 o q D).2.2 8 0 = o := fun q D => LH_22 X
  unfold u_LR_readAtom atB
  rw [bind_eq (L_pk X C hp)]
  by_cases q : ch bs (sk bs p) = 91
  · rw [if_pos q]
    have hlt := ch_lt (bs := bs) (p := sk bs p) (by omega)
    cases sub with
    | none =>
      have := hn rfl
      simp (disch := omega) only [Option.bind_some, if_true, if_false, not_true_eq_false, not_false_eq_true, z0, ii_add, ii_sub, ii_mul, ifLeT, ifLeF, ifLtT, ifLtF, ifEqT, ifEqF, ifNeT, ifNeF, ifIn, nixZ, ii_i64, o0, o1, isInT, isInF, tn14, tn12, tn2, tn21, tn47, tn48, tn49, tn471, tn472, Int.reduceToNat, Int.toNat_natCast, Int.reduceAdd, Int.reduceSub, Int.reduceMul, Int.reduceNeg, Nat.reduceAdd, Nat.reduceSub, Nat.reduceMul, q]
      exact ⟨C, rfl⟩
    | some f =>
      obtain ⟨s1, s2, s3⟩ := hs f rfl
      have s4 := s3 (sk bs p + 1) C (by omega) (by omega)
      have s5 := s2 (sk bs p + 1) (by omega)
      have ed : ((dp + 1 : Nat) : Int) = (dp : Int) + 1 := by omega
      rw [ed] at s4
      show CRs h0 o C _ (andP (f (sk bs p + 1)) (tkP bs 93))
      simp (disch := omega) only [Option.bind_some, if_true, if_false, not_true_eq_false, not_false_eq_true, z0, ii_add, ii_sub, ii_mul, ifLeT, ifLeF, ifLtT, ifLtF, ifEqT, ifEqF, ifNeT, ifNeF, ifIn, nixZ, ii_i64, o0, o1, isInT, isInF, tn14, tn12, tn2, tn21, tn47, tn48, tn49, tn471, tn472, Int.reduceToNat, Int.toNat_natCast, Int.reduceAdd, Int.reduceSub, Int.reduceMul, Int.reduceNeg, Nat.reduceAdd, Nat.reduceSub, Nat.reduceMul, q, LH_at, LH_inc]
      revert s4 s5
      cases f (sk bs p + 1) with
      | inl e =>
        rintro ⟨C', s4⟩ _
        simp (disch := omega) only [Option.bind_some, if_true, if_false, not_true_eq_false, not_false_eq_true, z0, ii_add, ii_sub, ii_mul, ifLeT, ifLeF, ifLtT, ifLtF, ifEqT, ifEqF, ifNeT, ifNeF, ifIn, nixZ, ii_i64, o0, o1, isInT, isInF, tn14, tn12, tn2, tn21, tn47, tn48, tn49, tn471, tn472, Int.reduceToNat, Int.toNat_natCast, Int.reduceAdd, Int.reduceSub, Int.reduceMul, Int.reduceNeg, Nat.reduceAdd, Nat.reduceSub, Nat.reduceMul, s4]
        exact ⟨C', rfl⟩
      | inr v =>
        intro s4 s5
        obtain ⟨t1, t2, t3⟩ := s5
        have s4' : rc 0 (ii ((dp : Int) + 1)) (LH h0 o (sk bs p + 1) C) = some (ii 1, LH h0 o v.1 (C ++ v.2)) := s4
        show CRs h0 o C _ (tkP bs 93 v.1 v.2)
        unfold tkP
        by_cases q2 : ch bs (sk bs v.1) = 93
        · rw [if_pos q2]
          simp (disch := omega) only [Option.bind_some, if_true, if_false, not_true_eq_false, not_false_eq_true, z0, ii_add, ii_sub, ii_mul, ifLeT, ifLeF, ifLtT, ifLtF, ifEqT, ifEqF, ifNeT, ifNeF, ifIn, nixZ, ii_i64, o0, o1, isInT, isInF, tn14, tn12, tn2, tn21, tn47, tn48, tn49, tn471, tn472, Int.reduceToNat, Int.toNat_natCast, Int.reduceAdd, Int.reduceSub, Int.reduceMul, Int.reduceNeg, Nat.reduceAdd, Nat.reduceSub, Nat.reduceMul, s4', L_pk X (C ++ v.2) t2, q2, LH_at, LH_inc]
          rfl
        · rw [if_neg q2]
          have hc2 := ch_lo X.2.1 (sk bs v.1)
          simp (disch := omega) only [Option.bind_some, if_true, if_false, not_true_eq_false, not_false_eq_true, z0, ii_add, ii_sub, ii_mul, ifLeT, ifLeF, ifLtT, ifLtF, ifEqT, ifEqF, ifNeT, ifNeF, ifIn, nixZ, ii_i64, o0, o1, isInT, isInF, tn14, tn12, tn2, tn21, tn47, tn48, tn49, tn471, tn472, Int.reduceToNat, Int.toNat_natCast, Int.reduceAdd, Int.reduceSub, Int.reduceMul, Int.reduceNeg, Nat.reduceAdd, Nat.reduceSub, Nat.reduceMul, s4', L_pk X (C ++ v.2) t2]
          exact ⟨_, rfl⟩
  · rw [if_neg q]
    have hsp := C_place (h := LH h0 o (sk bs p) C) (o := 7) (by omega) (c := ch bs (sk bs p)) (by omega)
    rw [L_li hc] at hsp
    have hli := li_lo (ch bs (sk bs p))
    by_cases q2 : liM (ch bs (sk bs p)) = -1
    · rw [if_pos q2]
      have hnum := L_num X (p := sk bs p) (C := C) hk.2
      have hok := okP_nu (bs := bs) 4 6 0 0 (sk bs p) (sk bs p) hk.2 (Nat.le_refl _) (fun z => absurd rfl z)
      have hval := nu_val (bs := bs) (most := 4) (by omega) 6 0 0 (sk bs p) (by omega) (by omega) (by decide)
      simp (disch := omega) only [Option.bind_some, if_true, if_false, not_true_eq_false, not_false_eq_true, z0, ii_add, ii_sub, ii_mul, ifLeT, ifLeF, ifLtT, ifLtF, ifEqT, ifEqF, ifNeT, ifNeF, ifIn, nixZ, ii_i64, o0, o1, isInT, isInF, tn14, tn12, tn2, tn21, tn47, tn48, tn49, tn471, tn472, Int.reduceToNat, Int.toNat_natCast, Int.reduceAdd, Int.reduceSub, Int.reduceMul, Int.reduceNeg, Nat.reduceAdd, Nat.reduceSub, Nat.reduceMul, hsp]
      revert hnum hok hval
      cases nuF bs 4 6 0 0 (sk bs p) with
      | inl e =>
        intro hnum _ _
        simp (disch := omega) only [Option.bind_some, if_true, if_false, not_true_eq_false, not_false_eq_true, z0, ii_add, ii_sub, ii_mul, ifLeT, ifLeF, ifLtT, ifLtF, ifEqT, ifEqF, ifNeT, ifNeF, ifIn, nixZ, ii_i64, o0, o1, isInT, isInF, tn14, tn12, tn2, tn21, tn47, tn48, tn49, tn471, tn472, Int.reduceToNat, Int.toNat_natCast, Int.reduceAdd, Int.reduceSub, Int.reduceMul, Int.reduceNeg, Nat.reduceAdd, Nat.reduceSub, Nat.reduceMul, hnum]
        exact ⟨C, rfl⟩
      | inr v =>
        intro hnum hok hval
        obtain ⟨x, x1, x2, x3⟩ := hval v.1 v.2 rfl
        obtain ⟨t1, t2, t3⟩ := hok
        have x4 : x < 10000 := by simpa using x3
        have hnum' : f_Tape_number (ii 4) (LH h0 o (sk bs p) C) = some (ii x, LH h0 o v.1 C) := by
          rw [hnum]; simp only; rw [x1]; rfl
        simp (disch := omega) only [Option.bind_some, if_true, if_false, not_true_eq_false, not_false_eq_true, z0, ii_add, ii_sub, ii_mul, ifLeT, ifLeF, ifLtT, ifLtF, ifEqT, ifEqF, ifNeT, ifNeF, ifIn, nixZ, ii_i64, o0, o1, isInT, isInF, tn14, tn12, tn2, tn21, tn47, tn48, tn49, tn471, tn472, Int.reduceToNat, Int.toNat_natCast, Int.reduceAdd, Int.reduceSub, Int.reduceMul, Int.reduceNeg, Nat.reduceAdd, Nat.reduceSub, Nat.reduceMul, hnum', e8, LH_emit X (p := v.1) (C := C) (by omega) x]
        show _ = some (ii 1, LH h0 o v.1 (C ++ v.2))
        rw [x1]
    · rw [if_neg q2]
      have hlt := ch_lt (bs := bs) (p := sk bs p) (by intro z; rw [z] at q2; exact q2 (by decide))
      simp (disch := omega) only [Option.bind_some, if_true, if_false, not_true_eq_false, not_false_eq_true, z0, ii_add, ii_sub, ii_mul, ifLeT, ifLeF, ifLtT, ifLtF, ifEqT, ifEqF, ifNeT, ifNeF, ifIn, nixZ, ii_i64, o0, o1, isInT, isInF, tn14, tn12, tn2, tn21, tn47, tn48, tn49, tn471, tn472, Int.reduceToNat, Int.toNat_natCast, Int.reduceAdd, Int.reduceSub, Int.reduceMul, Int.reduceNeg, Nat.reduceAdd, Nat.reduceSub, Nat.reduceMul, hsp, LH_at, LH_inc, e8, LH_emit X (p := sk bs p + 1) (C := C) (by omega) (-1 - liM (ch bs (sk bs p)))]
      rfl
theorem wl_len (w : Int) : (wl w).length ≤ 1 := by unfold wl; split <;> simp
theorem L_suL {rc : Nat → Int32 → AH → Option (Int32 × AH)} (X : LX bs h0 o) {a : Nat → PR} (ha : okA bs a) {dp : Nat} (hA : ∀ p C, p ≤ bs.length → C.length ≤ p → CRs h0 o C (rc 1 (ii dp) (LH h0 o p C)) (a p)) (C0 : List Int) : ∀ (m q i n f : Nat) (w : Int) (D : List Int), bs.length - q ≤ m → q ≤ bs.length → m < n → i + m ≤ 240 → bs.length - q < f → (C0 ++ D).length + (wl w).length ≤ q → (w = -1 ∨ w = -7 ∨ w = -8) → CRs h0 o C0 (LR_readSum_L16 rc n (ii dp) (ii w) (ii i) (LH h0 o q (C0 ++ D))) (flG bs mcS acS a f w q D) := by
  have hl := X.2.1.1
  have e8 : ∀ q D, (LH h0 o q D).2.2 8 0 = o := fun q D => LH_22 X
  intro m
  induction m with
  | zero =>
    intro q i n f w D hm hq hn hi hf hC hw
    obtain ⟨n, rfl⟩ : ∃ z, n = z + 1 := ⟨n - 1, by omega⟩
    obtain ⟨f, rfl⟩ : ∃ z, f = z + 1 := ⟨f - 1, by omega⟩
    have hk := sk_lo hq
    have ec : ch bs (sk bs q) = -1 := ch_ge (by omega)
    have er : p_LR_reckoning (ii (-1)) = ii (-1) := by decide
    have ef : flG bs mcS acS a (f + 1) w q D = .inr (sk bs q, D ++ wl w) := by
      unfold flG
      rw [ec, if_neg (by decide), if_neg (by decide)]
    rw [ef]
    by_cases z : w = -1
    · subst z
      simp (disch := omega) only [Option.bind_some, if_true, if_false, not_true_eq_false, not_false_eq_true, z0, ii_add, ii_sub, ii_mul, ifLeT, ifLeF, ifLtT, ifLtF, ifEqT, ifEqF, ifNeT, ifNeF, ifIn, nixZ, ii_i64, o0, o1, isInT, isInF, tn14, tn12, tn2, tn21, tn47, tn48, tn49, tn471, tn472, Int.reduceToNat, Int.toNat_natCast, Int.reduceAdd, Int.reduceSub, Int.reduceMul, Int.reduceNeg, Nat.reduceAdd, Nat.reduceSub, Nat.reduceMul, LR_readSum_L16, LR_readSum_L16_b, L_pk X _ hq, ec, er]
      show _ = some (ii 1, LH h0 o (sk bs q) (C0 ++ (D ++ [])))
      rw [List.append_nil]
    · have ewl : wl w = [w] := by unfold wl; rw [if_neg z]
      rw [ewl] at hC ⊢
      simp only [List.length_cons, List.length_nil] at hC
      simp (disch := omega) only [Option.bind_some, if_true, if_false, not_true_eq_false, not_false_eq_true, z0, ii_add, ii_sub, ii_mul, ifLeT, ifLeF, ifLtT, ifLtF, ifEqT, ifEqF, ifNeT, ifNeF, ifIn, nixZ, ii_i64, o0, o1, isInT, isInF, tn14, tn12, tn2, tn21, tn47, tn48, tn49, tn471, tn472, Int.reduceToNat, Int.toNat_natCast, Int.reduceAdd, Int.reduceSub, Int.reduceMul, Int.reduceNeg, Nat.reduceAdd, Nat.reduceSub, Nat.reduceMul, LR_readSum_L16, LR_readSum_L16_b, L_pk X _ hq, ec, er, e8, LH_emit X (p := sk bs q) (C := C0 ++ D) (by omega) w]
      show _ = some (ii 1, LH h0 o (sk bs q) (C0 ++ (D ++ [w])))
      rw [List.append_assoc]
  | succ m ih =>
    intro q i n f w D hm hq hn hi hf hC hw
    obtain ⟨n, rfl⟩ : ∃ z, n = z + 1 := ⟨n - 1, by omega⟩
    obtain ⟨f, rfl⟩ : ∃ z, f = z + 1 := ⟨f - 1, by omega⟩
    have hk := sk_lo hq
    have hc := ch_lo X.2.1 (sk bs q)
    have er := L_reck hc
    have ef : flG bs mcS acS a (f + 1) w q D = if mcS (ch bs (sk bs q)) ≠ -1 then andP (a (sk bs q + 1)) (fun r E => flG bs mcS acS a f w r (D ++ E ++ [mcS (ch bs (sk bs q))])) else if acS (ch bs (sk bs q)) ≠ -1 then andP (a (sk bs q + 1)) (fun r E => flG bs mcS acS a f (acS (ch bs (sk bs q))) r (D ++ wl w ++ E)) else .inr (sk bs q, D ++ wl w) := rfl
    rw [ef]
    have hwl := wl_len w
    by_cases q1 : mcS (ch bs (sk bs q)) = -1
    · rw [if_neg (fun z => z q1)]
      rw [if_pos q1] at er
      -- the pending sign goes out first
      have pend : ∃ x, x = LH h0 o (sk bs q) (C0 ++ (D ++ wl w)) ∧ ∀ (T : AH → Option (Int32 × AH)), ((if ii w = ii (-1) then some (LH h0 o (sk bs q) (C0 ++ D)) else (f_Law_emit o (ii w) (LH h0 o (sk bs q) (C0 ++ D))).bind fun q2 => some q2).bind T) = T x := by
        refine ⟨_, rfl, fun T => ?_⟩
        by_cases z : w = -1
        · subst z
          simp (disch := omega) only [Option.bind_some, if_true, if_false, not_true_eq_false, not_false_eq_true, z0, ii_add, ii_sub, ii_mul, ifLeT, ifLeF, ifLtT, ifLtF, ifEqT, ifEqF, ifNeT, ifNeF, ifIn, nixZ, ii_i64, o0, o1, isInT, isInF, tn14, tn12, tn2, tn21, tn47, tn48, tn49, tn471, tn472, Int.reduceToNat, Int.toNat_natCast, Int.reduceAdd, Int.reduceSub, Int.reduceMul, Int.reduceNeg, Nat.reduceAdd, Nat.reduceSub, Nat.reduceMul]
          rw [show wl (-1) = [] from rfl, List.append_nil]
        · have ewl : wl w = [w] := by unfold wl; rw [if_neg z]
          rw [ewl] at hC ⊢
          simp only [List.length_cons, List.length_nil] at hC
          simp (disch := omega) only [Option.bind_some, if_true, if_false, not_true_eq_false, not_false_eq_true, z0, ii_add, ii_sub, ii_mul, ifLeT, ifLeF, ifLtT, ifLtF, ifEqT, ifEqF, ifNeT, ifNeF, ifIn, nixZ, ii_i64, o0, o1, isInT, isInF, tn14, tn12, tn2, tn21, tn47, tn48, tn49, tn471, tn472, Int.reduceToNat, Int.toNat_natCast, Int.reduceAdd, Int.reduceSub, Int.reduceMul, Int.reduceNeg, Nat.reduceAdd, Nat.reduceSub, Nat.reduceMul, LH_emit X (p := sk bs q) (C := C0 ++ D) (by omega) w]
          rw [List.append_assoc]
      obtain ⟨x, ex, ep⟩ := pend
      by_cases q2 : acS (ch bs (sk bs q)) = -1
      · rw [if_neg (fun z => z q2)]
        rw [q2] at er
        have hne : ∀ T : AH → Option (Int32 × AH), ((if ii w = ii (-1) then some (LH h0 o (sk bs q) (C0 ++ D)) else if (if ii (-1) = ii (-9) then ii 1 else if ii (-1) = ii (-10) then ii 1 else ii 0) = ii 0 then (f_Law_emit o (ii w) (LH h0 o (sk bs q) (C0 ++ D))).bind fun q2 => some q2 else some (LH h0 o (sk bs q) (C0 ++ D))).bind T) = T x := by
          intro T
          rw [← ep T]
          rfl
        show CRs h0 o C0 (LR_readSum_L16_b rc (LR_readSum_L16 rc n) (ii dp) (ii w) (ii i) (LH h0 o q (C0 ++ D))) _
        unfold LR_readSum_L16_b
        rw [if_neg (by rw [ii_lt (by omega) (by omega) (by omega) (by omega)]; omega), bind_eq (L_pk X _ hq)]
        simp only [er, e8, z0]
        rw [hne]
        simp only [if_true]
        rw [ex]
        rfl
      · rw [if_pos q2]
        have hlt := ch_lt (bs := bs) (p := sk bs q) (by intro z; rw [z] at q2; exact q2 (by decide))
        have hv : acS (ch bs (sk bs q)) = -7 ∨ acS (ch bs (sk bs q)) = -8 := by
          unfold acS at q2 ⊢
          split
          · exact Or.inl rfl
          · split
            · exact Or.inr rfl
            · rename_i z1 z2; rw [if_neg z1, if_neg z2] at q2; exact absurd rfl q2
        have hlen : (C0 ++ (D ++ wl w)).length ≤ sk bs q := by
          simp only [List.length_append] at hC ⊢; omega
        have h1 := hA (sk bs q + 1) (C0 ++ (D ++ wl w)) (by omega) (by omega)
        have h2 := ha (sk bs q + 1) (by omega)
        generalize acS (ch bs (sk bs q)) = v at *
        have hne : ∀ T : AH → Option (Int32 × AH), ((if ii w = ii (-1) then some (LH h0 o (sk bs q) (C0 ++ D)) else if (if ii v = ii (-9) then ii 1 else if ii v = ii (-10) then ii 1 else ii 0) = ii 0 then (f_Law_emit o (ii w) (LH h0 o (sk bs q) (C0 ++ D))).bind fun q2 => some q2 else some (LH h0 o (sk bs q) (C0 ++ D))).bind T) = T x := by
          intro T
          rw [← ep T]
          rcases hv with hv | hv <;> rw [hv] <;> rfl
        show CRs h0 o C0 (LR_readSum_L16_b rc (LR_readSum_L16 rc n) (ii dp) (ii w) (ii i) (LH h0 o q (C0 ++ D))) _
        unfold LR_readSum_L16_b
        rw [if_neg (by rw [ii_lt (by omega) (by omega) (by omega) (by omega)]; omega), bind_eq (L_pk X _ hq)]
        simp only [er, e8, z0]
        rw [hne, ex]
        revert h1 h2
        cases a (sk bs q + 1) with
        | inl e =>
          rintro ⟨C', h1⟩ _
          rcases hv with hv | hv <;> subst hv <;> simp (disch := omega) only [Option.bind_some, if_true, if_false, not_true_eq_false, not_false_eq_true, z0, ii_add, ii_sub, ii_mul, ifLeT, ifLeF, ifLtT, ifLtF, ifEqT, ifEqF, ifNeT, ifNeF, ifIn, nixZ, ii_i64, o0, o1, isInT, isInF, tn14, tn12, tn2, tn21, tn47, tn48, tn49, tn471, tn472, Int.reduceToNat, Int.toNat_natCast, Int.reduceAdd, Int.reduceSub, Int.reduceMul, Int.reduceNeg, Nat.reduceAdd, Nat.reduceSub, Nat.reduceMul, LH_at, LH_inc, h1] <;> exact ⟨C', rfl⟩
        | inr u =>
          intro h1 h2
          obtain ⟨t1, t2, t3⟩ := h2
          have h1' : rc 1 (ii dp) (LH h0 o (sk bs q + 1) (C0 ++ (D ++ wl w))) = some (ii 1, LH h0 o u.1 (C0 ++ (D ++ wl w) ++ u.2)) := h1
          have hih := ih u.1 (i + 1) n f v (D ++ wl w ++ u.2) (by omega) t2 (by omega) (by omega) (by omega) (by
            have := wl_len v
            simp only [List.length_append] at hlen ⊢; omega) (Or.inr hv)
          have hih' : CRs h0 o C0 (LR_readSum_L16 rc n (ii dp) (ii v) (ii ((i : Int) + 1)) (LH h0 o u.1 (C0 ++ (D ++ wl w) ++ u.2))) (flG bs mcS acS a f v u.1 (D ++ wl w ++ u.2)) := by
            rw [List.append_assoc C0]; exact hih
          rcases hv with hv | hv <;> subst hv <;> simp (disch := omega) only [Option.bind_some, if_true, if_false, not_true_eq_false, not_false_eq_true, z0, ii_add, ii_sub, ii_mul, ifLeT, ifLeF, ifLtT, ifLtF, ifEqT, ifEqF, ifNeT, ifNeF, ifIn, nixZ, ii_i64, o0, o1, isInT, isInF, tn14, tn12, tn2, tn21, tn47, tn48, tn49, tn471, tn472, Int.reduceToNat, Int.toNat_natCast, Int.reduceAdd, Int.reduceSub, Int.reduceMul, Int.reduceNeg, Nat.reduceAdd, Nat.reduceSub, Nat.reduceMul, LH_at, LH_inc, h1'] <;> exact hih'
    · rw [if_pos q1]
      rw [if_neg q1] at er
      have hlt := ch_lt (bs := bs) (p := sk bs q) (by intro z; rw [z] at q1; exact q1 (by decide))
      have hv : mcS (ch bs (sk bs q)) = -9 ∨ mcS (ch bs (sk bs q)) = -10 := by
        unfold mcS at q1 ⊢
        split
        · exact Or.inl rfl
        · split
          · exact Or.inr rfl
          · rename_i z1 z2; rw [if_neg z1, if_neg z2] at q1; exact absurd rfl q1
      have hlen : (C0 ++ D).length ≤ sk bs q := by simp only [List.length_append] at hC ⊢; omega
      have h1 := hA (sk bs q + 1) (C0 ++ D) (by omega) (by omega)
      have h2 := ha (sk bs q + 1) (by omega)
      generalize mcS (ch bs (sk bs q)) = v at *
      have hne : ∀ T : AH → Option (Int32 × AH), ((if ii w = ii (-1) then some (LH h0 o (sk bs q) (C0 ++ D)) else if (if ii v = ii (-9) then ii 1 else if ii v = ii (-10) then ii 1 else ii 0) = ii 0 then (f_Law_emit o (ii w) (LH h0 o (sk bs q) (C0 ++ D))).bind fun q2 => some q2 else some (LH h0 o (sk bs q) (C0 ++ D))).bind T) = T (LH h0 o (sk bs q) (C0 ++ D)) := by
        intro T
        by_cases z : w = -1
        · subst z; simp (disch := omega) only [Option.bind_some, if_true, if_false, not_true_eq_false, not_false_eq_true, z0, ii_add, ii_sub, ii_mul, ifLeT, ifLeF, ifLtT, ifLtF, ifEqT, ifEqF, ifNeT, ifNeF, ifIn, nixZ, ii_i64, o0, o1, isInT, isInF, tn14, tn12, tn2, tn21, tn47, tn48, tn49, tn471, tn472, Int.reduceToNat, Int.toNat_natCast, Int.reduceAdd, Int.reduceSub, Int.reduceMul, Int.reduceNeg, Nat.reduceAdd, Nat.reduceSub, Nat.reduceMul]
        · rcases hv with hv | hv <;> subst hv <;> simp (disch := omega) only [Option.bind_some, if_true, if_false, not_true_eq_false, not_false_eq_true, z0, ii_add, ii_sub, ii_mul, ifLeT, ifLeF, ifLtT, ifLtF, ifEqT, ifEqF, ifNeT, ifNeF, ifIn, nixZ, ii_i64, o0, o1, isInT, isInF, tn14, tn12, tn2, tn21, tn47, tn48, tn49, tn471, tn472, Int.reduceToNat, Int.toNat_natCast, Int.reduceAdd, Int.reduceSub, Int.reduceMul, Int.reduceNeg, Nat.reduceAdd, Nat.reduceSub, Nat.reduceMul]
      show CRs h0 o C0 (LR_readSum_L16_b rc (LR_readSum_L16 rc n) (ii dp) (ii w) (ii i) (LH h0 o q (C0 ++ D))) _
      unfold LR_readSum_L16_b
      rw [if_neg (by rw [ii_lt (by omega) (by omega) (by omega) (by omega)]; omega), bind_eq (L_pk X _ hq)]
      simp only [er, e8, z0]
      rw [hne]
      revert h1 h2
      cases a (sk bs q + 1) with
      | inl e =>
        rintro ⟨C', h1⟩ _
        rcases hv with hv | hv <;> subst hv <;> simp (disch := omega) only [Option.bind_some, if_true, if_false, not_true_eq_false, not_false_eq_true, z0, ii_add, ii_sub, ii_mul, ifLeT, ifLeF, ifLtT, ifLtF, ifEqT, ifEqF, ifNeT, ifNeF, ifIn, nixZ, ii_i64, o0, o1, isInT, isInF, tn14, tn12, tn2, tn21, tn47, tn48, tn49, tn471, tn472, Int.reduceToNat, Int.toNat_natCast, Int.reduceAdd, Int.reduceSub, Int.reduceMul, Int.reduceNeg, Nat.reduceAdd, Nat.reduceSub, Nat.reduceMul, LH_at, LH_inc, h1] <;> exact ⟨C', rfl⟩
      | inr u =>
        intro h1 h2
        obtain ⟨t1, t2, t3⟩ := h2
        have h1' : rc 1 (ii dp) (LH h0 o (sk bs q + 1) (C0 ++ D)) = some (ii 1, LH h0 o u.1 (C0 ++ D ++ u.2)) := h1
        have hih := ih u.1 (i + 1) n f w (D ++ u.2 ++ [v]) (by omega) t2 (by omega) (by omega) (by omega) (by
          simp only [List.length_append, List.length_cons, List.length_nil] at hC ⊢; omega) hw
        have hem := LH_emit X (p := u.1) (C := C0 ++ D ++ u.2) (by simp only [List.length_append] at hlen ⊢; omega) v
        have hih' : CRs h0 o C0 (LR_readSum_L16 rc n (ii dp) (ii w) (ii ((i : Int) + 1)) (LH h0 o u.1 (C0 ++ D ++ u.2 ++ [v]))) (flG bs mcS acS a f w u.1 (D ++ u.2 ++ [v])) := by
          rw [show C0 ++ D ++ u.2 ++ [v] = C0 ++ (D ++ u.2 ++ [v]) by simp only [List.append_assoc]]; exact hih
        rcases hv with hv | hv <;> subst hv <;> simp (disch := omega) only [Option.bind_some, if_true, if_false, not_true_eq_false, not_false_eq_true, z0, ii_add, ii_sub, ii_mul, ifLeT, ifLeF, ifLtT, ifLtF, ifEqT, ifEqF, ifNeT, ifNeF, ifIn, nixZ, ii_i64, o0, o1, isInT, isInF, tn14, tn12, tn2, tn21, tn47, tn48, tn49, tn471, tn472, Int.reduceToNat, Int.toNat_natCast, Int.reduceAdd, Int.reduceSub, Int.reduceMul, Int.reduceNeg, Nat.reduceAdd, Nat.reduceSub, Nat.reduceMul, LH_at, LH_inc, h1', e8, hem] <;> exact hih'
theorem L_su {rc : Nat → Int32 → AH → Option (Int32 × AH)} (X : LX bs h0 o) {a : Nat → PR} (ha : okA bs a) {dp : Nat} (hA : ∀ p C, p ≤ bs.length → C.length ≤ p → CRs h0 o C (rc 1 (ii dp) (LH h0 o p C)) (a p)) {p : Nat} {C : List Int} (hp : p ≤ bs.length) (hC : C.length ≤ p) : CRs h0 o C (u_LR_readSum rc (ii dp) (LH h0 o p C)) (smG bs mcS acS a (a p)) := by
  have hl := X.2.1.1
  have hmac : ∀ c, acS c ≠ -1 → mcS c = -1 := by
    intro c z
    unfold acS at z
    unfold mcS
    by_cases q : c = 43
    · rw [q]; decide
    · by_cases q2 : c = 45
      · rw [q2]; decide
      · rw [if_neg q, if_neg q2] at z; exact absurd rfl z
  obtain ⟨f, hf⟩ : ∃ f, bs.length < f := ⟨_, Nat.lt_succ_self _⟩
  rw [sm_fl rfl rfl hmac ha hl (ha p hp) hf]
  unfold u_LR_readSum
  have hFU : 1000 < FU := by unfold FU; omega
  generalize FU = F at *
  have h1 := hA p C hp hC
  have h2 := ha p hp
  revert h1 h2
  cases a p with
  | inl e =>
    rintro ⟨C', h1⟩ _
    rw [bind_eq h1]
    rw [andP_l]
    refine ⟨C', ?_⟩
    rw [if_pos i00]
  | inr u =>
    intro h1 h2
    obtain ⟨t1, t2, t3⟩ := h2
    have h1' : rc 1 (ii dp) (LH h0 o p C) = some (ii 1, LH h0 o u.1 (C ++ u.2)) := h1
    rw [bind_eq h1']
    rw [andP_r, if_neg i10]
    exact L_suL X ha hA C bs.length u.1 0 F f (-1) u.2 (by omega) t2 (by omega) (by omega) (by omega) (by
      rw [show wl (-1) = [] from rfl]; simp only [List.length_append, List.length_nil]; omega) (Or.inl rfl)
end LR
