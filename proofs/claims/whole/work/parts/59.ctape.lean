/-! signs among letters; the class's tape -/
def idxF (l : List Int32) (x : Int32) : Nat → Nat → Int
  | 0, _ => -1
  | k + 1, i => if l.getD i (ii 0) = x then i else idxF l x k (i + 1)
theorem idxF_s (l : List Int32) (x : Int32) (k i : Nat) : idxF l x (k + 1) i = if l.getD i (ii 0) = x then (i : Int) else idxF l x k (i + 1) := rfl
/-- where a sign is among the letters of a text -/
def spM (o : Nat) (c : Int) : Int := idxF (am_str.getD o []) (ii c) (stL o) 0
theorem idxF_lo {l : List Int32} {x : Int32} : ∀ (k i : Nat), -1 ≤ idxF l x k i ∧ idxF l x k i < i + k
  | 0, i => by unfold idxF; omega
  | k + 1, i => by
    have := idxF_lo (l := l) (x := x) k (i + 1)
    unfold idxF
    split <;> omega
theorem st_6 : ∀ o : Nat, o < 8 → 1 ≤ stL o ∧ stL o ≤ 6 := by decide +kernel
theorem st_9 : stL 9 = 1 := by decide +kernel
theorem spM_lo {o : Nat} (ho : o < 8) (c : Int) : -1 ≤ spM o c ∧ spM o c < 6 := by
  have h1 := idxF_lo (l := am_str.getD o []) (x := ii c) (stL o) 0
  have h2 := st_6 o ho
  unfold spM
  omega
theorem sp_cls : ∀ o : Nat, o < 8 → ∀ c : Nat, c < 256 → idxF (am_str.getD o []) ((chI (ii c)).toInt8.toInt32) (stL o) 0 = spM o c ∧ p_Lat_canEncode (chI (ii c)) = ii 1 := by decide +kernel
theorem sp_m1 : ∀ o : Nat, o < 8 → spM o (-1) = -1 := by decide +kernel
theorem sp_li : ∀ c : Nat, c < 256 → spM 7 c = liM c := by decide +kernel
theorem sp_y : ∀ c : Nat, c < 256 → (spM 9 c = if c = 121 then 0 else -1) := by decide +kernel
section T1
variable {h g : AH}
theorem C_idx (l : List Int32) {o n : Nat} (hl : am_str.getD o [] = l) (hn : n ≤ 100) (x : Int32) : Lat_indexOfChar_L7 FU n o (ii n) x (ii 0) h = some (ii (idxF l x n 0)) := by
  refine lup (fun m k (_ : Unit) => Lat_indexOfChar_L7 m n o (ii n) x (ii k) h) n (fun k _ => idxF l x (n - k) k = idxF l x n 0) (fun y => y = some (ii (idxF l x n 0))) ?_ ?_ n 0 FU () (by omega) (by unfold FU; omega) rfl
  · rintro m _ r
    rw [Nat.sub_self] at r
    simp (disch := omega) only [Option.bind_some, if_true, if_false, not_true_eq_false, not_false_eq_true, z0, ii_add, ii_sub, ii_mul, ifLeT, ifLeF, ifLtT, ifLtF, ifEqT, ifEqF, ifNeT, ifNeF, ifIn, nixZ, ii_i64, o0, o1, isInT, isInF, tn14, tn12, tn2, tn21, tn47, tn48, tn49, tn471, tn472, Int.reduceToNat, Int.toNat_natCast, Int.reduceAdd, Int.reduceSub, Int.reduceMul, Int.reduceNeg, Nat.reduceAdd, Nat.reduceSub, Nat.reduceMul, Lat_indexOfChar_L7, Lat_indexOfChar_L7_b, ← r]
    rfl
  · rintro m k _ hk r
    rw [show n - k = (n - (k + 1)) + 1 by omega] at r
    rw [idxF_s] at r
    by_cases q : l.getD k (ii 0) = x
    · left
      rw [if_pos q] at r
      simp (disch := omega) only [Option.bind_some, if_true, if_false, not_true_eq_false, not_false_eq_true, z0, ii_add, ii_sub, ii_mul, ifLeT, ifLeF, ifLtT, ifLtF, ifEqT, ifEqF, ifNeT, ifNeF, ifIn, nixZ, ii_i64, o0, o1, isInT, isInF, tn14, tn12, tn2, tn21, tn47, tn48, tn49, tn471, tn472, Int.reduceToNat, Int.toNat_natCast, Int.reduceAdd, Int.reduceSub, Int.reduceMul, Int.reduceNeg, Nat.reduceAdd, Nat.reduceSub, Nat.reduceMul, Lat_indexOfChar_L7, Lat_indexOfChar_L7_b, hl, q, ← r]
    · right
      rw [if_neg q] at r
      simp (disch := omega) only [Option.bind_some, if_true, if_false, not_true_eq_false, not_false_eq_true, z0, ii_add, ii_sub, ii_mul, ifLeT, ifLeF, ifLtT, ifLtF, ifEqT, ifEqF, ifNeT, ifNeF, ifIn, nixZ, ii_i64, o0, o1, isInT, isInF, tn14, tn12, tn2, tn21, tn47, tn48, tn49, tn471, tn472, Int.reduceToNat, Int.toNat_natCast, Int.reduceAdd, Int.reduceSub, Int.reduceMul, Int.reduceNeg, Nat.reduceAdd, Nat.reduceSub, Nat.reduceMul, Lat_indexOfChar_L7, Lat_indexOfChar_L7_b, hl, q]
      exact ⟨(), rfl, r⟩
theorem C_place {o : Nat} (ho : o < 8) {c : Int} (hc : c = -1 ∨ (0 ≤ c ∧ c ≤ 255)) : f_HF_placeIn o (ii c) h = some (ii (spM o c)) := by
  have h6 := st_6 o ho
  unfold f_HF_placeIn
  rcases hc with hc | hc
  · subst hc
    rw [sp_m1 o ho]
    simp (disch := omega) only [Option.bind_some, if_true, if_false, not_true_eq_false, not_false_eq_true, z0, ii_add, ii_sub, ii_mul, ifLeT, ifLeF, ifLtT, ifLtF, ifEqT, ifEqF, ifNeT, ifNeF, ifIn, nixZ, ii_i64, o0, o1, isInT, isInF, tn14, tn12, tn2, tn21, tn47, tn48, tn49, tn471, tn472, Int.reduceToNat, Int.toNat_natCast, Int.reduceAdd, Int.reduceSub, Int.reduceMul, Int.reduceNeg, Nat.reduceAdd, Nat.reduceSub, Nat.reduceMul]
  · obtain ⟨n, rfl⟩ := Int.eq_ofNat_of_zero_le hc.1
    obtain ⟨e1, e2⟩ := sp_cls o ho n (by omega)
    have e3 : p_Str_length o = ii (stL o) := by
      unfold p_Str_length p_Str_coder
      have : ∀ k : Nat, k < 7 → shrI (ii k) 0 = ii k := by decide +kernel
      exact this (stL o) (by omega)
    unfold f_Str_indexOf f_Str_indexOf2 f_Lat_indexOf f_Lat_indexOfChar p_Str_isLatin1 p_Math_max p_Math_min
    simp (disch := omega) only [Option.bind_some, if_true, if_false, not_true_eq_false, not_false_eq_true, z0, ii_add, ii_sub, ii_mul, ifLeT, ifLeF, ifLtT, ifLtF, ifEqT, ifEqF, ifNeT, ifNeF, ifIn, nixZ, ii_i64, o0, o1, isInT, isInF, tn14, tn12, tn2, tn21, tn47, tn48, tn49, tn471, tn472, Int.reduceToNat, Int.toNat_natCast, Int.reduceAdd, Int.reduceSub, Int.reduceMul, Int.reduceNeg, Nat.reduceAdd, Nat.reduceSub, Nat.reduceMul, e2, e3, C_idx (am_str.getD o []) rfl (show stL o ≤ 100 by omega), e1]
theorem R_cha {o : Nat} {k : Nat} (ho : o < 10) (ho8 : o ≠ 8) (hk : k < stL o) : f_Str_charAt o (ii k) h = some ((am_str.getD o []).getD k (ii 0)) := by
  have h1 : stL o ≤ 6 ∧ stL o ≤ 100 := by
    by_cases q : o < 8
    · have := st_6 o q; omega
    · have : o = 9 := by omega
      subst this; rw [st_9]; omega
  have key : ∀ o : Nat, o < 10 → ∀ k : Nat, k < stL o → (chI (((am_str.getD o []).getD k (ii 0)) &&& ii 255) = (am_str.getD o []).getD k (ii 0)) ∧ (0 ≤ vI ((am_str.getD o []).getD k (ii 0)) ∧ vI ((am_str.getD o []).getD k (ii 0)) ≤ 255) := by decide +kernel
  obtain ⟨e1, e2⟩ := key o ho k hk
  have enar : narrow .char (.int ((am_str.getD o []).getD k (ii 0))) = .int ((am_str.getD o []).getD k (ii 0)) := by
    have kk : ∀ o : Nat, o < 10 → ∀ k : Nat, k < stL o → chI ((am_str.getD o []).getD k (ii 0)) = (am_str.getD o []).getD k (ii 0) := by decide +kernel
    have := kk o ho k hk
    show Value.int (chI ((am_str.getD o []).getD k (ii 0))) = _
    rw [this]
  unfold f_Str_charAt f_Lat_charAt f_Str_checkIndex p_Str_isLatin1
  simp (disch := omega) only [Option.bind_some, if_true, if_false, not_true_eq_false, not_false_eq_true, z0, ii_add, ii_sub, ii_mul, ifLeT, ifLeF, ifLtT, ifLtF, ifEqT, ifEqF, ifNeT, ifNeF, ifIn, nixZ, ii_i64, o0, o1, isInT, isInF, tn14, tn12, tn2, tn21, tn47, tn48, tn49, tn471, tn472, Int.reduceToNat, Int.toNat_natCast, Int.reduceAdd, Int.reduceSub, Int.reduceMul, Int.reduceNeg, Nat.reduceAdd, Nat.reduceSub, Nat.reduceMul]
  rw [if_pos (by rw [ii_le (by omega) (by omega) (by omega) (by omega), ii_lt (by omega) (by omega) (by omega) (by omega)]; omega)]
  simp (disch := omega) only [Option.bind_some, if_true, if_false, not_true_eq_false, not_false_eq_true, z0, ii_add, ii_sub, ii_mul, ifLeT, ifLeF, ifLtT, ifLtF, ifEqT, ifEqF, ifNeT, ifNeF, ifIn, nixZ, ii_i64, o0, o1, isInT, isInF, tn14, tn12, tn2, tn21, tn47, tn48, tn49, tn471, tn472, Int.reduceToNat, Int.toNat_natCast, Int.reduceAdd, Int.reduceSub, Int.reduceMul, Int.reduceNeg, Nat.reduceAdd, Nat.reduceSub, Nat.reduceMul, e1, enar]
theorem wI_wI {o j : Nat} {v w : Int32} : wI (wI h o j v) o j w = wI h o j w := by
  unfold wI
  congr 1
  funext x
  by_cases e : x = o
  · subst e
    simp only [up2_self]
    funext k
    unfold upd
    split <;> rfl
  · rw [up2_ne e, up2_ne e]
    exact up2_ne e
theorem wI_id {o j : Nat} {v : Int32} (e : h.1 o j = v) : wI h o j v = h := by
  unfold wI
  have : up2 h.1 o (upd (h.1 o) j v) = h.1 := by
    funext x
    by_cases e' : x = o
    · subst e'
      rw [up2_self]
      funext k
      unfold upd
      split
      · rename_i z; rw [z]; exact e.symm
      · rfl
    · rw [up2_ne e']
  rw [this]
/-! the class's tape -/
theorem C_byte {bs : List Int} (t : TP 1 1 2 ii h bs) {p : Nat} (hp : p < bs.length) : h.1 2 p = ii (ch bs p) := by
  rw [t.2 p hp]
  unfold ch
  rw [if_pos hp]
theorem C_peek {bs : List Int} (ok : okB bs) : ∀ (m p n : Nat) (h : AH), TP 1 1 2 ii h bs → h.1 1 2 = ii p → p + m = bs.length → m < n → Tape_peek_L0 n h = some (ii (ch bs (sk bs p)), wI h 1 2 (ii (sk bs p))) := by
  have hl := ok.1
  intro m
  induction m with
  | zero =>
    intro p n h t e hp hn
    obtain ⟨n, rfl⟩ : ∃ z, n = z + 1 := ⟨n - 1, by omega⟩
    have ec : ch bs p = -1 := ch_ge (by omega)
    have hs : sk bs p = p := sk_id (by rw [ec]; omega)
    simp (disch := omega) only [Option.bind_some, if_true, if_false, not_true_eq_false, not_false_eq_true, z0, ii_add, ii_sub, ii_mul, ifLeT, ifLeF, ifLtT, ifLtF, ifEqT, ifEqF, ifNeT, ifNeF, ifIn, nixZ, ii_i64, o0, o1, isInT, isInF, tn14, tn12, tn2, tn21, tn47, tn48, tn49, tn471, tn472, Int.reduceToNat, Int.toNat_natCast, Int.reduceAdd, Int.reduceSub, Int.reduceMul, Int.reduceNeg, Nat.reduceAdd, Nat.reduceSub, Nat.reduceMul, Tape_peek_L0, Tape_peek_L0_b, t.1, e, hs, ec, wI_id e]
  | succ m ih =>
    intro p n h t e hp hn
    obtain ⟨n, rfl⟩ : ∃ z, n = z + 1 := ⟨n - 1, by omega⟩
    have hc := ch_ok ok (p := p) (by omega)
    have eb := C_byte t (p := p) (by omega)
    by_cases q : ch bs p = 32
    · have ih' := ih (p + 1) n (wI h 1 2 (ii (p + 1 : Nat))) ⟨by rw [wI_self, upd_ne (by decide)]; exact t.1, fun j hj => by rw [wI_ne (by decide)]; exact t.2 j hj⟩ (by rw [wI_self, upd_self]) (by omega) (by omega)
      have ih2 : Tape_peek_L0 n (wI h 1 2 (ii ((p : Int) + 1))) = some (ii (ch bs (sk bs (p + 1))), wI (wI h 1 2 (ii (p + 1 : Nat))) 1 2 (ii (sk bs (p + 1)))) := ih'
      rw [wI_wI] at ih2
      simp (disch := omega) only [Option.bind_some, if_true, if_false, not_true_eq_false, not_false_eq_true, z0, ii_add, ii_sub, ii_mul, ifLeT, ifLeF, ifLtT, ifLtF, ifEqT, ifEqF, ifNeT, ifNeF, ifIn, nixZ, ii_i64, o0, o1, isInT, isInF, tn14, tn12, tn2, tn21, tn47, tn48, tn49, tn471, tn472, Int.reduceToNat, Int.toNat_natCast, Int.reduceAdd, Int.reduceSub, Int.reduceMul, Int.reduceNeg, Nat.reduceAdd, Nat.reduceSub, Nat.reduceMul, Tape_peek_L0, Tape_peek_L0_b, t.1, e, eb, ih2, sk_32 q]
    · have hs : sk bs p = p := sk_id q
      simp (disch := omega) only [Option.bind_some, if_true, if_false, not_true_eq_false, not_false_eq_true, z0, ii_add, ii_sub, ii_mul, ifLeT, ifLeF, ifLtT, ifLtF, ifEqT, ifEqF, ifNeT, ifNeF, ifIn, nixZ, ii_i64, o0, o1, isInT, isInF, tn14, tn12, tn2, tn21, tn47, tn48, tn49, tn471, tn472, Int.reduceToNat, Int.toNat_natCast, Int.reduceAdd, Int.reduceSub, Int.reduceMul, Int.reduceNeg, Nat.reduceAdd, Nat.reduceSub, Nat.reduceMul, Tape_peek_L0, Tape_peek_L0_b, t.1, e, eb, hs, wI_id e]
theorem C_pk {bs : List Int} (ok : okB bs) (t : TP 1 1 2 ii h bs) {p : Nat} (e : h.1 1 2 = ii p) (hp : p ≤ bs.length) : f_Tape_peek h = some (ii (ch bs (sk bs p)), wI h 1 2 (ii (sk bs p))) := C_peek ok (bs.length - p) p FU h t e (by omega) (by unfold FU; have := ok.1; omega)
theorem C_take {bs : List Int} (ok : okB bs) (t : TP 1 1 2 ii h bs) {p : Nat} (e : h.1 1 2 = ii p) (hp : p ≤ bs.length) {c : Int} (c0 : 0 ≤ c) (c1 : c ≤ 255) : f_Tape_take (ii c) h = if ch bs (sk bs p) = c then some (ii 1, wI h 1 2 (ii (sk bs p + 1 : Nat))) else some (ii 0, wI h 1 2 (ii (sk bs p))) := by
  have hl := ok.1
  have hc := ch_lo ok (sk bs p)
  unfold f_Tape_take
  rw [bind_eq (C_pk ok t e hp)]
  by_cases q : ch bs (sk bs p) = c
  · rw [if_pos q]
    simp (disch := omega) only [Option.bind_some, if_true, if_false, not_true_eq_false, not_false_eq_true, z0, ii_add, ii_sub, ii_mul, ifLeT, ifLeF, ifLtT, ifLtF, ifEqT, ifEqF, ifNeT, ifNeF, ifIn, nixZ, ii_i64, o0, o1, isInT, isInF, tn14, tn12, tn2, tn21, tn47, tn48, tn49, tn471, tn472, Int.reduceToNat, Int.toNat_natCast, Int.reduceAdd, Int.reduceSub, Int.reduceMul, Int.reduceNeg, Nat.reduceAdd, Nat.reduceSub, Nat.reduceMul]
    rw [wI_self, upd_self, ii_add, wI_wI]
    rfl
  · rw [if_neg q]
    simp (disch := omega) only [Option.bind_some, if_true, if_false, not_true_eq_false, not_false_eq_true, z0, ii_add, ii_sub, ii_mul, ifLeT, ifLeF, ifLtT, ifLtF, ifEqT, ifEqF, ifNeT, ifNeF, ifIn, nixZ, ii_i64, o0, o1, isInT, isInF, tn14, tn12, tn2, tn21, tn47, tn48, tn49, tn471, tn472, Int.reduceToNat, Int.toNat_natCast, Int.reduceAdd, Int.reduceSub, Int.reduceMul, Int.reduceNeg, Nat.reduceAdd, Nat.reduceSub, Nat.reduceMul]
theorem C_numL {bs : List Int} (ok : okB bs) (most : Nat) (hm : most ≤ 5) : ∀ (k dg : Nat) (v : Int) (p n : Nat) (h : AH), TP 1 1 2 ii h bs → h.1 1 2 = ii p → p ≤ bs.length → dg + k = most + 2 → dg ≤ most → k < n → 0 ≤ v → v < 10 ^ dg → Tape_number_L4 n (ii most) (ii v) (ii dg) h = match nuF bs most k dg v p with
    | .inl e => some (ii (-1), wI h 1 2 (ii e))
    | .inr (q, D) => some (ii (D.getD 0 0), wI h 1 2 (ii q)) := by
  have hl := ok.1
  intro k
  induction k with
  | zero => intro dg v p n h _ _ _ h1 h2; omega
  | succ k ih =>
    intro dg v p n h t e hp hk hd hn v0 v1
    obtain ⟨n, rfl⟩ : ∃ z, n = z + 1 := ⟨n - 1, by omega⟩
    have hc := ch_lo ok p
    have h10 : (10 : Int) ^ dg ≤ 100000 := by
      rcases (show dg = 0 ∨ dg = 1 ∨ dg = 2 ∨ dg = 3 ∨ dg = 4 ∨ dg = 5 by omega) with z | z | z | z | z | z <;> rw [z] <;> decide
    have en : nuF bs most (k + 1) dg v p = if 48 ≤ ch bs p ∧ ch bs p ≤ 57 then (if dg = most then .inl p else nuF bs most k (dg + 1) (v * 10 + ch bs p - 48) (p + 1)) else if dg = 0 then .inl p else .inr (p, [v]) := rfl
    rw [en]
    by_cases q : 48 ≤ ch bs p ∧ ch bs p ≤ 57
    · have hlt := ch_lt (bs := bs) (p := p) (by omega)
      have eb := C_byte t hlt
      rw [if_pos q]
      by_cases q2 : dg = most
      · rw [if_pos q2]
        simp (disch := omega) only [Option.bind_some, if_true, if_false, not_true_eq_false, not_false_eq_true, z0, ii_add, ii_sub, ii_mul, ifLeT, ifLeF, ifLtT, ifLtF, ifEqT, ifEqF, ifNeT, ifNeF, ifIn, nixZ, ii_i64, o0, o1, isInT, isInF, tn14, tn12, tn2, tn21, tn47, tn48, tn49, tn471, tn472, Int.reduceToNat, Int.toNat_natCast, Int.reduceAdd, Int.reduceSub, Int.reduceMul, Int.reduceNeg, Nat.reduceAdd, Nat.reduceSub, Nat.reduceMul, Tape_number_L4, Tape_number_L4_b, t.1, e, eb, wI_id e]
      · rw [if_neg q2]
        have t' : TP 1 1 2 ii (wI h 1 2 (ii (p + 1 : Nat))) bs := ⟨by rw [wI_self, upd_ne (by decide)]; exact t.1, fun j hj => by rw [wI_ne (by decide)]; exact t.2 j hj⟩
        have ep : ((p + 1 : Nat) : Int) = (p : Int) + 1 := by omega
        have p10 : (10 : Int) ^ (dg + 1) = 10 ^ dg * 10 := by rw [Int.pow_succ]
        have ih' := ih (dg + 1) (v * 10 + ch bs p - 48) (p + 1) n (wI h 1 2 (ii (p + 1 : Nat))) t' (by rw [wI_self, upd_self]) (by omega) (by omega) (by omega) (by omega) (by omega) (by omega)
        rw [ep] at ih'
        have ed : ((dg + 1 : Nat) : Int) = (dg : Int) + 1 := by omega
        rw [ed] at ih'
        have ev : v * 10 + (ch bs p - 48) = v * 10 + ch bs p - 48 := by omega
        simp (disch := omega) only [Option.bind_some, if_true, if_false, not_true_eq_false, not_false_eq_true, z0, ii_add, ii_sub, ii_mul, ifLeT, ifLeF, ifLtT, ifLtF, ifEqT, ifEqF, ifNeT, ifNeF, ifIn, nixZ, ii_i64, o0, o1, isInT, isInF, tn14, tn12, tn2, tn21, tn47, tn48, tn49, tn471, tn472, Int.reduceToNat, Int.toNat_natCast, Int.reduceAdd, Int.reduceSub, Int.reduceMul, Int.reduceNeg, Nat.reduceAdd, Nat.reduceSub, Nat.reduceMul, Tape_number_L4, Tape_number_L4_b, t.1, e, eb, ev]
        rw [ih']
        cases nuF bs most k (dg + 1) (v * 10 + ch bs p - 48) (p + 1) with
        | inl z => simp only; rw [wI_wI]
        | inr z => simp only; rw [wI_wI]
    · rw [if_neg q]
      by_cases q2 : dg = 0
      · rw [if_pos q2]
        subst q2
        by_cases q3 : bs.length ≤ p
        · simp (disch := omega) only [Option.bind_some, if_true, if_false, not_true_eq_false, not_false_eq_true, z0, ii_add, ii_sub, ii_mul, ifLeT, ifLeF, ifLtT, ifLtF, ifEqT, ifEqF, ifNeT, ifNeF, ifIn, nixZ, ii_i64, o0, o1, isInT, isInF, tn14, tn12, tn2, tn21, tn47, tn48, tn49, tn471, tn472, Int.reduceToNat, Int.toNat_natCast, Int.reduceAdd, Int.reduceSub, Int.reduceMul, Int.reduceNeg, Nat.reduceAdd, Nat.reduceSub, Nat.reduceMul, Tape_number_L4, Tape_number_L4_b, t.1, e, wI_id e, Int.natCast_zero]
        · have eb := C_byte t (p := p) (by omega)
          by_cases q4 : ch bs p < 48
          · simp (disch := omega) only [Option.bind_some, if_true, if_false, not_true_eq_false, not_false_eq_true, z0, ii_add, ii_sub, ii_mul, ifLeT, ifLeF, ifLtT, ifLtF, ifEqT, ifEqF, ifNeT, ifNeF, ifIn, nixZ, ii_i64, o0, o1, isInT, isInF, tn14, tn12, tn2, tn21, tn47, tn48, tn49, tn471, tn472, Int.reduceToNat, Int.toNat_natCast, Int.reduceAdd, Int.reduceSub, Int.reduceMul, Int.reduceNeg, Nat.reduceAdd, Nat.reduceSub, Nat.reduceMul, Tape_number_L4, Tape_number_L4_b, t.1, e, eb, wI_id e, Int.natCast_zero]
          · simp (disch := omega) only [Option.bind_some, if_true, if_false, not_true_eq_false, not_false_eq_true, z0, ii_add, ii_sub, ii_mul, ifLeT, ifLeF, ifLtT, ifLtF, ifEqT, ifEqF, ifNeT, ifNeF, ifIn, nixZ, ii_i64, o0, o1, isInT, isInF, tn14, tn12, tn2, tn21, tn47, tn48, tn49, tn471, tn472, Int.reduceToNat, Int.toNat_natCast, Int.reduceAdd, Int.reduceSub, Int.reduceMul, Int.reduceNeg, Nat.reduceAdd, Nat.reduceSub, Nat.reduceMul, Tape_number_L4, Tape_number_L4_b, t.1, e, eb, wI_id e, Int.natCast_zero]
      · rw [if_neg q2]
        by_cases q3 : bs.length ≤ p
        · simp (disch := omega) only [Option.bind_some, if_true, if_false, not_true_eq_false, not_false_eq_true, z0, ii_add, ii_sub, ii_mul, ifLeT, ifLeF, ifLtT, ifLtF, ifEqT, ifEqF, ifNeT, ifNeF, ifIn, nixZ, ii_i64, o0, o1, isInT, isInF, tn14, tn12, tn2, tn21, tn47, tn48, tn49, tn471, tn472, Int.reduceToNat, Int.toNat_natCast, Int.reduceAdd, Int.reduceSub, Int.reduceMul, Int.reduceNeg, Nat.reduceAdd, Nat.reduceSub, Nat.reduceMul, Tape_number_L4, Tape_number_L4_b, t.1, e, wI_id e]
          rfl
        · have eb := C_byte t (p := p) (by omega)
          by_cases q4 : ch bs p < 48
          · simp (disch := omega) only [Option.bind_some, if_true, if_false, not_true_eq_false, not_false_eq_true, z0, ii_add, ii_sub, ii_mul, ifLeT, ifLeF, ifLtT, ifLtF, ifEqT, ifEqF, ifNeT, ifNeF, ifIn, nixZ, ii_i64, o0, o1, isInT, isInF, tn14, tn12, tn2, tn21, tn47, tn48, tn49, tn471, tn472, Int.reduceToNat, Int.toNat_natCast, Int.reduceAdd, Int.reduceSub, Int.reduceMul, Int.reduceNeg, Nat.reduceAdd, Nat.reduceSub, Nat.reduceMul, Tape_number_L4, Tape_number_L4_b, t.1, e, eb, wI_id e]
            rfl
          · simp (disch := omega) only [Option.bind_some, if_true, if_false, not_true_eq_false, not_false_eq_true, z0, ii_add, ii_sub, ii_mul, ifLeT, ifLeF, ifLtT, ifLtF, ifEqT, ifEqF, ifNeT, ifNeF, ifIn, nixZ, ii_i64, o0, o1, isInT, isInF, tn14, tn12, tn2, tn21, tn47, tn48, tn49, tn471, tn472, Int.reduceToNat, Int.toNat_natCast, Int.reduceAdd, Int.reduceSub, Int.reduceMul, Int.reduceNeg, Nat.reduceAdd, Nat.reduceSub, Nat.reduceMul, Tape_number_L4, Tape_number_L4_b, t.1, e, eb, wI_id e]
            rfl
theorem C_num {bs : List Int} (ok : okB bs) (t : TP 1 1 2 ii h bs) {p : Nat} (e : h.1 1 2 = ii p) (hp : p ≤ bs.length) {most : Nat} (hm : most ≤ 5) : f_Tape_number (ii most) h = match nuF bs most (most + 2) 0 0 p with
    | .inl e => some (ii (-1), wI h 1 2 (ii e))
    | .inr (q, D) => some (ii (D.getD 0 0), wI h 1 2 (ii q)) := by
  have hl := ok.1
  unfold f_Tape_number
  exact C_numL ok most hm (most + 2) 0 0 p FU h t e hp (by omega) (by omega) (by unfold FU; omega) (by omega) (by decide)
theorem nu_val {bs : List Int} {most : Nat} (hm : most ≤ 5) : ∀ (k dg : Nat) (v : Int) (p : Nat), dg ≤ most → 0 ≤ v → v < 10 ^ dg → ∀ q D, nuF bs most k dg v p = .inr (q, D) → ∃ x : Int, D = [x] ∧ 0 ≤ x ∧ x < 10 ^ most
  | 0, dg, v, p, _, _, _, q, D, e => by cases e
  | k + 1, dg, v, p, hd, v0, v1, q, D, e => by
    unfold nuF at e
    split at e
    · rename_i z
      split at e
      · cases e
      · rename_i z2
        have p10 : (10 : Int) ^ (dg + 1) = 10 ^ dg * 10 := by rw [Int.pow_succ]
        exact nu_val hm k (dg + 1) _ (p + 1) (by omega) (by omega) (by omega) q D e
    · split at e
      · cases e
      · cases e
        refine ⟨v, rfl, v0, ?_⟩
        have : (10 : Int) ^ dg ≤ 10 ^ most := by
          rcases (show dg = 0 ∨ dg = 1 ∨ dg = 2 ∨ dg = 3 ∨ dg = 4 ∨ dg = 5 by omega) with z | z | z | z | z | z <;> rcases (show most = 0 ∨ most = 1 ∨ most = 2 ∨ most = 3 ∨ most = 4 ∨ most = 5 by omega) with y | y | y | y | y | y <;> first | omega | (rw [z, y]; decide)
        omega
end T1
