/-! walks told: the text as mathematics, and the class's reader -/
/-- ways, from q on, k at most -/
def wyF (bs : List Int) : Nat → Nat → List Nat → Nat ⊕ (Nat × List Nat)
  | 0, q, ws => .inr (q, ws)
  | k + 1, q, ws => if spM 6 (ch bs (sk bs q)) = -1 then (if ws = [] then .inl (sk bs q) else .inr (sk bs q, ws)) else wyF bs k (sk bs q + 1) (ws ++ [(spM 6 (ch bs (sk bs q))).toNat])
def pr2 (f : Nat) (ws : List Nat) : List (Nat × Nat) := ws.map (fun w => (f, w))
/-- stretches, k at most -/
def stF (bs : List Int) : Nat → Nat → List (Nat × Nat) → Nat ⊕ List (Nat × Nat)
  | 0, q, _ => .inl q
  | k + 1, q, ac => if 48 ≤ ch bs (sk bs q) ∧ ch bs (sk bs q) ≤ 57 then (match wyF bs 8 (sk bs q + 1) [] with
      | .inl e => .inl e
      | .inr (p, ws) => if ch bs (sk bs p) = -1 then .inr (ac ++ pr2 (ch bs (sk bs q) - 48).toNat ws) else if ch bs (sk bs p) = 59 ∧ k ≠ 0 then stF bs k (sk bs p + 1) (ac ++ pr2 (ch bs (sk bs q) - 48).toNat ws) else .inl (sk bs p)) else .inl (sk bs q)
theorem sp6_lo (c : Int) : -1 ≤ spM 6 c ∧ spM 6 c ≤ 3 := by
  have h4 : stL 6 = 4 := by decide +kernel
  have := idxF_lo (l := am_str.getD 6 []) (x := ii c) (stL 6) 0
  unfold spM
  omega
theorem pr2_len (f : Nat) (ws : List Nat) : (pr2 f ws).length = ws.length := by unfold pr2; rw [List.length_map]
theorem pr2_app (f : Nat) (a b : List Nat) : pr2 f (a ++ b) = pr2 f a ++ pr2 f b := by unfold pr2; rw [List.map_append]
section WC
variable {bs : List Int} {h0 h h1 : AH} {o : Nat}
theorem wyF_ok {ok : okB bs} : ∀ (k q : Nat) (ws : List Nat), q ≤ bs.length → ws.length + k = 8 → (∀ w ∈ ws, w ≤ 3) → (match wyF bs k q ws with
    | .inl e => e ≤ bs.length
    | .inr (p, ws') => p ≤ bs.length ∧ ws'.length ≤ 8 ∧ ∀ w ∈ ws', w ≤ 3)
  | 0, q, ws, hq, hl, hw => ⟨hq, by omega, hw⟩
  | k + 1, q, ws, hq, hl, hw => by
    have hk := sk_lo hq
    have h6 := sp6_lo (ch bs (sk bs q))
    unfold wyF
    by_cases e : spM 6 (ch bs (sk bs q)) = -1
    · rw [if_pos e]
      by_cases e2 : ws = []
      · rw [if_pos e2]; exact hk.2
      · rw [if_neg e2]; exact ⟨hk.2, by omega, hw⟩
    · rw [if_neg e]
      have hne : ch bs (sk bs q) ≠ -1 := fun z => e (by rw [z]; exact sp_m1 6 (by omega))
      have := ch_lt hne
      refine wyF_ok (ok := ok) k _ _ (by omega) (by rw [List.length_append]; simp; omega) (fun w hw' => ?_)
      rcases List.mem_append.mp hw' with z | z
      · exact hw w z
      · rw [List.mem_singleton.mp z]; omega
/-- the class, reading walks into o: at q, with ac read -/
def WX (bs : List Int) (h0 : AH) (o q : Nat) (ac : List (Nat × Nat)) (h : AH) : Prop := (∀ x, x ≠ 1 → x ≠ o → x ≠ o + 1 → h.1 x = h0.1 x) ∧ h.2 = h0.2 ∧ (∀ j, j ≠ 2 → h.1 1 j = h0.1 1 j) ∧ h.1 1 2 = ii q ∧ WalC ac o h
theorem WX.tp {q : Nat} {ac : List (Nat × Nat)} (X : WX bs h0 o q ac h) (ho : 70 ≤ o) (t : TP 1 1 2 ii h0 bs) : TP 1 1 2 ii h bs := ⟨by rw [X.2.2.1 1 (by omega)]; exact t.1, fun j hj => by rw [X.1 2 (by omega) (by omega) (by omega)]; exact t.2 j hj⟩
theorem WX.at {q p : Nat} {ac : List (Nat × Nat)} (X : WX bs h0 o q ac h) (ho : 70 ≤ o) : WX bs h0 o p ac (wI h 1 2 (ii p)) := by
  obtain ⟨x1, x2, x3, x4, x5⟩ := X
  refine ⟨fun x a b c => by rw [wI_ne a]; exact x1 x a b c, x2, fun j hj => by rw [wI_self, upd_ne hj]; exact x3 j hj, by rw [wI_self, upd_self], ?_⟩
  unfold WalC
  rw [wI_ne (by omega), wI_ne (by omega)]; exact x5
theorem C_wadd {q f w : Nat} {ac : List (Nat × Nat)} (X : WX bs h0 o q ac h) (ho : 70 ≤ o) (hl : ac.length < 64) {z : Int} (hz : z = 48 + f) : ∃ h1, f_Walks_add o (ii z - ii 48) (ii w) h = some h1 ∧ WX bs h0 o q (ac ++ [(f, w)]) h1 := by
  obtain ⟨x1, x2, x3, x4, x5, x6⟩ := X
  have ev : (ii z - ii 48) * ii 4 + ii w = ii ((4 * f + w : Nat) : Int) := by rw [ii_sub, ii_mul, ii_add]; congr 1; omega
  unfold f_Walks_add
  rw [ev]
  have e5 : (wI h (o + 1) ac.length (ii ((4 * f + w : Nat) : Int))).1 o 1 = ii ac.length := by rw [wI_ne (by omega)]; exact x5
  simp (disch := omega) only [Option.bind_some, if_true, if_false, not_true_eq_false, not_false_eq_true, z0, ii_add, ii_sub, ii_mul, ifLeT, ifLeF, ifLtT, ifLtF, ifEqT, ifEqF, ifNeT, ifNeF, ifIn, nixZ, ii_i64, o0, o1, isInT, isInF, tn14, tn12, tn2, tn21, tn47, tn48, tn49, tn471, tn472, Int.reduceToNat, Int.toNat_natCast, Int.reduceAdd, Int.reduceSub, Int.reduceMul, Int.reduceNeg, Nat.reduceAdd, Nat.reduceSub, Nat.reduceMul, x5, e5]
  refine ⟨_, rfl, fun x a b c => by rw [wI_ne b, wI_ne c]; exact x1 x a b c, x2, fun j hj => by rw [wI_ne (by omega), wI_ne (by omega)]; exact x3 j hj, by rw [wI_ne (by omega), wI_ne (by omega)]; exact x4, ?_, fun j hj => ?_⟩
  · rw [wI_self, upd_self, List.length_append]; rfl
  · rw [wI_ne (by omega), wI_self]
    rw [List.length_append] at hj
    by_cases e : j = ac.length
    · rw [e, upd_self, gd_last]; rfl
    · have : j < ac.length := by simp at hj; omega
      rw [upd_ne e, x6 j this, gd_app this]
theorem C_wys (ok : okB bs) (t : TP 1 1 2 ii h0 bs) (ho : 70 ≤ o) (e9 : h0.2.2 9 0 = o) {f : Nat} {c : Int} (hc : c = 48 + f) {ac : List (Nat × Nat)} (hac : ac.length + 8 ≤ 64) : ∀ (k q : Nat) (ws : List Nat) (n : Nat) (h : AH), q ≤ bs.length → ws.length + k = 8 → k < n → WX bs h0 o q (ac ++ pr2 f ws) h → (match wyF bs k q ws with
    | .inl e => ∃ h1 A, WR_readStretch_L31 n (ii c) (ii ws.length) h = some (ii 0, h1) ∧ WX bs h0 o e A h1
    | .inr (p, ws') => ∃ h1, WR_readStretch_L31 n (ii c) (ii ws.length) h = some (ii 1, h1) ∧ WX bs h0 o p (ac ++ pr2 f ws') h1)
  | 0, q, ws, n + 1, h, hq, hl, hn, X => by
    unfold wyF
    have : ws.length = 8 := by omega
    rw [this]
    simp (disch := omega) only [Option.bind_some, if_true, if_false, not_true_eq_false, not_false_eq_true, z0, ii_add, ii_sub, ii_mul, ifLeT, ifLeF, ifLtT, ifLtF, ifEqT, ifEqF, ifNeT, ifNeF, ifIn, nixZ, ii_i64, o0, o1, isInT, isInF, tn14, tn12, tn2, tn21, tn47, tn48, tn49, tn471, tn472, Int.reduceToNat, Int.toNat_natCast, Int.reduceAdd, Int.reduceSub, Int.reduceMul, Int.reduceNeg, Nat.reduceAdd, Nat.reduceSub, Nat.reduceMul, WR_readStretch_L31, WR_readStretch_L31_b, Int.cast_ofNat_Int]
    exact ⟨h, rfl, X⟩
  | k + 1, q, ws, n + 1, h, hq, hl, hn, X => by
    have hk := sk_lo hq
    have h6 := sp6_lo (ch bs (sk bs q))
    have e1 := C_pk ok (X.tp ho t) X.2.2.2.1 hq
    have X1 := X.at (p := sk bs q) ho
    have e2 := C_place (h := wI h 1 2 (ii (sk bs q))) (o := 6) (by omega) (c := ch bs (sk bs q)) (by have := ch_lo ok (sk bs q); omega)
    unfold wyF
    by_cases e : spM 6 (ch bs (sk bs q)) = -1
    · rw [if_pos e]
      rw [e] at e2
      by_cases e3 : ws = []
      · rw [if_pos e3, e3]
        simp (disch := omega) only [Option.bind_some, if_true, if_false, not_true_eq_false, not_false_eq_true, z0, ii_add, ii_sub, ii_mul, ifLeT, ifLeF, ifLtT, ifLtF, ifEqT, ifEqF, ifNeT, ifNeF, ifIn, nixZ, ii_i64, o0, o1, isInT, isInF, tn14, tn12, tn2, tn21, tn47, tn48, tn49, tn471, tn472, Int.reduceToNat, Int.toNat_natCast, Int.reduceAdd, Int.reduceSub, Int.reduceMul, Int.reduceNeg, Nat.reduceAdd, Nat.reduceSub, Nat.reduceMul, WR_readStretch_L31, WR_readStretch_L31_b, e1, e2, List.length_nil, Int.cast_ofNat_Int]
        exact ⟨_, _, rfl, X1⟩
      · rw [if_neg e3]
        have hl0 : 1 ≤ ws.length := by cases ws with
          | nil => exact absurd rfl e3
          | cons a b => simp
        simp (disch := omega) only [Option.bind_some, if_true, if_false, not_true_eq_false, not_false_eq_true, z0, ii_add, ii_sub, ii_mul, ifLeT, ifLeF, ifLtT, ifLtF, ifEqT, ifEqF, ifNeT, ifNeF, ifIn, nixZ, ii_i64, o0, o1, isInT, isInF, tn14, tn12, tn2, tn21, tn47, tn48, tn49, tn471, tn472, Int.reduceToNat, Int.toNat_natCast, Int.reduceAdd, Int.reduceSub, Int.reduceMul, Int.reduceNeg, Nat.reduceAdd, Nat.reduceSub, Nat.reduceMul, WR_readStretch_L31, WR_readStretch_L31_b, e1, e2]
        exact ⟨_, rfl, X1⟩
    · rw [if_neg e]
      have hne : ch bs (sk bs q) ≠ -1 := fun z => e (by rw [z]; exact sp_m1 6 (by omega))
      have hlt := ch_lt hne
      obtain ⟨w, hw⟩ := Int.eq_ofNat_of_zero_le (show 0 ≤ spM 6 (ch bs (sk bs q)) by omega)
      rw [hw] at e2 h6 ⊢
      rw [Int.toNat_natCast]
      obtain ⟨h2, e4, X2⟩ := C_wadd X1 ho (f := f) (w := w) (by rw [List.length_append, pr2_len]; omega) hc
      have e9' : (wI h 1 2 (ii (sk bs q))).2.2 9 0 = o := by rw [X1.2.1]; exact e9
      have X3 := X2.at (p := sk bs q + 1) ho
      rw [List.append_assoc, show [(f, w)] = pr2 f [w] from rfl, ← pr2_app] at X3
      have ih := C_wys ok t ho e9 hc hac k (sk bs q + 1) (ws ++ [w]) n _ (by omega) (by rw [List.length_append]; simp; omega) (by omega) X3
      have est : WR_readStretch_L31 (n + 1) (ii c) (ii ws.length) h = WR_readStretch_L31 n (ii c) (ii (ws ++ [w]).length) (wI h2 1 2 (ii (sk bs q + 1 : Nat))) := by
        have e5 := X2.2.2.2.1
        show WR_readStretch_L31_b _ _ _ _ = _
        unfold WR_readStretch_L31_b
        rw [if_neg (by rw [ii_le (by omega) (by omega) (by omega) (by omega)]; omega), bind_eq e1]
        simp only
        rw [bind_eq e2, if_pos (by rw [z0, ii_le (by omega) (by omega) (by omega) (by omega)]; omega), e9', bind_eq e4, e5, ii_sc, ii_sc, List.length_append]
        rfl
      rw [est]
      exact ih
/-- one stretch -/
theorem C_st1 (ok : okB bs) (t : TP 1 1 2 ii h0 bs) (ho : 70 ≤ o) (e9 : h0.2.2 9 0 = o) {ac : List (Nat × Nat)} (hac : ac.length + 8 ≤ 64) {q : Nat} (hq : q ≤ bs.length) (X : WX bs h0 o q ac h) : if 48 ≤ ch bs (sk bs q) ∧ ch bs (sk bs q) ≤ 57 then (match wyF bs 8 (sk bs q + 1) [] with
    | .inl e => ∃ h1 A, f_WR_readStretch h = some (ii 0, h1) ∧ WX bs h0 o e A h1
    | .inr (p, ws') => ∃ h1, f_WR_readStretch h = some (ii 1, h1) ∧ WX bs h0 o p (ac ++ pr2 (ch bs (sk bs q) - 48).toNat ws') h1) else ∃ h1 A, f_WR_readStretch h = some (ii 0, h1) ∧ WX bs h0 o (sk bs q) A h1 := by
  have hFU := fu_1000
  have hk := sk_lo hq
  have e1 := C_pk ok (X.tp ho t) X.2.2.2.1 hq
  have hc := ch_lo ok (sk bs q)
  have X1 := X.at (p := sk bs q) ho
  have e5 : (wI h 1 2 (ii (sk bs q))).1 1 2 = ii (sk bs q) := X1.2.2.2.1
  by_cases q1 : 48 ≤ ch bs (sk bs q) ∧ ch bs (sk bs q) ≤ 57
  · rw [if_pos q1]
    have hlt : sk bs q < bs.length := ch_lt (by omega)
    have X2 := X1.at (p := sk bs q + 1) ho
    rw [show ac = ac ++ pr2 (ch bs (sk bs q) - 48).toNat [] by simp [pr2]] at X2
    have := C_wys ok t ho e9 (f := (ch bs (sk bs q) - 48).toNat) (c := ch bs (sk bs q)) (by omega) hac 8 (sk bs q + 1) [] FU _ (by omega) (by simp) (show 8 < FU by omega) X2
    have est : f_WR_readStretch h = WR_readStretch_L31 FU (ii (ch bs (sk bs q))) (ii (([] : List Nat).length : Int)) (wI (wI h 1 2 (ii (sk bs q))) 1 2 (ii (sk bs q + 1 : Nat))) := by
      have e0 : (([] : List Nat).length : Int) = 0 := rfl
      unfold f_WR_readStretch
      generalize FU = F at *
      rw [bind_eq e1, e0]
      simp only
      rw [if_neg (by rw [ii_lt (by omega) (by omega) (by omega) (by omega)]; omega), if_pos (by rw [ii_le (by omega) (by omega) (by omega) (by omega)]; omega), e5, ii_sc]
    rw [est]
    exact this
  · rw [if_neg q1]
    refine ⟨_, _, ?_, X1⟩
    unfold f_WR_readStretch
    rw [bind_eq e1]
    simp only
    by_cases q2 : ch bs (sk bs q) < 48
    · rw [if_pos (by rw [ii_lt (by omega) (by omega) (by omega) (by omega)]; omega)]
    · rw [if_neg (by rw [ii_lt (by omega) (by omega) (by omega) (by omega)]; omega), if_neg (by rw [ii_le (by omega) (by omega) (by omega) (by omega)]; omega)]
end WC
