/-! the class reads a heath: numbers, items -/
section HC
variable {bs : List Int} {H : Nat → Int} {h h0 h1 : AH} {m : Nat}
theorem nu_nm {a : Nat} : nuF bs 2 4 0 0 a = match nm2 bs a with
    | .inl e => .inl e
    | .inr (q, v) => .inr (q, [v]) := by
  unfold nm2
  simp only [nuF]
  by_cases q1 : 48 ≤ ch bs a ∧ ch bs a ≤ 57
  · rw [if_pos q1, if_pos q1, if_neg (by decide)]
    by_cases q2 : 48 ≤ ch bs (a + 1) ∧ ch bs (a + 1) ≤ 57
    · rw [if_pos q2, if_pos q2, if_neg (by decide)]
      by_cases q3 : 48 ≤ ch bs (a + 2) ∧ ch bs (a + 2) ≤ 57
      · rw [if_pos q3, if_pos (show 48 ≤ ch bs (a + 1 + 1) ∧ ch bs (a + 1 + 1) ≤ 57 from q3)]; rfl
      · rw [if_neg q3, if_neg (show ¬ (48 ≤ ch bs (a + 1 + 1) ∧ ch bs (a + 1 + 1) ≤ 57) from q3), if_neg (by decide), Int.zero_mul, Int.zero_add]
    · rw [if_neg q2, if_neg q2, if_neg (by decide), Int.zero_mul, Int.zero_add]
  · rw [if_neg q1, if_neg q1, if_pos trivial]
def HF0 (h0 : AH) (q : Nat) (h : AH) : Prop := (∀ x, x ≠ 1 → x ≠ 4 → x ≠ 5 → x ≠ 6 → x ≠ 7 → h.1 x = h0.1 x) ∧ h.2 = h0.2 ∧ (∀ j, j ≠ 2 → h.1 1 j = h0.1 1 j) ∧ h.1 1 2 = ii q
def TBi (H : Nat → Int) (h : AH) : Prop := (∀ κ, κ < 5 → h.1 4 κ = ii (H (ciM κ))) ∧ ∀ κ n w, κ < 5 → vld H κ n → w < niM κ → h.1 5 (36 * κ + 6 * n + w) = ii (H (hbM κ n + w))
def TBk (m : Nat) (H : Nat → Int) (h : AH) : Prop := ∀ v, v < m → h.1 7 v = ii (H (10 + 13 * v + 3)) ∧ ∀ k : Nat, (k : Int) < H (10 + 13 * v + 3) → h.1 6 (8 * v + k) = ii (H (10 + 13 * v + 4 + k))
def HXc (h0 : AH) (q : Nat) (H : Nat → Int) (m : Nat) (h : AH) : Prop := HF0 h0 q h ∧ TBi H h ∧ TBk m H h
theorem HF0.tp {q : Nat} (X : HF0 h0 q h) (t : TP 1 1 2 ii h0 bs) : TP 1 1 2 ii h bs := ⟨by rw [X.2.2.1 1 (by omega)]; exact t.1, fun j hj => by rw [X.1 2 (by omega) (by omega) (by omega) (by omega) (by omega)]; exact t.2 j hj⟩
theorem HF0.at {q p : Nat} (X : HF0 h0 q h) : HF0 h0 p (wI h 1 2 (ii p)) := ⟨fun x a b c d e => by rw [wI_ne a]; exact X.1 x a b c d e, X.2.1, fun j hj => by rw [wI_self, upd_ne hj]; exact X.2.2.1 j hj, by rw [wI_self, upd_self]⟩
theorem HF0.w {q o j : Nat} {v : Int32} (X : HF0 h0 q h) (ho : o = 4 ∨ o = 5 ∨ o = 6 ∨ o = 7) : HF0 h0 q (wI h o j v) := ⟨fun x a b c d e => by rw [wI_ne (by omega)]; exact X.1 x a b c d e, X.2.1, fun j hj => by rw [wI_ne (by omega)]; exact X.2.2.1 j hj, by rw [wI_ne (by omega)]; exact X.2.2.2⟩
theorem HXc.at {q p : Nat} (X : HXc h0 q H m h) : HXc h0 p H m (wI h 1 2 (ii p)) := by
  obtain ⟨x1, x2, x3⟩ := X
  refine ⟨x1.at, ?_, ?_⟩
  · unfold TBi; rw [wI_ne (by decide), wI_ne (by decide)]; exact x2
  · unfold TBk; rw [wI_ne (by decide), wI_ne (by decide)]; exact x3
theorem C_set {κ n w : Nat} {v : Int32} (hk : κ < 5) (hn : n < 6) (hw : w < 6) : f_HR_setItem (ii κ) (ii n) (ii w) v h = some (wI h 5 (36 * κ + 6 * n + w) v) := by
  unfold f_HR_setItem
  have t1 : (((κ : Int) * 6 + n) * 6 + w).toNat = 36 * κ + 6 * n + w := by omega
  simp (disch := omega) only [Option.bind_some, if_true, if_false, not_true_eq_false, not_false_eq_true, z0, ii_add, ii_sub, ii_mul, ifLeT, ifLeF, ifLtT, ifLtF, ifEqT, ifEqF, ifNeT, ifNeF, ifIn, nixZ, ii_i64, o0, o1, isInT, isInF, tn14, tn12, tn2, tn21, tn47, tn48, tn49, tn471, tn472, Int.reduceToNat, Int.toNat_natCast, Int.reduceAdd, Int.reduceSub, Int.reduceMul, Int.reduceNeg, Nat.reduceAdd, Nat.reduceSub, Nat.reduceMul, t1]
theorem sta_n : taL 0 = 5 ∧ taL 1 = 30 ∧ taL 2 = 30 ∧ taL 3 = 30 := by decide +kernel
theorem TBi.up {κ n w : Nat} {v : Int} (T : TBi H h) (hp : HP H m) (hk : κ < 5) (hv : vld H κ n) (hw : w < niM κ) : TBi (upz H (hbM κ n + w) v) (wI h 5 (36 * κ + 6 * n + w) (ii v)) := by
  have hn := vld_lt hp hk hv
  have hni := ni_le hk
  refine ⟨fun κ' h' => ?_, fun κ' n' w' h1 h2 h3 => ?_⟩
  · rw [wI_ne (by decide), upz_n (Ne.symm (hb_ci hk h' hn hw))]; exact T.1 κ' h'
  · have h2' := (upz_vld hk h1 hn hw).mp h2
    have hn' := vld_lt hp h1 h2'
    have hni' := ni_le h1
    rw [wI_self]
    by_cases e : hbM κ' n' + w' = hbM κ n + w
    · obtain ⟨e1, e2, e3⟩ := hb_inj h1 hk hn' hn h3 hw e
      subst e1; subst e2; subst e3
      rw [upd_self, upz_s]
    · rw [upz_n e, upd_ne]
      · exact T.2 κ' n' w' h1 h2' h3
      · intro z
        have e1 : κ' = κ := by omega
        subst e1
        have e2 : n' = n := by omega
        subst e2
        have e3 : w' = w := by omega
        subst e3
        exact e rfl
theorem TBk.up {κ n w : Nat} {v : Int} {x : Int32} {j : Nat} (T : TBk m H h) (hp : HP H m) (hm : m ≤ 4) (hk : κ < 5) (hv : vld H κ n) (hw : w < niM κ) : TBk m (upz H (hbM κ n + w) v) (wI h 5 j x) := by
  have hn := vld_lt hp hk hv
  intro u hu
  have hc3 : ∀ k, k < 10 → upz H (hbM κ n + w) v (10 + 13 * u + 3 + k) = H (10 + 13 * u + 3 + k) := fun k hk' => upz_n (Ne.symm (hb_co hk hn hw (by omega) hk'))
  have e0 := hc3 0 (by omega)
  rw [Nat.add_zero] at e0
  have hr := hp.2.2 u hu
  rw [e0, wI_ne (by decide), wI_ne (by decide)]
  refine ⟨(T u hu).1, fun k hk' => ?_⟩
  rw [show 10 + 13 * u + 4 + k = 10 + 13 * u + 3 + (k + 1) by omega, hc3 (k + 1) (by omega), show 10 + 13 * u + 3 + (k + 1) = 10 + 13 * u + 4 + k by omega]
  exact (T u hu).2 k hk'
theorem C_rnum (ok : okB bs) (t : TP 1 1 2 ii h0 bs) (hm : m ≤ 4) {κ n w q : Nat} (hq : q ≤ bs.length) (X : HXc h0 q H m h) (hp : HP H m) (hk : κ < 5) (hv : vld H κ n) (hw : w < niM κ) : match nmF bs κ w q with
    | .inl e => ∃ h1, f_HR_readNumber (ii κ) (ii n) (ii w) h = some (ii 0, h1) ∧ HF0 h0 e h1
    | .inr (p, v) => ∃ h1, f_HR_readNumber (ii κ) (ii n) (ii w) h = some (ii 1, h1) ∧ HXc h0 p (upz H (hbM κ n + w) v) m h1 := by
  have hs := sk_lo hq
  have hl := ok.1
  have hn := vld_lt hp hk hv
  have hni := ni_le hk
  have hmo := mo_ok κ hk w hw
  have e1 := C_pk ok (X.1.tp t) X.1.2.2.2 hq
  have X1 := X.at (p := sk bs q)
  have e2 := C_num ok (X1.1.tp t) X1.1.2.2.2 hs.2 (most := 2) (by omega)
  have hno := nm2_ok ok hs.2
  have hst := sta_n
  rw [nu_nm] at e2
  have e2' : f_Tape_number (ii 2) (wI h 1 2 (ii (sk bs q))) = _ := e2
  unfold nmF f_HR_readNumber
  have t6 : ((κ : Int) * 6 + w).toNat = 6 * κ + w := by omega
  have i1 : inb (ii ((κ : Int) * 6 + w)) 30 = true := by rw [ii_inb (by omega) (by omega)]; simp; omega
  have n1 : (ii ((κ : Int) * 6 + w)).toNatClampNeg = 6 * κ + w := by rw [ii_nat (by omega) (by omega), t6]
  have l0 : ¬ ii ((κ : Int) * 6 + w) < 0 := by rw [z0, ii_lt (by omega) (by omega) (by omega) (by omega)]; omega
  have l30 : ¬ ii ((30 : Nat) : Int) ≤ ii ((κ : Int) * 6 + w) := by rw [ii_le (by omega) (by omega) (by omega) (by omega)]; omega
  rw [bind_eq e1]
  simp only
  generalize nm2 bs (sk bs q) = r at *
  rcases r with e | ⟨p, v⟩
  · simp only at e2' hno ⊢
    refine ⟨_, ?_, X1.1.at (p := e)⟩
    rw [bind_eq e2']
    rfl
  · simp only at e2' hno ⊢
    have X2 := X1.at (p := p)
    have e3 : (wI (wI h 1 2 (ii (sk bs q))) 1 2 (ii p)).1 1 2 = ii p := X2.1.2.2.2
    have eg : ([v] : List Int).getD 0 0 = v := rfl
    rw [eg] at e2'
    rw [bind_eq e2']
    simp only
    have ep : ii (p : Int) - ii 1 = ii ((p - 1 : Nat) : Int) := by rw [ii_sub]; congr 1; omega
    rw [if_neg (show ¬ ii v = ii (-1) by rw [ii_eq (by omega) (by omega) (by omega) (by omega)]; omega), ii_mul, ii_add, if_neg l0, hst.2.2.1, if_neg l30, hst.2.1, if_neg l30, if_pos i1, n1, e3, ep]
    show match (if leM κ w ≤ v ∧ v ≤ moM κ w then Sum.inr (p, v) else Sum.inl (p - 1) : Nat ⊕ (Nat × Int)) with
      | .inl e => _
      | .inr (p, v) => _
    have eL : (am_sta.getD 1 []).getD (6 * κ + w) 0 = leM κ w := rfl
    have eM : (am_sta.getD 2 []).getD (6 * κ + w) 0 = moM κ w := rfl
    rw [eL, eM]
    by_cases z1 : leM κ w ≤ v
    · rw [if_neg (show ¬ ii v < ii (leM κ w) by rw [ii_lt (by omega) (by omega) (by omega) (by omega)]; omega)]
      by_cases z2 : v ≤ moM κ w
      · rw [if_pos ⟨z1, z2⟩, if_pos i1, if_pos (show ii v ≤ ii (moM κ w) by rw [ii_le (by omega) (by omega) (by omega) (by omega)]; omega), bind_eq (C_set hk (by omega) (by omega))]
        exact ⟨_, rfl, X2.1.w (by decide), X2.2.1.up hp hk hv hw, X2.2.2.up hp hm hk hv hw⟩
      · rw [if_neg (fun z => z2 z.2), if_pos i1, if_neg (show ¬ ii v ≤ ii (moM κ w) by rw [ii_le (by omega) (by omega) (by omega) (by omega)]; omega)]
        exact ⟨_, rfl, X2.1.at⟩
    · rw [if_neg (fun z => z1 z.1), if_pos (show ii v < ii (leM κ w) by rw [ii_lt (by omega) (by omega) (by omega) (by omega)]; omega)]
      exact ⟨_, rfl, X2.1.at⟩
end HC
