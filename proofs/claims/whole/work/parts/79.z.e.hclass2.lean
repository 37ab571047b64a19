/-! the class reads a heath: clauses -/
section HE2
variable {bs : List Int} {H : Nat → Int} {h h0 h1 : AH} {m : Nat}
theorem C_its (ok : okB bs) (t : TP 1 1 2 ii h0 bs) (hm : m ≤ 4) {κ n : Nat} (hk : κ < 5) : ∀ (k : Nat) (s : Nat → Bool) (q : Nat) (H : Nat → Int) (x : Int32) (i nn : Nat) (h : AH), q ≤ bs.length → un s < k → un s < nn → i + un s = 6 → (∀ j, j < 6 → tb x j = s j) → HP H m → vld H κ n → HXc h0 q H m h → match itF bs κ n k s q H with
    | .inl e => ∃ h1, HR_readItems_L12 nn (ii κ) (ii n) (κ + 1) x (ii i) h = some (ii 0, h1) ∧ HF0 h0 e h1
    | .inr (p, H') => ∃ h1, HR_readItems_L12 nn (ii κ) (ii n) (κ + 1) x (ii i) h = some (ii 1, h1) ∧ HXc h0 p H' m h1
  | 0, s, q, H, x, i, nn, h, hq, hu, hu2, hi, hx, hp, hv, X => by omega
  | k + 1, s, q, H, x, i, 0, h, hq, hu, hu2, hi, hx, hp, hv, X => by omega
  | k + 1, s, q, H, x, i, nn + 1, h, hq, hu, hu2, hi, hx, hp, hv, X => by
    have hs := sk_lo hq
    have hl := spi_lo hk (ch bs (sk bs q))
    have hn6 := ni_le hk
    have hn := vld_lt hp hk hv
    have e1 := C_pk ok (X.1.tp t) X.1.2.2.2 hq
    have X1 := X.at (p := sk bs q)
    have e2 := C_place (h := wI h 1 2 (ii (sk bs q))) (o := κ + 1) (by omega) (c := ch bs (sk bs q)) (by have := ch_lo ok (sk bs q); omega)
    have est : HR_readItems_L12 (nn + 1) (ii κ) (ii n) (κ + 1) x (ii i) h = if 0 ≤ ii (spM (κ + 1) (ch bs (sk bs q))) then (if (p_HF_holds x (ii (spM (κ + 1) (ch bs (sk bs q))))) = 0 then (f_HR_readNumber (ii κ) (ii n) (ii (spM (κ + 1) (ch bs (sk bs q)))) (wI (wI h 1 2 (ii (sk bs q))) 1 2 (ii (sk bs q + 1 : Nat)))).bind fun q3 => if q3.1 = 0 then some ((ii 0), q3.2) else HR_readItems_L12 nn (ii κ) (ii n) (κ + 1) (x ||| (p_HF_bit (ii (spM (κ + 1) (ch bs (sk bs q)))))) (ii (i + 1 : Nat)) q3.2 else some ((ii 0), (wI h 1 2 (ii (sk bs q))))) else some ((ii 1), (wI h 1 2 (ii (sk bs q)))) := by
      show HR_readItems_L12_b _ _ _ _ _ _ _ = _
      unfold HR_readItems_L12_b
      rw [if_neg (show ¬ ii 6 < ii i by rw [ii_lt (by omega) (by omega) (by omega) (by omega)]; omega), bind_eq e1]
      simp only
      rw [bind_eq e2, X1.1.2.2.2, ii_sc, ii_sc]
    rw [est]
    unfold itF
    by_cases q1 : spM (κ + 1) (ch bs (sk bs q)) = -1
    · rw [if_pos q1, q1, if_neg (by decide)]
      exact ⟨_, rfl, X1⟩
    · rw [if_neg q1]
      have hne : ch bs (sk bs q) ≠ -1 := fun z => q1 (by rw [z]; exact sp_m1 _ (by omega))
      have hlt := ch_lt hne
      obtain ⟨w, hw⟩ := Int.eq_ofNat_of_zero_le (show 0 ≤ spM (κ + 1) (ch bs (sk bs q)) by omega)
      rw [hw] at hl ⊢
      rw [Int.toNat_natCast, if_pos (show 0 ≤ ii (w : Int) by rw [z0, ii_le (by omega) (by omega) (by omega) (by omega)]; omega), C_holds x (by omega), hx w (by omega)]
      by_cases q2 : s w = true
      · rw [if_pos q2, if_pos q2, if_neg (show ¬ ii 1 = 0 by decide)]
        exact ⟨_, rfl, X1.1⟩
      · rw [if_neg q2, if_neg q2, if_pos i00]
        have q2' : s w = false := Bool.eq_false_iff.mpr q2
        have hwn : w < niM κ := by omega
        have X2 := X1.at (p := sk bs q + 1)
        have rn := C_rnum ok t hm (q := sk bs q + 1) (w := w) (by omega) X2 hp hk hv hwn
        have hnm := nmF_ok ok (κ := κ) (w := w) (p := sk bs q + 1) (by omega)
        generalize nmF bs κ w (sk bs q + 1) = r at *
        rcases r with e | ⟨p, v⟩
        · obtain ⟨h2, z1, z2⟩ := rn
          refine ⟨h2, ?_, z2⟩
          rw [bind_eq z1]; rfl
        · simp only at hnm ⊢
          obtain ⟨h2, z1, z2⟩ := rn
          have hu' := un_ad (s := s) (w := w) (by omega) q2'
          rw [bind_eq z1]
          simp only
          rw [if_neg (show ¬ ii 1 = 0 by decide), C_bit]
          refine C_its ok t hm hk k (ad1 s w) p (upz H (hbM κ n + w) v) (x ||| bitI w) (i + 1) nn h2 hnm.2.1 (by omega) (by omega) (by omega) (fun j hj => ?_) (hp.up hm hk hv hwn hnm.2.2.1 hnm.2.2.2) ((upz_vld hk hk hn hwn).mpr hv) z2
          rw [tb_or, tb_bit (by omega), hx j hj]
          rfl
theorem C_fill {κ n q : Nat} (hk : κ < 5) (hn : n < 6) (X : HF0 h0 q h) : ∃ h1, f_HR_fillWithout (ii κ) (ii n) h = some h1 ∧ HF0 h0 q h1 ∧ (∀ x, x ≠ 5 → h1.1 x = h.1 x) ∧ (∀ w, w < 6 → h1.1 5 (36 * κ + 6 * n + w) = ii (usM κ w)) ∧ ∀ j, (j < 36 * κ + 6 * n ∨ 36 * κ + 6 * n + 6 ≤ j) → h1.1 5 j = h.1 5 j := by
  have hst := sta_n
  unfold f_HR_fillWithout
  refine lup (fun u k (x : AH) => HR_fillWithout_L2 u (ii κ) (ii n) (ii k) x) 6 (fun k x => HF0 h0 q x ∧ (∀ z, z ≠ 5 → x.1 z = h.1 z) ∧ (∀ w, w < k → x.1 5 (36 * κ + 6 * n + w) = ii (usM κ w)) ∧ ∀ j, (j < 36 * κ + 6 * n ∨ 36 * κ + 6 * n + 6 ≤ j) → x.1 5 j = h.1 5 j) (fun y => ∃ h1, y = some h1 ∧ HF0 h0 q h1 ∧ (∀ x, x ≠ 5 → h1.1 x = h.1 x) ∧ (∀ w, w < 6 → h1.1 5 (36 * κ + 6 * n + w) = ii (usM κ w)) ∧ ∀ j, (j < 36 * κ + 6 * n ∨ 36 * κ + 6 * n + 6 ≤ j) → h1.1 5 j = h.1 5 j) ?_ ?_ 6 0 FU h (by omega) (by unfold FU; omega) ⟨X, fun _ _ => rfl, fun w hw => by omega, fun _ _ => rfl⟩
  · rintro u x ⟨r1, r2, r3, r4⟩
    refine ⟨x, ?_, r1, r2, r3, r4⟩
    simp (disch := omega) only [Option.bind_some, if_true, if_false, not_true_eq_false, not_false_eq_true, z0, ii_add, ii_sub, ii_mul, ifLeT, ifLeF, ifLtT, ifLtF, ifEqT, ifEqF, ifNeT, ifNeF, ifIn, nixZ, ii_i64, o0, o1, isInT, isInF, tn14, tn12, tn2, tn21, tn47, tn48, tn49, tn471, tn472, Int.reduceToNat, Int.toNat_natCast, Int.reduceAdd, Int.reduceSub, Int.reduceMul, Int.reduceNeg, Nat.reduceAdd, Nat.reduceSub, Nat.reduceMul, HR_fillWithout_L2, HR_fillWithout_L2_b, Int.cast_ofNat_Int]
  · rintro u k x hk' ⟨r1, r2, r3, r4⟩
    right
    have t6 : ((κ : Int) * 6 + k).toNat = 6 * κ + k := by omega
    have eU : (am_sta.getD 3 []).getD (6 * κ + k) 0 = usM κ k := rfl
    refine ⟨wI x 5 (36 * κ + 6 * n + k) (ii (usM κ k)), ?_, r1.w (by decide), fun z hz => by rw [wI_ne hz]; exact r2 z hz, fun w hw => ?_, fun j hj => by rw [wI_self, upd_ne (by omega)]; exact r4 j hj⟩
    · show HR_fillWithout_L2_b _ _ _ _ _ = _
      unfold HR_fillWithout_L2_b
      rw [if_neg (by rw [ii_le (by omega) (by omega) (by omega) (by omega)]; omega), ii_mul, ii_add, hst.2.2.2, if_neg (by rw [z0, ii_lt (by omega) (by omega) (by omega) (by omega)]; omega), if_neg (by rw [ii_le (by omega) (by omega) (by omega) (by omega)]; omega), if_pos (by rw [ii_inb (by omega) (by omega)]; simp; omega), ii_nat (by omega) (by omega), t6, eU, bind_eq (C_set hk hn hk'), Option.bind_some, ii_sc]
    · rw [wI_self]
      by_cases e : w = k
      · rw [e, upd_self]
      · rw [upd_ne (by omega)]; exact r3 w (by omega)
/-- a clause begun -/
theorem C_beg {κ n q : Nat} (X : HXc h0 q H m h) (hp : HP H m) (hm : m ≤ 4) (hk : κ < 5) (hn : n < cpM κ) (e : H (ciM κ) = n) : ∃ h1, f_HR_fillWithout (ii κ) (ii n) (wI h 4 κ (ii (n + 1 : Nat))) = some h1 ∧ HXc h0 q (beg H κ n) m h1 := by
  have hni := ni_le hk
  obtain ⟨h1, z1, z2, z3, z4, z5⟩ := C_fill (n := n) hk (by omega) (X.1.w (o := 4) (j := κ) (v := ii (n + 1 : Nat)) (by decide))
  refine ⟨h1, z1, z2, ⟨fun κ' h' => ?_, fun κ' n' w' a1 a2 a3 => ?_⟩, fun u hu => ?_⟩
  · rw [z3 4 (by decide), wI_self, beg_ci hk h' hn]
    by_cases z : κ' = κ
    · rw [if_pos z, z, upd_self]; rfl
    · rw [if_neg z, upd_ne z]; exact X.2.1.1 κ' h'
  · rw [beg_vld hk a1 hn e] at a2
    have hni' := ni_le a1
    by_cases z : κ = κ' ∧ n = n'
    · obtain ⟨y1, y2⟩ := z
      subst y1; subst y2
      rw [beg_in a3]; exact z4 w' (by omega)
    · have a2' : vld H κ' n' := by
        rcases a2 with a | a
        · exact a
        · exact absurd ⟨a.1.symm, a.2.symm⟩ z
      have hn' := vld_lt hp a1 a2'
      rw [beg_ne hk a1 hn hn' a3 z, z5, wI_ne (by decide)]
      · exact X.2.1.2 κ' n' w' a1 a2' a3
      · by_cases y : κ = κ'
        · subst y
          have : n ≠ n' := fun y2 => z ⟨rfl, y2⟩
          omega
        · omega
  · have hc3 : ∀ k, k < 10 → beg H κ n (10 + 13 * u + 3 + k) = H (10 + 13 * u + 3 + k) := fun k hk' => beg_co hk hn (by omega) hk'
    have e0 := hc3 0 (by omega)
    rw [Nat.add_zero] at e0
    have hr := hp.2.2 u hu
    rw [e0, z3 7 (by decide), z3 6 (by decide), wI_ne (by decide), wI_ne (by decide)]
    refine ⟨(X.2.2 u hu).1, fun k hk' => ?_⟩
    rw [show 10 + 13 * u + 4 + k = 10 + 13 * u + 3 + (k + 1) by omega, hc3 (k + 1) (by omega), show 10 + 13 * u + 3 + (k + 1) = 10 + 13 * u + 4 + k by omega]
    exact (X.2.2 u hu).2 k hk'
/-- a vein's course -/
theorem C_cos (ok : okB bs) (t : TP 1 1 2 ii h0 bs) {v : Nat} (hv : v < 4) (hp : HP H v) : ∀ (k q : Nat) (ws : List Nat) (n : Nat) (h : AH), q ≤ bs.length → ws.length + k = 8 → k < n → (∀ w ∈ ws, w ≤ 3) → HXc h0 q (wfi H v ws) (v + 1) h → (match wyF bs k q ws with
    | .inl e => ∃ h1, HR_readCourse_L31 n (ii v) (ii ws.length) h = some (ii 0, h1) ∧ HF0 h0 e h1
    | .inr (p, ws') => ∃ h1, HR_readCourse_L31 n (ii v) (ii ws.length) h = some (ii 1, h1) ∧ HXc h0 p (wfi H v ws') (v + 1) h1)
  | 0, q, ws, n + 1, h, hq, hl, hn, hw, X => by
    unfold wyF
    have : ws.length = 8 := by omega
    rw [this]
    refine ⟨h, ?_, X⟩
    simp (disch := omega) only [Option.bind_some, if_true, if_false, not_true_eq_false, not_false_eq_true, z0, ii_add, ii_sub, ii_mul, ifLeT, ifLeF, ifLtT, ifLtF, ifEqT, ifEqF, ifNeT, ifNeF, ifIn, nixZ, ii_i64, o0, o1, isInT, isInF, tn14, tn12, tn2, tn21, tn47, tn48, tn49, tn471, tn472, Int.reduceToNat, Int.toNat_natCast, Int.reduceAdd, Int.reduceSub, Int.reduceMul, Int.reduceNeg, Nat.reduceAdd, Nat.reduceSub, Nat.reduceMul, HR_readCourse_L31, HR_readCourse_L31_b, Int.cast_ofNat_Int]
  | k + 1, q, ws, n + 1, h, hq, hl, hn, hw, X => by
    have hk := sk_lo hq
    have h6 := sp6_lo (ch bs (sk bs q))
    have e1 := C_pk ok (X.1.tp t) X.1.2.2.2 hq
    have X1 := X.at (p := sk bs q)
    have e2 := C_place (h := wI h 1 2 (ii (sk bs q))) (o := 6) (by omega) (c := ch bs (sk bs q)) (by have := ch_lo ok (sk bs q); omega)
    unfold wyF
    by_cases e : spM 6 (ch bs (sk bs q)) = -1
    · rw [if_pos e]
      rw [e] at e2
      by_cases e3 : ws = []
      · rw [if_pos e3, e3]
        refine ⟨_, ?_, X1.1⟩
        simp (disch := omega) only [Option.bind_some, if_true, if_false, not_true_eq_false, not_false_eq_true, z0, ii_add, ii_sub, ii_mul, ifLeT, ifLeF, ifLtT, ifLtF, ifEqT, ifEqF, ifNeT, ifNeF, ifIn, nixZ, ii_i64, o0, o1, isInT, isInF, tn14, tn12, tn2, tn21, tn47, tn48, tn49, tn471, tn472, Int.reduceToNat, Int.toNat_natCast, Int.reduceAdd, Int.reduceSub, Int.reduceMul, Int.reduceNeg, Nat.reduceAdd, Nat.reduceSub, Nat.reduceMul, HR_readCourse_L31, HR_readCourse_L31_b, e1, e2, List.length_nil, Int.cast_ofNat_Int]
      · rw [if_neg e3]
        have hl0 : 1 ≤ ws.length := by cases ws with
          | nil => exact absurd rfl e3
          | cons a b => simp
        refine ⟨_, ?_, X1⟩
        simp (disch := omega) only [Option.bind_some, if_true, if_false, not_true_eq_false, not_false_eq_true, z0, ii_add, ii_sub, ii_mul, ifLeT, ifLeF, ifLtT, ifLtF, ifEqT, ifEqF, ifNeT, ifNeF, ifIn, nixZ, ii_i64, o0, o1, isInT, isInF, tn14, tn12, tn2, tn21, tn47, tn48, tn49, tn471, tn472, Int.reduceToNat, Int.toNat_natCast, Int.reduceAdd, Int.reduceSub, Int.reduceMul, Int.reduceNeg, Nat.reduceAdd, Nat.reduceSub, Nat.reduceMul, HR_readCourse_L31, HR_readCourse_L31_b, e1, e2]
    · rw [if_neg e]
      have hne : ch bs (sk bs q) ≠ -1 := fun z => e (by rw [z]; exact sp_m1 6 (by omega))
      have hlt := ch_lt hne
      obtain ⟨w, hw'⟩ := Int.eq_ofNat_of_zero_le (show 0 ≤ spM 6 (ch bs (sk bs q)) by omega)
      rw [hw'] at e2 h6 ⊢
      rw [Int.toNat_natCast]
      obtain ⟨hy, ehy⟩ : ∃ hy, hy = wI (wI (wI h 1 2 (ii (sk bs q))) 6 (8 * v + ws.length) (ii w)) 7 v (ii (ws.length + 1 : Nat)) := ⟨_, rfl⟩
      have hlw : (ws ++ [w]).length = ws.length + 1 := by rw [List.length_append]; rfl
      have Y : HXc h0 (sk bs q) (wfi H v (ws ++ [w])) (v + 1) hy := by
        rw [ehy]
        refine ⟨(X1.1.w (by decide)).w (by decide), ⟨fun κ' h' => ?_, fun κ' n' w' a1 a2 a3 => ?_⟩, fun u hu => ?_⟩
        · have := ci_lo h'
          rw [wI_ne (by decide), wI_ne (by decide), wf_n (by omega) (by omega), X1.2.1.1 κ' h', wf_n (by omega) (by omega)]
        · have ec := ci_lo a1
          have a2' : vld H κ' n' := by unfold vld at a2 ⊢; rw [wf_n (by omega) (by omega)] at a2; exact a2
          have a2'' : vld (wfi H v ws) κ' n' := by unfold vld; rw [wf_n (by omega) (by omega)]; exact a2'
          have hn' := vld_lt hp a1 a2'
          rw [wI_ne (by decide), wI_ne (by decide), wf_hb (by omega) a1 hn' a3 hv, X1.2.1.2 κ' n' w' a1 a2'' a3, wf_hb (by omega) a1 hn' a3 hv]
        · rw [wI_self, wI_ne (show 6 ≠ 7 by decide), wI_self]
          by_cases eu : u = v
          · subst eu
            rw [upd_self, wf_l, hlw]
            refine ⟨rfl, fun j hj => ?_⟩
            have hj' : j < (ws ++ [w]).length := by omega
            rw [wf_w hj']
            by_cases ej : j = ws.length
            · rw [ej, upd_self, gd_last]
            · rw [upd_ne (by omega), gd_app (by omega)]
              have := (X1.2.2 u hu).2 j (by rw [wf_l]; omega)
              rw [this, wf_w (by omega)]
          · have xu := X1.2.2 u hu
            have hpu := hp.2.2 u (by omega)
            rw [wf_n (by omega) (by omega)] at xu
            rw [upd_ne eu, wf_n (by omega) (by omega)]
            refine ⟨xu.1, fun j hj => ?_⟩
            have := xu.2 j hj
            rw [upd_ne (by omega), wf_n (by omega) (by omega), this, wf_n (by omega) (by omega)]
      have Y2 := Y.at (p := sk bs q + 1)
      have ih := C_cos ok t hv hp k (sk bs q + 1) (ws ++ [w]) n _ (by omega) (by omega) (by omega) (fun x hx => by
        rcases List.mem_append.mp hx with z | z
        · exact hw x z
        · rw [List.mem_singleton.mp z]; omega) Y2
      have est : HR_readCourse_L31 (n + 1) (ii v) (ii ws.length) h = HR_readCourse_L31 n (ii v) (ii (ws ++ [w]).length) (wI hy 1 2 (ii (sk bs q + 1 : Nat))) := by
        have e5 := Y.1.2.2.2
        show HR_readCourse_L31_b _ _ _ _ = _
        unfold HR_readCourse_L31_b
        have t8 : ((v : Int) * 8 + ws.length).toNat = 8 * v + ws.length := by omega
        have i8 : inb (ii ((v : Int) * 8 + ws.length)) 32 = true := by rw [ii_inb (by omega) (by omega)]; simp; omega
        have iv : inb (ii (v : Int)) 4 = true := by rw [ii_inb (by omega) (by omega)]; simp; omega
        rw [if_neg (by rw [ii_le (by omega) (by omega) (by omega) (by omega)]; omega), bind_eq e1]
        simp only
        rw [bind_eq e2, if_pos (show 0 ≤ ii (w : Int) by rw [z0, ii_le (by omega) (by omega) (by omega) (by omega)]; omega), ii_mul, ii_add, if_pos i8, if_pos iv, ii_nat (a := (v : Int) * 8 + ws.length) (by omega) (by omega), t8, ii_nat (a := (v : Int)) (by omega) (by omega), Int.toNat_natCast, ii_sc, ← ehy, e5, ii_sc, hlw]
      rw [est]
      exact ih
end HE2
