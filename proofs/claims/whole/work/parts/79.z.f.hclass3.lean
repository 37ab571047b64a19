/-! the class reads a heath: a clause, all clauses -/
section HE3
variable {bs : List Int} {H : Nat → Int} {h h0 h1 : AH} {m : Nat}
theorem C_course (ok : okB bs) (t : TP 1 1 2 ii h0 bs) {v q : Nat} (hv : v < 4) (hp : HP H v) (hq : q ≤ bs.length) (X : HXc h0 q H v h) : match coF bs v q H with
    | .inl e => ∃ h1, f_HR_readCourse (ii v) h = some (ii 0, h1) ∧ HF0 h0 e h1
    | .inr (p, H') => ∃ h1, f_HR_readCourse (ii v) h = some (ii 1, h1) ∧ HXc h0 p H' (v + 1) h1 := by
  have hFU := fu_1000
  have hs := sk_lo hq
  have X1 : HXc h0 q (wfi H v []) (v + 1) (wI h 7 v (ii 0)) := by
    refine ⟨X.1.w (by decide), ⟨fun κ' h' => ?_, fun κ' n' w' a1 a2 a3 => ?_⟩, fun u hu => ?_⟩
    · have := ci_lo h'
      rw [wI_ne (by decide), wf_n (by simp) (by omega)]; exact X.2.1.1 κ' h'
    · have ec := ci_lo a1
      have a2' : vld H κ' n' := by unfold vld at a2 ⊢; rw [wf_n (by simp) (by omega)] at a2; exact a2
      rw [wI_ne (by decide), wf_hb (by simp) a1 (vld_lt hp a1 a2') a3 hv]; exact X.2.1.2 κ' n' w' a1 a2' a3
    · rw [wI_self, wI_ne (show 6 ≠ 7 by decide)]
      by_cases eu : u = v
      · subst eu
        rw [upd_self, wf_l]
        exact ⟨rfl, fun j hj => absurd hj (by simp)⟩
      · have xu := X.2.2 u (by omega)
        have hpu := hp.2.2 u (by omega)
        rw [upd_ne eu, wf_n (by simp) (by omega)]
        refine ⟨xu.1, fun j hj => ?_⟩
        rw [wf_n (by simp) (by omega)]; exact xu.2 j hj
  have e1 := C_take ok (X1.1.tp t) X1.1.2.2.2 hq (c := 58) (by omega) (by omega)
  have est : f_HR_readCourse (ii v) h = (f_Tape_take (ii 58) (wI h 7 v (ii 0))).bind fun q1 => if q1.1 = 0 then some ((ii 1), q1.2) else HR_readCourse_L31 FU (ii v) (ii 0) q1.2 := by
    unfold f_HR_readCourse
    generalize FU = F at *
    rw [if_neg (by rw [z0, ii_lt (by omega) (by omega) (by omega) (by omega)]; omega), if_pos (by rw [ii_lt (by omega) (by omega) (by omega) (by omega)]; omega), if_pos (by rw [ii_inb (by omega) (by omega)]; simp; omega), ii_nat (by omega) (by omega), Int.toNat_natCast]
  rw [est]
  unfold coF
  by_cases q1 : ch bs (sk bs q) = 58
  · have hlt : sk bs q < bs.length := ch_lt (by omega)
    rw [if_pos q1] at e1 ⊢
    have key := C_cos ok t hv hp 8 (sk bs q + 1) [] FU _ (by omega) (by simp) (by omega) (by simp) (X1.at (p := sk bs q + 1))
    have e0 : (([] : List Nat).length : Int) = 0 := rfl
    rw [e0] at key
    rw [bind_eq e1]
    generalize wyF bs 8 (sk bs q + 1) [] = r at *
    rcases r with e | ⟨p, ws⟩
    · obtain ⟨h1, y1, y2⟩ := key
      exact ⟨h1, y1, y2⟩
    · obtain ⟨h1, y1, y2⟩ := key
      exact ⟨h1, y1, y2⟩
  · rw [if_neg q1] at e1 ⊢
    rw [bind_eq e1]
    exact ⟨_, rfl, X1.at⟩
theorem cp_ta : ∀ κ : Nat, κ < 5 → (am_sta.getD 0 []).getD κ 0 = cpM κ := by decide +kernel
theorem let_of : ∀ κ : Nat, κ < 5 → p_HR_lettersOf (ii κ) = κ + 1 := by decide +kernel
theorem C_clause (ok : okB bs) (t : TP 1 1 2 ii h0 bs) {q : Nat} (hq : q ≤ bs.length) (hp : HP H (H 4).toNat) (X : HXc h0 q H (H 4).toNat h) : match clF bs q H with
    | .inl e => ∃ h1, f_HR_readClause h = some (ii 0, h1) ∧ HF0 h0 e h1
    | .inr (p, H') => ∃ h1, f_HR_readClause h = some (ii 1, h1) ∧ HXc h0 p H' (H' 4).toNat h1 := by
  have hFU := fu_1000
  have hs := sk_lo hq
  have hl := sp0_lo (ch bs (sk bs q))
  have hst := sta_n
  have e1 := C_pk ok (X.1.tp t) X.1.2.2.2 hq
  have X1 := X.at (p := sk bs q)
  have e2 := C_place (h := wI h 1 2 (ii (sk bs q))) (o := 0) (by omega) (c := ch bs (sk bs q)) (by have := ch_lo ok (sk bs q); omega)
  unfold clF f_HR_readClause
  rw [bind_eq e1]
  simp only
  rw [bind_eq e2]
  by_cases q1 : spM 0 (ch bs (sk bs q)) = -1
  · rw [if_pos q1, q1, if_pos (by decide)]
    exact ⟨_, rfl, X1.1⟩
  · rw [if_neg q1]
    have hne : ch bs (sk bs q) ≠ -1 := fun z => q1 (by rw [z]; exact sp_m1 _ (by omega))
    have hlt := ch_lt hne
    obtain ⟨κ, hκ⟩ := Int.eq_ofNat_of_zero_le (show 0 ≤ spM 0 (ch bs (sk bs q)) by omega)
    rw [hκ] at hl ⊢
    rw [Int.toNat_natCast]
    have hk : κ < 5 := by omega
    have hni := ni_le hk
    obtain ⟨n, hn⟩ := Int.eq_ofNat_of_zero_le (hp.1 κ hk).1
    have hn2 := (hp.1 κ hk).2
    rw [hn] at hn2 ⊢
    have i5 : inb (ii (κ : Int)) 5 = true := by rw [ii_inb (by omega) (by omega)]; simp; omega
    have f4 : (wI h 1 2 (ii (sk bs q))).1 4 κ = ii n := by rw [X1.2.1.1 κ hk, hn]
    have X2 := X1.at (p := sk bs q + 1)
    have f4' : (wI (wI h 1 2 (ii (sk bs q))) 1 2 (ii (sk bs q + 1 : Nat))).1 4 κ = ii n := by rw [X2.2.1.1 κ hk, hn]
    rw [if_neg (show ¬ ii (κ : Int) < 0 by rw [z0, ii_lt (by omega) (by omega) (by omega) (by omega)]; omega), if_neg (show ¬ ii 5 ≤ ii (κ : Int) by rw [ii_le (by omega) (by omega) (by omega) (by omega)]; omega), if_pos i5, hst.1, if_pos i5, ii_nat (a := (κ : Int)) (by omega) (by omega), Int.toNat_natCast κ, Int.toNat_natCast n, f4, cp_ta κ hk, X1.1.2.2.2, ii_sc, f4', ii_sc]
    by_cases q2 : (n : Int) < cpM κ
    · have hnc : n < cpM κ := by omega
      have h4' : 0 ≤ H 4 ∧ H 4 ≤ 4 := hp.1 1 (by omega)
      obtain ⟨h2, y1, Y⟩ := C_beg X2 hp (by omega) hk hnc hn
      have hb := hp.bg (by omega) hk hnc hn
      have hvb : vld (beg H κ n) κ n := (beg_vld hk hk hnc hn).mpr (Or.inr ⟨rfl, rfl⟩)
      have its := C_its ok t (n := n) (m := (H 4).toNat) (by omega) hk 7 (fun _ => false) (sk bs q + 1) (beg H κ n) (ii 0) 0 FU h2 (by omega) (by decide) (by have : un (fun _ => false) = 6 := rfl; omega) (by decide) (fun j _ => tb_0 j) hb hvb Y
      have io := itF_ok ok (n := n) (m := (H 4).toNat) (by omega) hk 7 (fun _ => false) (sk bs q + 1) (beg H κ n) (by omega) (by decide) hb hvb
      have eri : f_HR_readItems (ii κ) (ii n) h2 = HR_readItems_L12 FU (ii κ) (ii n) (κ + 1) (ii 0) (ii ((0 : Nat) : Int)) h2 := by
        unfold f_HR_readItems
        generalize FU = F at *
        rw [let_of κ hk]; rfl
      rw [if_pos (show ii (n : Int) < ii (cpM κ : Int) by rw [ii_lt (by omega) (by omega) (by omega) (by omega)]; omega), if_pos q2, if_pos i5, if_pos i5, if_pos i5, bind_eq y1, eri]
      unfold clB
      generalize itF bs κ n 7 (fun _ => false) (sk bs q + 1) (beg H κ n) = r at *
      rcases r with e | ⟨p, H'⟩
      · obtain ⟨h3, u1, u2⟩ := its
        refine ⟨h3, ?_, u2⟩
        rw [bind_eq u1]; rfl
      · obtain ⟨h3, u1, u2⟩ := its
        simp only at io ⊢
        obtain ⟨j1, j2, j3, j4, j5, j6⟩ := io
        have e4 : H' 4 = beg H κ n 4 := j5 1 (by omega)
        have b4 : beg H κ n 4 = if 1 = κ then (n : Int) + 1 else H 4 := beg_ci (κ' := 1) hk (by omega) hnc
        rw [bind_eq u1]
        simp only
        rw [if_neg (show ¬ ii 1 = 0 by decide)]
        by_cases q3 : κ = 1
        · rw [if_pos q3, if_pos (show ii (κ : Int) = ii 1 by rw [q3]; rfl)]
          subst q3
          have hn4 : H 4 = n := hn
          have hnv : (H 4).toNat = n := by omega
          rw [hnv] at j4 u2
          have hn4' : n < 4 := hnc
          have co := C_course ok t (v := n) hn4' j4 j2 u2
          have cok := coF_ok ok (v := n) j2 j4 hn4'
          generalize coF bs n p H' = r2 at *
          rcases r2 with e | ⟨p2, H2⟩
          · obtain ⟨h4, w1, w2⟩ := co
            refine ⟨h4, ?_, w2⟩
            rw [bind_eq w1]; rfl
          · obtain ⟨h4, w1, w2⟩ := co
            simp only at cok ⊢
            have e42 : H2 4 = H' 4 := cok.2.2.2 1 (by omega)
            rw [if_pos rfl] at b4
            refine ⟨h4, ?_, ?_⟩
            · rw [bind_eq w1]; rfl
            · rw [show (H2 4).toNat = n + 1 by rw [e42, e4, b4]; omega]
              exact w2
        · rw [if_neg q3, if_neg (show ¬ ii (κ : Int) = ii 1 by rw [ii_eq (by omega) (by omega) (by omega) (by omega)]; omega)]
          rw [if_neg (by omega)] at b4
          exact ⟨h3, rfl, by rw [show (H' 4).toNat = (H 4).toNat by rw [e4, b4]]; exact u2⟩
    · rw [if_neg (show ¬ ii (n : Int) < ii (cpM κ : Int) by rw [ii_lt (by omega) (by omega) (by omega) (by omega)]; omega), if_neg q2]
      exact ⟨_, rfl, X1.1⟩
/-- all clauses; behind them the class settles what was read -/
theorem C_hts (ok : okB bs) (t : TP 1 1 2 ii h0 bs) : ∀ (k q : Nat) (H : Nat → Int) (i n : Nat) (h : AH), q ≤ bs.length → bs.length - q < k → bs.length - q < n → i ≤ q → HP H (H 4).toNat → HXc h0 q H (H 4).toNat h → match htF bs k q H with
    | .inl e => ∃ h1, HR_faultOf_L33 n (ii i) h = some (ii e, h1) ∧ HF0 h0 e h1
    | .inr H' => ∃ p h1, HXc h0 p H' (H' 4).toNat h1 ∧ HR_faultOf_L33 n (ii i) h = if H' 7 ≤ 0 then some (ii bs.length, h1) else (f_HR_settle h1).bind fun q1 => if q1.1 = 0 then some ((q1.2.1 1 1), q1.2) else some ((ii (-1)), q1.2)
  | 0, q, H, i, n, h, hq, hk, hn, hi, hp, X => by omega
  | k + 1, q, H, i, 0, h, hq, hk, hn, hi, hp, X => by omega
  | k + 1, q, H, i, n + 1, h, hq, hk, hn, hi, hp, X => by
    have hl := ok.1
    have cl := C_clause ok t hq hp X
    have co := clF_ok ok hq hp
    show match htF bs (k + 1) q H with
      | .inl e => ∃ h1, HR_faultOf_L33_b (HR_faultOf_L33 n) (ii i) h = some (ii e, h1) ∧ HF0 h0 e h1
      | .inr H' => ∃ p h1, HXc h0 p H' (H' 4).toNat h1 ∧ HR_faultOf_L33_b (HR_faultOf_L33 n) (ii i) h = if H' 7 ≤ 0 then some (ii bs.length, h1) else (f_HR_settle h1).bind fun q1 => if q1.1 = 0 then some ((q1.2.1 1 1), q1.2) else some ((ii (-1)), q1.2)
    unfold htF HR_faultOf_L33_b
    rw [if_neg (show ¬ ii 240 < ii i by rw [ii_lt (by omega) (by omega) (by omega) (by omega)]; omega)]
    generalize clF bs q H = r at *
    rcases r with e | ⟨p, H'⟩
    · obtain ⟨h1, z1, z2⟩ := cl
      refine ⟨h1, ?_, z2⟩
      rw [bind_eq z1]
      simp only
      rw [if_pos i00, z2.2.2.2]
    · obtain ⟨h1, z1, z2⟩ := cl
      simp only at co ⊢
      have hs := sk_lo co.2.1
      have hc := ch_lo ok (sk bs p)
      have e1 := C_pk ok (z2.1.tp t) z2.1.2.2.2 co.2.1
      have X2 := z2.at (p := sk bs p)
      rw [bind_eq z1]
      simp only
      rw [if_neg (show ¬ ii 1 = 0 by decide), bind_eq e1]
      simp only
      by_cases q1 : ch bs (sk bs p) = -1
      · rw [if_pos q1, q1, if_pos rfl]
        refine ⟨_, _, X2, ?_⟩
        have e7 : (wI h1 1 2 (ii (sk bs p))).1 4 4 = ii (H' 7) := X2.2.1.1 4 (by omega)
        have h7 : 0 ≤ H' 7 ∧ H' 7 ≤ 6 := co.2.2.1 4 (by omega)
        have e11 : (wI h1 1 2 (ii (sk bs p))).1 1 1 = ii bs.length := (X2.1.tp t).1
        rw [if_pos (show inb (ii 4) 5 = true by decide), show (ii 4).toNatClampNeg = 4 by decide, e7]
        by_cases q7 : H' 7 ≤ 0
        · rw [if_pos q7, if_pos (show ii (H' 7) ≤ 0 by rw [z0, ii_le (by omega) (by omega) (by omega) (by omega)]; exact q7), e11]
        · rw [if_neg q7, if_neg (show ¬ ii (H' 7) ≤ 0 by rw [z0, ii_le (by omega) (by omega) (by omega) (by omega)]; exact q7)]
      · rw [if_neg q1, if_neg (show ¬ ii (ch bs (sk bs p)) = ii (-1) by rw [ii_eq (by omega) (by omega) (by omega) (by omega)]; exact q1)]
        have hlt := ch_lt q1
        have e2 := C_take ok (X2.1.tp t) X2.1.2.2.2 hs.2 (c := 59) (by omega) (by omega)
        rw [sk_sk] at e2
        by_cases q2 : ch bs (sk bs p) = 59
        · rw [if_pos q2] at e2 ⊢
          rw [bind_eq e2]
          simp only
          rw [if_neg (show ¬ ii 1 = 0 by decide), ii_sc]
          exact C_hts ok t k (sk bs p + 1) H' (i + 1) n _ (by omega) (by omega) (by omega) (by omega) co.2.2 X2.at
        · rw [if_neg q2] at e2 ⊢
          have X3 := X2.at (p := sk bs p)
          refine ⟨_, ?_, X3.1⟩
          rw [bind_eq e2]
          simp only
          rw [if_pos i00, X3.1.2.2.2]
end HE3
