/-! the reference: a clause, a law -/
def GCl (bs : List Int) (gs : AH) (fo : Option Int32) (L : Nat → Int32) (x : Option AH) (r : PR) : Prop := match r with
  | .inl e => e ≤ bs.length ∧ ∃ (p' : Nat) (dp' : Int), x = some (GH (gF gs fo) p' e dp')
  | .inr (q, D) => ∃ res, x = some (GH (gF gs (fo.or res)) q (-1) 0) ∧ ClS L D res
section GL
variable {bs : List Int} {T b0 : Nat} {L : Nat → Int32} {gs : AH}
theorem sp9_m1 : spM 9 (-1) = -1 := by decide +kernel
theorem sp9 {c : Int} (h : c = -1 ∨ (1 ≤ c ∧ c ≤ 255)) : spM 9 c = if c = 121 then 0 else -1 := by
  rcases h with h | h
  · subst h; rw [sp9_m1]; rfl
  · obtain ⟨n, rfl⟩ := Int.eq_ofNat_of_zero_le (show 0 ≤ c by omega)
    rw [sp_y n (by omega)]
    by_cases q : n = 121
    · rw [if_pos q, if_pos (by omega)]
    · rw [if_neg q, if_neg (by omega)]
theorem fne {e : Nat} (he : e ≤ 1000) : ¬ ii (e : Int) = ii (-1) := by rw [ii_eq (by omega) (by omega) (by omega) (by omega)]; omega
theorem G_sm0 (X : GX bs T b0 gs) (hL : LTR gs L) (fo : Option Int32) {p : Nat} (hp : p ≤ bs.length) : GRs bs (gF gs fo) 0 L 15 (g2 40 0 (GH (gF gs fo) p (-1) 0)) (pSm bs 6 p) := G_sum (GX_f X fo) (LTR_f hL fo) (k := 6) (dp := 0) (by omega) hp
theorem G_tail (X : GX bs T b0 gs) (hL : LTR gs L) (hN : GN gs) (fo : Option Int32) {s : Nat} (hs : s ≤ bs.length) {E : List Int} {b : Bool} {K : Nat} (hK : K ≤ 64) (hS : Sem L K E (if b then 1 else 0)) : GCl bs gs fo L ((f_R_takes (ii 63) (GH (gF gs fo) s (-1) 0)).bind fun q6 => if q6.1 = ii 0 then some q6.2 else (g2 40 0 q6.2).bind fun q7 => if (q7.2.1 80 11) = ii (-1) then (if (q7.2.1 80 17) = ii 0 then (if ii 121 = (q7.2.1 80 13) then (if bI b = ii 0 then some q7.2 else some (wI (wI q7.2 80 17 (ii 1)) 80 14 q7.1)) else some q7.2) else some q7.2) else some q7.2) (andP (tkP bs 63 s E) (fun t C => andP (pSm bs 6 t) (fun u C' => .inr (u, C ++ [-17] ++ C')))) := by
  have hl := X.2.2.2.2.2.2.1.1
  have hk := sk_lo hs
  unfold tkP
  by_cases q : ch bs (sk bs s) = 63
  · have hlt := ch_lt (bs := bs) (p := sk bs s) (by omega)
    rw [if_pos q, andP_r, bind_eq (G_tkT (GX_f X fo) hs (c := 63) q)]
    simp only
    rw [if_neg j10]
    have h1 := G_sm0 X hL fo (p := sk bs s + 1) (by omega)
    revert h1
    cases pSm bs 6 (sk bs s + 1) with
    | inl e =>
      rintro ⟨he, w, p', dp', h1⟩
      rw [bind_eq h1, andP_l]
      simp only [GH_f]
      rw [if_neg (fne (by omega))]
      exact ⟨he, _, _, rfl⟩
    | inr u =>
      rintro ⟨w, h1, hw⟩
      rw [bind_eq h1, andP_r]
      simp only [GH_f, if_true]
      refine ⟨if b then some (ii w) else none, ?_, cls_c hS hw hK (by omega)⟩
      exact G_end hN fo _ rfl rfl
  · rw [if_neg q, andP_l, bind_eq (G_tkF (GX_f X fo) hs (c := 63) (by omega) (by omega) q)]
    simp only [if_true]
    exact ⟨hk.2, _, _, rfl⟩
theorem G_cl (X : GX bs T b0 gs) (hL : LTR gs L) (hN : GN gs) (fo : Option Int32) {p : Nat} (hp : p ≤ bs.length) : GCl bs gs fo L (f_R_clause (GH (gF gs fo) p (-1) 0)) (pCl bs p) := by
  have okb := X.2.2.2.2.2.2.1
  have hl := okb.1
  have hk := sk_lo hp
  have hc := ch_lo okb (sk bs p)
  have Xf := GX_f X fo
  unfold f_R_clause pCl
  simp only [z0]
  rw [bind_eq (G_lk Xf hp)]
  simp only
  rw [bind_eq (R_among (o := 9) (by omega) (by omega)), sp9 hc]
  have et : ∀ (c : Int) (q : Nat), tkP bs c q [] = if ch bs (sk bs q) = c then .inr (sk bs q + 1, []) else .inl (sk bs q) := fun _ _ => rfl
  by_cases q1 : ch bs (sk bs p) = 121
  · rw [if_pos q1, if_neg (show ¬ (0 : Int) = -1 by omega), if_neg j10, et, if_pos q1, andP_r, q1]
    have hl1 := ch_lt (bs := bs) (p := sk bs p) (by omega)
    have hk2 := sk_lo (bs := bs) (p := sk bs p + 1) (by omega)
    rw [GH_a, ii_add, GH_inc]
    simp only
    by_cases q2 : ch bs (sk bs (sk bs p + 1)) = 58
    · rw [et, if_pos q2, andP_r, bind_eq (G_tkT Xf (p := sk bs p + 1) (by omega) (c := 58) q2)]
      have hl2 := ch_lt (bs := bs) (p := sk bs (sk bs p + 1)) (by omega)
      obtain ⟨r, hr⟩ : ∃ r, r = sk bs (sk bs p + 1) + 1 := ⟨_, rfl⟩
      rw [← hr]
      have hk3 := sk_lo (bs := bs) (p := r) (by omega)
      have hc3 := ch_lo okb (sk bs r)
      simp only
      rw [if_neg j10, bind_eq (G_lk Xf (p := r) (by omega))]
      simp only
      have hcond : ∀ z : Int, (z = 33 ∨ z = 40) → ch bs (sk bs r) = z → GCl bs gs fo L ((g3 40 0 (ii 0) (ii 0) (GH (gF gs fo) (sk bs r) (-1) 0)).bind fun q5 => (f_R_takes (ii 63) q5.2).bind fun q6 => if q6.1 = ii 0 then some q6.2 else (g2 40 0 q6.2).bind fun q7 => if (q7.2.1 80 11) = ii (-1) then (if (q7.2.1 80 17) = ii 0 then (if ii 121 = (q7.2.1 80 13) then (if q5.1 = ii 0 then some q7.2 else some (wI (wI q7.2 80 17 (ii 1)) 80 14 q7.1)) else some q7.2) else some q7.2) else some q7.2) (andP (smG bs mcC acC (pUn bs 6) (pUn bs 6 (sk bs r))) (fun s C => andP (tkP bs 63 s C) (fun t C => andP (pSm bs 6 t) (fun u C' => .inr (u, C ++ [-17] ++ C'))))) := by
        intro z _ _
        have h1 := G_con Xf (LTR_f hL fo) (p := sk bs r) hk3.2
        have h2 := okP_sm (bs := bs) (mc := mcC) (ac := acC) rfl rfl (okA_pUn 6) (okA_pUn 6 (sk bs r) hk3.2)
        revert h1 h2
        unfold pCo
        cases smG bs mcC acC (pUn bs 6) (pUn bs 6 (sk bs r)) with
        | inl e =>
          rintro ⟨he, b, p', dp', h1⟩ _
          rw [bind_eq h1, andP_l]
          simp only
          rw [bind_eq (G_tk2 (show e ≤ 1000 by omega))]
          simp only [if_true]
          exact ⟨he, _, _, rfl⟩
        | inr v =>
          rintro ⟨b, h1, hS⟩ h2
          obtain ⟨t1, t2, t3⟩ := h2
          rw [bind_eq h1, andP_r]
          simp only
          exact G_tail X hL hN fo t2 (by omega) hS
      by_cases q3 : ch bs (sk bs r) = 33
      · rw [if_pos (Or.inl q3), if_pos (by rw [q3])]
        exact hcond 33 (Or.inl rfl) q3
      · by_cases q4 : ch bs (sk bs r) = 40
        · rw [if_pos (Or.inr q4), if_neg (by rw [q4]; decide), if_pos (by rw [q4])]
          exact hcond 40 (Or.inr rfl) q4
        · rw [if_neg (show ¬ ii (ch bs (sk bs r)) = ii 33 by rw [ii_eq (by omega) (by omega) (by omega) (by omega)]; exact q3), if_neg (show ¬ ii (ch bs (sk bs r)) = ii 40 by rw [ii_eq (by omega) (by omega) (by omega) (by omega)]; exact q4), if_neg (show ¬ (ch bs (sk bs r) = 33 ∨ ch bs (sk bs r) = 40) by omega)]
          have h1 := G_sm0 X hL fo (p := sk bs r) hk3.2
          have h2 := okA_pSm (bs := bs) 6 (sk bs r) hk3.2
          revert h1 h2
          cases pSm bs 6 (sk bs r) with
          | inl e =>
            rintro ⟨he, w, p', dp', h1⟩ _
            rw [bind_eq h1, andP_l]
            simp only [GH_f]
            rw [if_neg (fne (by omega)), if_neg (fne (by omega))]
            exact ⟨he, _, _, rfl⟩
          | inr v =>
            rintro ⟨w, h1, hw⟩ h2
            obtain ⟨t1, t2, t3⟩ := h2
            have hk5 := sk_lo t2
            have hc5 := ch_lo okb (sk bs v.1)
            have hsg := G_isg hc5
            rw [bind_eq h1, andP_r]
            simp only [GH_f, if_true]
            rw [bind_eq (G_lk Xf t2)]
            simp only [GH_f, if_true]
            by_cases q5 : cmM (ch bs (sk bs v.1)) = -1
            · rw [if_pos q5] at hsg ⊢
              rw [hsg, if_pos rfl]
              refine ⟨some (ii w), ?_, cls_p hw (by omega)⟩
              have := G_end hN fo (some (ii w)) (q := sk bs v.1) (own := ii 121) (v := ii w) rfl (b := true) rfl
              rw [if_neg (show ¬ bI true = ii 0 by decide)] at this
              exact this
            · rw [if_neg q5] at hsg ⊢
              rw [hsg, if_neg j10]
              have h3 := G_con1 Xf (LTR_f hL fo) (q := sk bs v.1) (C := v.2) hk5.2 (by omega) (hw.mono (by omega))
              have ecm : cm2 bs 6 (sk bs v.1) v.2 = cm2 bs 6 v.1 v.2 := by unfold cm2; rw [sk_sk]
              rw [ecm] at h3
              have h5 := okP_sm (bs := bs) (mc := mcC) (ac := acC) rfl rfl (okA_pUn 6) (okP_cm (k := 6) t1 t2 t3)
              revert h3 h5
              cases smG bs mcC acC (pUn bs 6) (cm2 bs 6 v.1 v.2) with
              | inl e =>
                rintro ⟨he, b, p', dp', h3⟩ _
                rw [bind_eq h3, andP_l]
                simp only
                rw [bind_eq (G_tk2 (show e ≤ 1000 by omega))]
                simp only [if_true]
                exact ⟨he, _, _, rfl⟩
              | inr y =>
                rintro ⟨b, h3, hS⟩ h5
                obtain ⟨s1, s2, s3⟩ := h5
                rw [bind_eq h3, andP_r]
                simp only
                exact G_tail X hL hN fo s2 (by omega) hS
    · rw [et, if_neg q2, andP_l, bind_eq (G_tkF Xf (p := sk bs p + 1) (by omega) (c := 58) (by omega) (by omega) q2)]
      simp only [if_true]
      exact ⟨hk2.2, _, _, rfl⟩
  · rw [if_neg q1, if_pos rfl, if_pos rfl, bind_eq G_fl, et, if_neg q1, andP_l]
    exact ⟨hk.2, _, _, rfl⟩
/-- how a whole law came out -/
def GLs (bs : List Int) (gs : AH) (L : Nat → Int32) (x : Option AH) (r : Nat ⊕ List Int) : Prop := match r with
  | .inl e => e ≤ bs.length ∧ ∃ (fo : Option Int32) (p' : Nat) (dp' : Int), x = some (GH (gF gs fo) p' e dp')
  | .inr C => ∃ (fo : Option Int32) (q : Nat), x = some (GH (gF gs fo) q (-1) 0) ∧ wrthF L C false [] = (match fo with
      | some v => v
      | none => ii 0)
def Inv (L : Nat → Int32) (C : List Int) (fo : Option Int32) : Prop := ∀ R, wrthF L (C ++ R) false [] = match fo with
  | some v => v
  | none => wrthF L R false []
theorem inv_s {C D : List Int} {fo res : Option Int32} (h : Inv L C fo) (hD : ClS L D res) : Inv L (C ++ D ++ [-18]) (fo.or res) := by
  intro R
  have e : C ++ D ++ [-18] ++ R = C ++ (D ++ -18 :: R) := by simp
  rw [e, h]
  cases fo with
  | some v => rfl
  | none => cases res with
    | none => exact hD R
    | some v => exact hD R
theorem G_lp (X : GX bs T b0 gs) (hL : LTR gs L) (hN : GN gs) : ∀ (m p n f : Nat) (C : List Int) (fo : Option Int32), bs.length - p ≤ m → p ≤ bs.length → m + 1 < n → m < f → Inv L C fo → GLs bs gs L ((f_R_clause (GH (gF gs fo) p (-1) 0)).bind fun q2 => R_goThrough_L32 n q2) (lwF bs f p C) := by
  have okb := X.2.2.2.2.2.2.1
  have hl := okb.1
  have flt : ∀ (n p' e : Nat) (fo : Option Int32) (dp' : Int), 1 ≤ n → e ≤ 1000 → R_goThrough_L32 n (GH (gF gs fo) p' e dp') = some (GH (gF gs fo) p' e dp') := by
    intro n p' e fo dp' hn he
    obtain ⟨n, rfl⟩ : ∃ z, n = z + 1 := ⟨n - 1, by omega⟩
    have := fne he
    simp (disch := omega) only [Option.bind_some, if_true, if_false, not_true_eq_false, not_false_eq_true, z0, ii_add, ii_sub, ii_mul, ifLeT, ifLeF, ifLtT, ifLtF, ifEqT, ifEqF, ifNeT, ifNeF, ifIn, nixZ, ii_i64, o0, o1, isInT, isInF, tn14, tn12, tn2, tn21, tn47, tn48, tn49, tn471, tn472, Int.reduceToNat, Int.toNat_natCast, Int.reduceAdd, Int.reduceSub, Int.reduceMul, Int.reduceNeg, Nat.reduceAdd, Nat.reduceSub, Nat.reduceMul, R_goThrough_L32, R_goThrough_L32_b, GH_f, this]
  intro m
  induction m with
  | zero =>
    intro p n f C fo hm hp hn hf hI
    obtain ⟨f, rfl⟩ : ∃ z, f = z + 1 := ⟨f - 1, by omega⟩
    have h1 := G_cl X hL hN fo hp
    have h2 := okQ_cl (bs := bs) hp
    unfold lwF
    revert h1 h2
    cases pCl bs p with
    | inl e =>
      rintro ⟨he, p', dp', h1⟩ _
      rw [bind_eq h1]
      exact ⟨he, fo, _, _, flt _ _ _ _ _ (by omega) (by omega)⟩
    | inr v =>
      intro _ h2
      obtain ⟨t1, t2, t3⟩ := h2
      omega
  | succ m ih =>
    intro p n f C fo hm hp hn hf hI
    obtain ⟨f, rfl⟩ : ∃ z, f = z + 1 := ⟨f - 1, by omega⟩
    obtain ⟨n, rfl⟩ : ∃ z, n = z + 1 := ⟨n - 1, by omega⟩
    have h1 := G_cl X hL hN fo hp
    have h2 := okQ_cl (bs := bs) hp
    unfold lwF
    revert h1 h2
    cases pCl bs p with
    | inl e =>
      rintro ⟨he, p', dp', h1⟩ _
      rw [bind_eq h1]
      exact ⟨he, fo, _, _, flt _ _ _ _ _ (by omega) (by omega)⟩
    | inr v =>
      rintro ⟨res, h1, hD⟩ h2
      obtain ⟨t1, t2, t3⟩ := h2
      rw [bind_eq h1]
      have hk := sk_lo t2
      have hc := ch_lo okb (sk bs v.1)
      have Xf := GX_f X (fo.or res)
      have hI2 := inv_s hI hD
      simp only
      by_cases q1 : ch bs (sk bs v.1) = -1
      · rw [if_pos q1]
        simp (disch := omega) only [Option.bind_some, if_true, if_false, not_true_eq_false, not_false_eq_true, z0, ii_add, ii_sub, ii_mul, ifLeT, ifLeF, ifLtT, ifLtF, ifEqT, ifEqF, ifNeT, ifNeF, ifIn, nixZ, ii_i64, o0, o1, isInT, isInF, tn14, tn12, tn2, tn21, tn47, tn48, tn49, tn471, tn472, Int.reduceToNat, Int.toNat_natCast, Int.reduceAdd, Int.reduceSub, Int.reduceMul, Int.reduceNeg, Nat.reduceAdd, Nat.reduceSub, Nat.reduceMul, R_goThrough_L32, R_goThrough_L32_b, GH_f, G_lk Xf t2, G_lk Xf hk.2, sk_sk, q1]
        refine ⟨fo.or res, _, rfl, ?_⟩
        have := hI2 []
        rw [List.append_nil] at this
        rw [this]
        cases fo.or res <;> rfl
      · rw [if_neg q1]
        by_cases q2 : ch bs (sk bs v.1) = 59
        · rw [if_pos q2]
          have hlt := ch_lt (bs := bs) (p := sk bs v.1) q1
          have hih := ih (sk bs v.1 + 1) n f (C ++ v.2 ++ [-18]) (fo.or res) (by omega) (by omega) (by omega) (by omega) hI2
          simp (disch := omega) only [Option.bind_some, if_true, if_false, not_true_eq_false, not_false_eq_true, z0, ii_add, ii_sub, ii_mul, ifLeT, ifLeF, ifLtT, ifLtF, ifEqT, ifEqF, ifNeT, ifNeF, ifIn, nixZ, ii_i64, o0, o1, isInT, isInF, tn14, tn12, tn2, tn21, tn47, tn48, tn49, tn471, tn472, Int.reduceToNat, Int.toNat_natCast, Int.reduceAdd, Int.reduceSub, Int.reduceMul, Int.reduceNeg, Nat.reduceAdd, Nat.reduceSub, Nat.reduceMul, R_goThrough_L32, R_goThrough_L32_b, GH_f, G_lk Xf t2, q2, GH_a, GH_inc]
          exact hih
        · rw [if_neg q2]
          simp (disch := omega) only [Option.bind_some, if_true, if_false, not_true_eq_false, not_false_eq_true, z0, ii_add, ii_sub, ii_mul, ifLeT, ifLeF, ifLtT, ifLtF, ifEqT, ifEqF, ifNeT, ifNeF, ifIn, nixZ, ii_i64, o0, o1, isInT, isInF, tn14, tn12, tn2, tn21, tn47, tn48, tn49, tn471, tn472, Int.reduceToNat, Int.toNat_natCast, Int.reduceAdd, Int.reduceSub, Int.reduceMul, Int.reduceNeg, Nat.reduceAdd, Nat.reduceSub, Nat.reduceMul, R_goThrough_L32, R_goThrough_L32_b, GH_f, G_lk Xf t2, G_lk Xf hk.2, sk_sk, G_fl]
          exact ⟨hk.2, fo.or res, _, _, rfl⟩
end GL
