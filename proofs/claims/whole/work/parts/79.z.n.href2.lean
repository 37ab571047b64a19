/-! the reference reads a heath: items -/
section RN2
variable {bs : List Int} {H : Nat → Int} {g g0 g1 : AH} {m : Nat}
theorem shl_1 : ∀ w : Nat, w < 32 → shlI (ii 1) (ii w) = bitI w := fun w _ => rfl
theorem R_its (ok : okB bs) {κ n : Nat} (hm : m ≤ 4) (hk : κ < 5) {dp : Int} : ∀ (k : Nat) (s : Nat → Bool) (q : Nat) (H : Nat → Int) (x : Int32) (nn : Nat) (g1 : AH), q ≤ bs.length → un s < k → un s + 1 < nn → (∀ j, j < 6 → tb x j = s j) → HP H m → vld H κ n → GX bs 81 0 g1 → RB H g1 → match itF bs κ n k s q H with
    | .inl e => ∃ g2 p, R_readItems_L45 nn (ii (kcM κ)) (lgM κ) (86 + 2 * κ) (ii (rwM κ n)) (κ + 1) x (ii (spM (κ + 1) (ch bs (sk bs q)))) (GH g1 (sk bs q) (-1) dp) = some (GH g2 p e dp) ∧ R8 g1 g2
    | .inr (p, H') => ∃ g2, R_readItems_L45 nn (ii (kcM κ)) (lgM κ) (86 + 2 * κ) (ii (rwM κ n)) (κ + 1) x (ii (spM (κ + 1) (ch bs (sk bs q)))) (GH g1 (sk bs q) (-1) dp) = some (GH g2 p (-1) dp) ∧ R8 g1 g2 ∧ RB H' g2
  | 0, s, q, H, x, nn, g1, hq, hu, hu2, hx, hp, hv, X, R => by omega
  | k + 1, s, q, H, x, 0, g1, hq, hu, hu2, hx, hp, hv, X, R => by omega
  | k + 1, s, q, H, x, nn + 1, g1, hq, hu, hu2, hx, hp, hv, X, R => by
    have hl := ok.1
    have hs := sk_lo hq
    have hsp := spi_lo hk (ch bs (sk bs q))
    have hn6 := ni_le hk
    have hn := vld_lt hp hk hv
    have hlg := ln_hi hk
    have hne80 : 86 + 2 * κ ≠ 80 := by omega
    unfold itF
    by_cases q1 : spM (κ + 1) (ch bs (sk bs q)) = -1
    · rw [if_pos q1, q1]
      refine ⟨g1, ?_, R8.rf _, R⟩
      show R_readItems_L45_b _ _ _ _ _ _ _ _ _ = _
      unfold R_readItems_L45_b
      rw [if_pos rfl]
    · rw [if_neg q1]
      have hne : ch bs (sk bs q) ≠ -1 := fun z => q1 (by rw [z]; exact sp_m1 _ (by omega))
      have hlt := ch_lt hne
      obtain ⟨w, hw⟩ := Int.eq_ofNat_of_zero_le (show 0 ≤ spM (κ + 1) (ch bs (sk bs q)) by omega)
      rw [hw] at hsp ⊢
      rw [Int.toNat_natCast]
      have hwn : w < niM κ := by omega
      have hrl := rw_ln hk hn hwn
      have hmo := mo_ok κ hk w hwn
      obtain ⟨_, eL, eM⟩ := r_us κ hk w hwn
      have wne : ¬ ii (w : Int) = ii (-1) := by rw [ii_eq (by omega) (by omega) (by omega) (by omega)]; omega
      have irw : inb (ii ((rwM κ n : Int) + w)) (lgM κ) = true := by rw [ii_inb (by omega) (by omega)]; omega
      have nrw : (ii ((rwM κ n : Int) + w)).toNatClampNeg = rwM κ n + w := by rw [ii_nat (by omega) (by omega)]; omega
      have est : R_readItems_L45 (nn + 1) (ii (kcM κ)) (lgM κ) (86 + 2 * κ) (ii (rwM κ n)) (κ + 1) x (ii w) (GH g1 (sk bs q) (-1) dp) = (if (if tb x w then ii 1 else ii 0) = 0 then (f_R_number (ii (leM κ w)) (ii (moM κ w)) (GH g1 (sk bs q + 1) (-1) dp)).bind fun q1 => if ((wI q1.2 (86 + 2 * κ) (rwM κ n + w) q1.1).1 80 11) = (ii (-1)) then (f_R_look (wI q1.2 (86 + 2 * κ) (rwM κ n + w) q1.1)).bind fun q2 => (f_R_spotOf (κ + 1) q2.1 q2.2).bind fun q3 => R_readItems_L45 nn (ii (kcM κ)) (lgM κ) (86 + 2 * κ) (ii (rwM κ n)) (κ + 1) (x ||| bitI w) q3 q2.2 else R_readItems_L45 nn (ii (kcM κ)) (lgM κ) (86 + 2 * κ) (ii (rwM κ n)) (κ + 1) (x ||| bitI w) (ii w) (wI q1.2 (86 + 2 * κ) (rwM κ n + w) q1.1) else some (GH g1 (sk bs q) (sk bs q : Nat) dp)) := by
        show R_readItems_L45_b _ _ _ _ _ _ _ _ _ = _
        unfold R_readItems_L45_b
        rw [if_neg wne, GH_f, if_pos rfl, R_has x (by omega), eL, eM, GH_a, ii_add ((sk bs q : Nat) : Int), GH_inc, ii_add ((rwM κ n : Nat) : Int), bind_eq G_fl, nrw]
        simp only [irw, if_true, shl_1 w (by omega)]
      rw [est, hx w (by omega)]
      by_cases q2 : s w = true
      · rw [if_pos q2, if_pos q2, if_neg i10]
        exact ⟨g1, _, rfl, R8.rf _⟩
      · rw [if_neg q2, if_neg q2, if_pos i00]
        have q2' : s w = false := Bool.eq_false_iff.mpr q2
        have rn := R_num X ok (p := sk bs q + 1) (dp := dp) (le := leM κ w) (mo := moM κ w) (by omega) (by omega) (by omega) (by omega) (by omega)
        have hsk1 := sk_lo (bs := bs) (p := sk bs q + 1) (by omega)
        have hno := nm2_ok ok hsk1.2
        have fl : ∀ (e : Nat) (v : Int32), e ≤ bs.length → (if ((wI (GH g1 e e dp) (86 + 2 * κ) (rwM κ n + w) v).1 80 11) = (ii (-1)) then (f_R_look (wI (GH g1 e e dp) (86 + 2 * κ) (rwM κ n + w) v)).bind fun q2 => (f_R_spotOf (κ + 1) q2.1 q2.2).bind fun q3 => R_readItems_L45 nn (ii (kcM κ)) (lgM κ) (86 + 2 * κ) (ii (rwM κ n)) (κ + 1) (x ||| bitI w) q3 q2.2 else R_readItems_L45 nn (ii (kcM κ)) (lgM κ) (86 + 2 * κ) (ii (rwM κ n)) (κ + 1) (x ||| bitI w) (ii w) (wI (GH g1 e e dp) (86 + 2 * κ) (rwM κ n + w) v)) = some (GH (wI g1 (86 + 2 * κ) (rwM κ n + w) v) e e dp) := fun e v he => by
          have een : ¬ ii (e : Int) = ii (-1) := by rw [ii_eq (by omega) (by omega) (by omega) (by omega)]; omega
          obtain ⟨n', rfl⟩ : ∃ n', nn = n' + 1 := ⟨nn - 1, by omega⟩
          rw [GH_w hne80, GH_f, if_neg een]
          show R_readItems_L45_b _ _ _ _ _ _ _ _ _ = _
          unfold R_readItems_L45_b
          rw [if_neg wne, GH_f, if_neg een]
        unfold nmF
        generalize nm2 bs (sk bs (sk bs q + 1)) = r at *
        rcases r with e | ⟨p, v⟩
        · simp only at rn hno ⊢
          refine ⟨wI g1 (86 + 2 * κ) (rwM κ n + w) (ii 0), e, ?_, R8.w hk⟩
          rw [bind_eq rn]
          exact fl e (ii 0) hno.2
        · simp only at rn hno ⊢
          by_cases z : leM κ w ≤ v ∧ v ≤ moM κ w
          · rw [if_pos z] at rn ⊢
            have hu' := un_ad (s := s) (w := w) (by omega) q2'
            have Fw : R8 g1 (wI g1 (86 + 2 * κ) (rwM κ n + w) (ii v)) := R8.w hk
            have Xw := X.r8 Fw
            have ih := R_its ok hm hk (dp := dp) k (ad1 s w) p (upz H (hbM κ n + w) v) (x ||| bitI w) nn _ hno.2.1 (by omega) (by omega) (fun j hj => by
              rw [tb_or, tb_bit (by omega), hx j hj]; rfl) (hp.up hm hk hv hwn z.1 z.2) ((upz_vld hk hk hn hwn).mpr hv) Xw (R.up hk hn hwn)
            have est2 : ((f_R_number (ii (leM κ w)) (ii (moM κ w)) (GH g1 (sk bs q + 1) (-1) dp)).bind fun q1 => if ((wI q1.2 (86 + 2 * κ) (rwM κ n + w) q1.1).1 80 11) = (ii (-1)) then (f_R_look (wI q1.2 (86 + 2 * κ) (rwM κ n + w) q1.1)).bind fun q2 => (f_R_spotOf (κ + 1) q2.1 q2.2).bind fun q3 => R_readItems_L45 nn (ii (kcM κ)) (lgM κ) (86 + 2 * κ) (ii (rwM κ n)) (κ + 1) (x ||| bitI w) q3 q2.2 else R_readItems_L45 nn (ii (kcM κ)) (lgM κ) (86 + 2 * κ) (ii (rwM κ n)) (κ + 1) (x ||| bitI w) (ii w) (wI q1.2 (86 + 2 * κ) (rwM κ n + w) q1.1)) = R_readItems_L45 nn (ii (kcM κ)) (lgM κ) (86 + 2 * κ) (ii (rwM κ n)) (κ + 1) (x ||| bitI w) (ii (spM (κ + 1) (ch bs (sk bs p)))) (GH (wI g1 (86 + 2 * κ) (rwM κ n + w) (ii v)) (sk bs p) (-1) dp) := by
              rw [bind_eq rn]
              simp only
              rw [GH_w hne80, GH_f, if_pos rfl, bind_eq (G_lk Xw hno.2.1)]
              simp only
              rw [bind_eq (R_spot (o := κ + 1) (by omega) (by omega))]
            rw [est2]
            simp only
            generalize itF bs κ n k (ad1 s w) p (upz H (hbM κ n + w) v) = r2 at *
            rcases r2 with e | ⟨p2, H2⟩
            · obtain ⟨g2, p3, y1, y2⟩ := ih
              exact ⟨g2, p3, y1, Fw.tr y2⟩
            · obtain ⟨g2, y1, y2, y3⟩ := ih
              exact ⟨g2, y1, Fw.tr y2, y3⟩
          · rw [if_neg z] at rn ⊢
            simp only
            refine ⟨wI g1 (86 + 2 * κ) (rwM κ n + w) (ii v), p - 1, ?_, R8.w hk⟩
            rw [bind_eq rn]
            exact fl (p - 1) (ii v) (by omega)
theorem R_fill {κ n p : Nat} {ft dp : Int} (hk : κ < 5) (hn : n < cpM κ) (R : RB H g1) : ∃ g2, R_readItems_L3 FU (ii (kcM κ)) (lgM κ) (86 + 2 * κ) (ii (rwM κ n)) (κ + 1) (ii 0) (GH g1 p ft dp) = some (GH g2 p ft dp) ∧ R8 g1 g2 ∧ RB (fiU H κ n) g2 := by
  have hlg := ln_hi hk
  have hn6 := ni_le hk
  have e3 : p_Str_length (κ + 1) = ii (niM κ) := by
    rw [← sp_ni κ hk]
    have h6 := st_6 (κ + 1) (by omega)
    unfold p_Str_length p_Str_coder
    have : ∀ k : Nat, k < 7 → shrI (ii k) 0 = ii k := by decide +kernel
    exact this (stL (κ + 1)) (by omega)
  refine lup (fun u k (x : AH) => R_readItems_L3 u (ii (kcM κ)) (lgM κ) (86 + 2 * κ) (ii (rwM κ n)) (κ + 1) (ii k) (GH x p ft dp)) (niM κ) (fun k x => R8 g1 x ∧ RB (fun j => if hbM κ n ≤ j ∧ j < hbM κ n + k then usM κ (j - hbM κ n) else H j) x) (fun y => ∃ g2, y = some (GH g2 p ft dp) ∧ R8 g1 g2 ∧ RB (fiU H κ n) g2) ?_ ?_ (niM κ) 0 FU g1 (by omega) (by unfold FU; omega) ⟨R8.rf _, ?_⟩
  · rintro u x ⟨r1, r2⟩
    refine ⟨x, ?_, r1, r2⟩
    show R_readItems_L3_b _ _ _ _ _ _ _ _ = _
    unfold R_readItems_L3_b
    rw [e3, if_pos (by rw [ii_le (by omega) (by omega) (by omega) (by omega)]; omega)]
  · rintro u k x hk' ⟨r1, r2⟩
    right
    have hrl := rw_ln hk hn hk'
    have irw : inb (ii ((rwM κ n : Int) + k)) (lgM κ) = true := by rw [ii_inb (by omega) (by omega)]; omega
    have nrw : (ii ((rwM κ n : Int) + k)).toNatClampNeg = rwM κ n + k := by rw [ii_nat (by omega) (by omega)]; omega
    refine ⟨wI x (86 + 2 * κ) (rwM κ n + k) (ii (usM κ k)), ?_, r1.tr (R8.w hk), ?_⟩
    · show R_readItems_L3_b _ _ _ _ _ _ _ _ = _
      unfold R_readItems_L3_b
      rw [e3, if_neg (by rw [ii_le (by omega) (by omega) (by omega) (by omega)]; omega), ii_add, if_pos irw, nrw, (r_us κ hk k hk').1, GH_w (by omega), ii_sc]
    · have := r2.up (v := usM κ k) hk hn hk'
      refine (show (fun j => if hbM κ n ≤ j ∧ j < hbM κ n + (k + 1) then usM κ (j - hbM κ n) else H j) = _ from funext (fun j => ?_)) ▸ this
      unfold upz
      simp only
      by_cases e : j = hbM κ n + k
      · rw [if_pos e, if_pos (by omega), e, show hbM κ n + k - hbM κ n = k by omega]
      · rw [if_neg e]
        by_cases z : hbM κ n ≤ j ∧ j < hbM κ n + k
        · rw [if_pos z, if_pos (by omega)]
        · rw [if_neg z, if_neg (by omega)]
  · have : (fun j => if hbM κ n ≤ j ∧ j < hbM κ n + 0 then usM κ (j - hbM κ n) else H j) = H := funext (fun j => by rw [if_neg (by omega)])
    rw [this]; exact R
/-- the items of a clause -/
theorem R_items (ok : okB bs) {κ n q : Nat} {dp : Int} (hm : m ≤ 4) (hk : κ < 5) (hn : n < cpM κ) (e : H (ciM κ) = n) (hp : HP H m) (hq : q ≤ bs.length) (X : GX bs 81 0 g1) (R : RB (upz H (ciM κ) ((n : Int) + 1)) g1) : match itF bs κ n 7 (fun _ => false) q (beg H κ n) with
    | .inl e => ∃ g2 p, f_R_readItems (ii (kcM κ)) (lgM κ) (86 + 2 * κ) (ii (rwM κ n)) (κ + 1) (GH g1 q (-1) dp) = some (GH g2 p e dp) ∧ R8 g1 g2
    | .inr (p, H') => ∃ g2, f_R_readItems (ii (kcM κ)) (lgM κ) (86 + 2 * κ) (ii (rwM κ n)) (κ + 1) (GH g1 q (-1) dp) = some (GH g2 p (-1) dp) ∧ R8 g1 g2 ∧ RB H' g2 := by
  have hFU := fu_1000
  obtain ⟨g2, y1, y2, y3⟩ := R_fill (p := q) (ft := -1) (dp := dp) hk hn R
  have X2 := X.r8 y2
  have hu : un (fun _ => false) = 6 := rfl
  have key := R_its ok (n := n) hm hk (dp := dp) 7 (fun _ => false) q (beg H κ n) (ii 0) FU g2 hq (by decide) (by omega) (fun j _ => tb_0 j) (hp.bg hm hk hn e) ((beg_vld hk hk hn e).mpr (Or.inr ⟨rfl, rfl⟩)) X2 y3
  have est : f_R_readItems (ii (kcM κ)) (lgM κ) (86 + 2 * κ) (ii (rwM κ n)) (κ + 1) (GH g1 q (-1) dp) = R_readItems_L45 FU (ii (kcM κ)) (lgM κ) (86 + 2 * κ) (ii (rwM κ n)) (κ + 1) (ii 0) (ii (spM (κ + 1) (ch bs (sk bs q)))) (GH g2 (sk bs q) (-1) dp) := by
    unfold f_R_readItems
    generalize FU = F at *
    rw [bind_eq y1, bind_eq (G_lk X2 hq)]
    simp only
    rw [bind_eq (R_spot (o := κ + 1) (by omega) (by omega))]
  rw [est]
  generalize itF bs κ n 7 (fun _ => false) q (beg H κ n) = r at *
  rcases r with e | ⟨p, H'⟩
  · obtain ⟨g3, p, z1, z2⟩ := key
    exact ⟨g3, p, z1, y2.tr z2⟩
  · obtain ⟨g3, z1, z2, z3⟩ := key
    exact ⟨g3, z1, y2.tr z2, z3⟩
end RN2
