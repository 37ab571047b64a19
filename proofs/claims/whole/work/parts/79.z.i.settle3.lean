/-! the class settles a heath: all veins -/
section HW2
variable {H : Nat → Int} {o : Nat} {h : AH} {m : Nat}
theorem hp_r (p : HP H m) : (1 ≤ H 0 ∧ H 0 ≤ 6 ∧ 1 ≤ H 1 ∧ H 1 ≤ 5) ∧ 0 ≤ H 2 ∧ H 2 ≤ 9 ∧ 1 ≤ H 3 ∧ H 3 ≤ 9 := by
  have v : vld H 0 0 := Or.inr ⟨rfl, rfl⟩
  have a0 : 1 ≤ H 0 ∧ H 0 ≤ 6 := p.2.1 0 0 0 (by omega) v (by decide)
  have a1 : 1 ≤ H 1 ∧ H 1 ≤ 5 := p.2.1 0 0 1 (by omega) v (by decide)
  have a2 : 0 ≤ H 2 ∧ H 2 ≤ 9 := p.2.1 0 0 2 (by omega) v (by decide)
  have a3 : 1 ≤ H 3 ∧ H 3 ≤ 9 := p.2.1 0 0 3 (by omega) v (by decide)
  omega
theorem hp_n (p : HP H m) : (0 ≤ H 4 ∧ H 4 ≤ 4) ∧ (0 ≤ H 5 ∧ H 5 ≤ 6) ∧ (0 ≤ H 6 ∧ H 6 ≤ 6) ∧ 0 ≤ H 7 ∧ H 7 ≤ 6 := ⟨p.1 1 (by omega), p.1 2 (by omega), p.1 3 (by omega), p.1 4 (by omega)⟩
theorem hp_c (p : HP H m) : 1 ≤ cellsM H ∧ cellsM H ≤ 30 := by
  obtain ⟨⟨h1, h2, h3, h4⟩, -⟩ := hp_r p
  unfold cellsM
  have a : 1 * 1 ≤ H 0 * H 1 := Int.mul_le_mul h1 h3 (by omega) (by omega)
  have b : H 0 * H 1 ≤ 6 * 5 := Int.mul_le_mul h2 h4 (by omega) (by omega)
  omega
theorem hp_v (p : HP H m) {v : Nat} (hv : (v : Int) < H 4) : 0 ≤ H (10 + 13 * v) ∧ H (10 + 13 * v) ≤ 29 ∧ 1 ≤ H (10 + 13 * v + 1) ∧ H (10 + 13 * v + 1) ≤ 60 ∧ 0 ≤ H (10 + 13 * v + 2) ∧ H (10 + 13 * v + 2) ≤ 9 := by
  have vl : vld H 1 v := Or.inl hv
  have a0 : 0 ≤ H (10 + 13 * v) ∧ H (10 + 13 * v) ≤ 29 := p.2.1 1 v 0 (by omega) vl (by decide)
  have a1 : 1 ≤ H (10 + 13 * v + 1) ∧ H (10 + 13 * v + 1) ≤ 60 := p.2.1 1 v 1 (by omega) vl (by decide)
  have a2 : 0 ≤ H (10 + 13 * v + 2) ∧ H (10 + 13 * v + 2) ≤ 9 := p.2.1 1 v 2 (by omega) vl (by decide)
  omega
theorem hp_i (p : HP H m) {i : Nat} (hi : (i : Int) < H 5) : 0 ≤ H (70 + 2 * i) ∧ H (70 + 2 * i) ≤ 29 ∧ 1 ≤ H (70 + 2 * i + 1) ∧ H (70 + 2 * i + 1) ≤ 9 := by
  have vl : vld H 2 i := Or.inl hi
  have a0 : 0 ≤ H (70 + 2 * i) ∧ H (70 + 2 * i) ≤ 29 := p.2.1 2 i 0 (by omega) vl (by decide)
  have a1 : 1 ≤ H (70 + 2 * i + 1) ∧ H (70 + 2 * i + 1) ≤ 9 := p.2.1 2 i 1 (by omega) vl (by decide)
  omega
theorem hp_k (p : HP H m) {i : Nat} (hi : (i : Int) < H 6) : 0 ≤ H (90 + 2 * i) ∧ H (90 + 2 * i) ≤ 29 ∧ 1 ≤ H (90 + 2 * i + 1) ∧ H (90 + 2 * i + 1) ≤ 9 := by
  have vl : vld H 3 i := Or.inl hi
  have a0 : 0 ≤ H (90 + 2 * i) ∧ H (90 + 2 * i) ≤ 29 := p.2.1 3 i 0 (by omega) vl (by decide)
  have a1 : 1 ≤ H (90 + 2 * i + 1) ∧ H (90 + 2 * i + 1) ≤ 9 := p.2.1 3 i 1 (by omega) vl (by decide)
  omega
theorem hp_f (p : HP H m) {f : Nat} (hf : (f : Int) < H 7) : 0 ≤ fkM H f 0 ∧ fkM H f 0 ≤ 29 ∧ 0 ≤ fkM H f 1 ∧ fkM H f 1 ≤ 60 ∧ 0 ≤ fkM H f 2 ∧ fkM H f 2 ≤ 9 ∧ 0 ≤ fkM H f 3 ∧ fkM H f 3 ≤ 30 ∧ 0 ≤ fkM H f 4 ∧ fkM H f 4 ≤ 9 ∧ 0 ≤ fkM H f 5 ∧ fkM H f 5 ≤ 1 := by
  have vl : vld H 4 f := Or.inl hf
  have a0 : 0 ≤ fkM H f 0 ∧ fkM H f 0 ≤ 29 := p.2.1 4 f 0 (by omega) vl (by decide)
  have a1 : 0 ≤ fkM H f 1 ∧ fkM H f 1 ≤ 60 := p.2.1 4 f 1 (by omega) vl (by decide)
  have a2 : 0 ≤ fkM H f 2 ∧ fkM H f 2 ≤ 9 := p.2.1 4 f 2 (by omega) vl (by decide)
  have a3 : 0 ≤ fkM H f 3 ∧ fkM H f 3 ≤ 30 := p.2.1 4 f 3 (by omega) vl (by decide)
  have a4 : 0 ≤ fkM H f 4 ∧ fkM H f 4 ≤ 9 := p.2.1 4 f 4 (by omega) vl (by decide)
  have a5 : 0 ≤ fkM H f 5 ∧ fkM H f 5 ≤ 1 := p.2.1 4 f 5 (by omega) vl (by decide)
  omega
theorem C_item {κ n w : Nat} (hk : κ < 5) (hn : n < 6) (hw : w < 6) : f_HR_itemOf (ii κ) (ii n) (ii w) h = some (h.1 5 (36 * κ + 6 * n + w)) := by
  unfold f_HR_itemOf
  have t1 : (((κ : Int) * 6 + n) * 6 + w).toNat = 36 * κ + 6 * n + w := by omega
  simp (disch := omega) only [Option.bind_some, if_true, if_false, not_true_eq_false, not_false_eq_true, z0, ii_add, ii_sub, ii_mul, ifLeT, ifLeF, ifLtT, ifLtF, ifEqT, ifEqF, ifNeT, ifNeF, ifIn, nixZ, ii_i64, o0, o1, isInT, isInF, tn14, tn12, tn2, tn21, tn47, tn48, tn49, tn471, tn472, Int.reduceToNat, Int.toNat_natCast, Int.reduceAdd, Int.reduceSub, Int.reduceMul, Int.reduceNeg, Nat.reduceAdd, Nat.reduceSub, Nat.reduceMul, t1]
theorem vP_hi (p : HP H (H 4).toNat) {v : Nat} (hv : (v : Int) < H 4) {c : Int} {k : Nat} (hk : k ≤ 8) : vP H v c k = -1 ∨ (1 ≤ vP H v c k ∧ vP H v c k ≤ H (10 + 13 * v + 1) + k * H (10 + 13 * v + 2) ∧ vP H v c k ≤ 132) := by
  have hr := hp_v p hv
  have := vP_lo (H := H) (v := v) (c := c) hr.2.2.1 hr.2.2.2.2.1 k
  have : (k : Int) * H (10 + 13 * v + 2) ≤ 8 * 9 := Int.mul_le_mul (by omega) (by omega) (by omega) (by omega)
  omega
theorem dmin_hi (p : HP H (H 4).toNat) (c : Int) : ∀ v : Nat, (v : Int) ≤ H 4 → dmin H c v = -1 ∨ (1 ≤ dmin H c v ∧ dmin H c v ≤ 132)
  | 0, _ => Or.inl rfl
  | v + 1, hv => by
    have ih := dmin_hi p c v (by omega)
    have hr := hp_v p (v := v) (by omega)
    have hL := p.2.2 v (by omega)
    have := vP_hi p (v := v) (c := c) (k := (H (10 + 13 * v + 3)).toNat) (by omega) (by omega)
    rw [dmin_cm, vAt_P hr.2.2.1 hr.2.2.2.2.1]
    unfold cbM
    split <;> omega
def SVo (H : Nat → Int) (o v : Nat) (h : AH) (x : Option (Int32 × AH)) : Prop := (WhV H v ∧ ∃ h1, x = some (ii 1, h1) ∧ SF o h h1 ∧ CHd H (fun c => dmin H c (v + 1)) (v + 1) 0 0 o h1) ∨ (¬ WhV H v ∧ ∃ h1, x = some (ii 0, h1) ∧ SF o h h1)
theorem C_sv (p : HP H (H 4).toNat) {v : Nat} (hv : (v : Int) < H 4) (ho : o = 43 ∨ o = 49) (er : h.2.2 3 4 = o) (T : TBi H h) (K : TBk (H 4).toNat H h) (C : CHd H (fun c => dmin H c v) v 0 0 o h) : SVo H o v h (f_HR_settleVein (ii v) h) := by
  have hcl := hp_c p
  have hru := hp_r p
  have hn := hp_n p
  have hr := hp_v p hv
  have hLr := p.2.2 v (by omega)
  obtain ⟨L, hL⟩ := Int.eq_ofNat_of_zero_le hLr.1
  have kv := K v (by omega)
  have vl : vld H 1 v := Or.inl hv
  have i0 : f_HR_itemOf (ii 1) (ii v) (ii 0) h = some (ii (H (10 + 13 * v))) := by
    have := C_item (h := h) (κ := 1) (n := v) (w := 0) (by omega) (by omega) (by omega)
    rw [T.2 1 v 0 (by omega) vl (by decide)] at this; exact this
  have i1 : f_HR_itemOf (ii 1) (ii v) (ii 1) h = some (ii (H (10 + 13 * v + 1))) := by
    have := C_item (h := h) (κ := 1) (n := v) (w := 1) (by omega) (by omega) (by omega)
    rw [T.2 1 v 1 (by omega) vl (by decide)] at this; exact this
  have i2 : f_HR_itemOf (ii 1) (ii v) (ii 2) h = some (ii (H (10 + 13 * v + 2))) := by
    have := C_item (h := h) (κ := 1) (n := v) (w := 2) (by omega) (by omega) (by omega)
    rw [T.2 1 v 2 (by omega) vl (by decide)] at this; exact this
  have ec := C_cell hcl C.1.2.2.2.2.1 (c := H (10 + 13 * v)) (by omega) (by omega)
  unfold f_HR_settleVein
  rw [bind_eq i0, bind_eq i1, bind_eq i2, er, ec]
  by_cases q1 : H (10 + 13 * v) < cellsM H
  · rw [if_pos (show 0 ≤ H (10 + 13 * v) ∧ H (10 + 13 * v) < cellsM H from ⟨hr.1, q1⟩), if_neg i10]
    obtain ⟨u, hu⟩ := Int.eq_ofNat_of_zero_le hr.1
    have hD : ∀ c : Nat, -1 ≤ dmin H c v ∧ dmin H c v ≤ 1000 := fun c => by have := dmin_hi p c v (by omega); omega
    obtain ⟨h1, m1, F1, C1⟩ := C_moi hcl C hD (u := u) (by omega) (e := H (10 + 13 * v + 1)) (by omega) (by omega)
    rw [hu, bind_eq m1]
    have hvc0 : vc H v 0 = u := hu
    have hst : ∀ y, SF o h y → y.2.2 3 4 = o ∧ y.1 6 = h.1 6 ∧ y.1 7 = h.1 7 := fun y F => ⟨by rw [F.1]; exact er, F.2 6 (by omega), F.2 7 (by omega)⟩
    refine lup (fun n k (a : Int32 × Int32 × Int32 × AH) => HR_settleVein_L56 n (ii v) a.1 a.2.1 (ii (H (10 + 13 * v + 2))) a.2.2.1 (ii k) a.2.2.2) L (fun k a => a.1 = ii (vc H v k) ∧ a.2.1 = ii (H (10 + 13 * v + 1) + k * H (10 + 13 * v + 2)) ∧ (∀ c : Nat, c < 32 → (tb a.2.2.1 c = true ↔ ((c : Int) < cellsM H ∧ vP H v c k ≠ -1))) ∧ (∀ j, j ≤ k → 0 ≤ vc H v j ∧ vc H v j < cellsM H) ∧ SF o h a.2.2.2 ∧ CHd H (fun c => cbM (dmin H c v) (vP H v c k)) v 0 0 o a.2.2.2) (SVo H o v h) ?_ ?_ L 0 FU (ii u, ii (H (10 + 13 * v + 1)), p_HF_bit (ii u), h1) (by omega) (by unfold FU; omega) ⟨by rw [hvc0], by simp, fun c hc => ?_, fun j hj => ?_, F1, ?_⟩
    · rintro n ⟨cell, depth, bits, x⟩ ⟨r1, r2, r3, r4, r5, r6⟩
      simp only at r1 r2 r3 r5 r6 ⊢
      obtain ⟨s1, s2, s3⟩ := hst x r5
      have e7 : x.1 7 v = ii (L : Int) := by rw [s3, kv.1, hL]
      have hPc : ∀ c : Nat, vAt H v c = vP H v c L := fun c => by rw [vAt_P hr.2.2.1 hr.2.2.2.2.1, hL, Int.toNat_natCast]
      obtain ⟨h2, a1, a2, a3⟩ := C_adv r6 (x := bits) (fun c hc => by rw [hPc]; exact r3 c hc)
      refine Or.inl ⟨⟨q1, fun k hk => by have := r4 k (by omega); omega⟩, h2, ?_, r5.tr a2, ?_⟩
      · show HR_settleVein_L56_b _ _ _ _ _ _ _ _ = _
        unfold HR_settleVein_L56_b
        rw [if_pos (by rw [ii_inb (by omega) (by omega)]; simp; omega), ii_nat (by omega) (by omega), Int.toNat_natCast, e7, if_pos (by rw [ii_le (by omega) (by omega) (by omega) (by omega)]; omega), s1, bind_eq a1]
      · rw [show (fun c : Nat => dmin H c (v + 1)) = (fun c : Nat => cbM (dmin H c v) (vP H v c L)) from funext (fun c => by rw [dmin_cm, hPc])]
        exact a3
    · rintro n k ⟨cell, depth, bits, x⟩ hk ⟨r1, r2, r3, r4, r5, r6⟩
      simp only at r1 r2 r3 r5 r6 ⊢
      obtain ⟨s1, s2, s3⟩ := hst x r5
      have e7 : x.1 7 v = ii (L : Int) := by rw [s3, kv.1, hL]
      have hway := hLr.2.2 k (by omega)
      have e6 : x.1 6 (8 * v + k) = ii (H (10 + 13 * v + 4 + k)) := by rw [s2]; exact kv.2 k (by omega)
      have hck := r4 k (Nat.le_refl _)
      have eb := C_bey hru.1 hcl r6.1.1 r6.1.2.1 r6.1.2.2.2.2.1 hck.1 hck.2 (way := H (10 + 13 * v + 4 + k)) (by omega) (by omega)
      have evc : vc H v (k + 1) = nb (H 0) (H 1) (vc H v k) (H (10 + 13 * v + 4 + k)) := rfl
      rw [← evc] at eb
      have t8 : ((v : Int) * 8 + k).toNat = 8 * v + k := by omega
      have est : HR_settleVein_L56 (n + 1) (ii v) cell depth (ii (H (10 + 13 * v + 2))) bits (ii k) x = if ii (vc H v (k + 1)) = (ii (-1)) then some ((ii 0), x) else (f_Heath_moisten o (ii (vc H v (k + 1))) (depth + ii (H (10 + 13 * v + 2))) x).bind fun q4 => HR_settleVein_L56 n (ii v) (ii (vc H v (k + 1))) (depth + ii (H (10 + 13 * v + 2))) (ii (H (10 + 13 * v + 2))) (bits ||| (p_HF_bit (ii (vc H v (k + 1))))) (ii (k + 1 : Nat)) q4 := by
        show HR_settleVein_L56_b _ _ _ _ _ _ _ _ = _
        unfold HR_settleVein_L56_b
        rw [if_pos (by rw [ii_inb (by omega) (by omega)]; simp; omega), ii_nat (a := (v : Int)) (by omega) (by omega), Int.toNat_natCast v, e7, if_neg (by rw [ii_le (by omega) (by omega) (by omega) (by omega)]; omega), if_neg (by rw [ii_le (by omega) (by omega) (by omega) (by omega)]; omega), ii_mul, ii_add, if_pos (by rw [ii_inb (by omega) (by omega)]; simp; omega), ii_nat (by omega) (by omega), t8, e6, s1, r1, bind_eq eb, ii_sc]
      rw [est]
      by_cases q2 : vc H v (k + 1) = -1
      · left
        rw [if_pos (by rw [q2])]
        exact Or.inr ⟨fun z => z.2 (k + 1) (by omega) q2, x, rfl, r5⟩
      · right
        have hin : 0 ≤ vc H v (k + 1) ∧ vc H v (k + 1) < cellsM H := by rw [evc] at q2 ⊢; exact nb_in (by omega) q2
        obtain ⟨u', hu'⟩ := Int.eq_ofNat_of_zero_le hin.1
        rw [if_neg (by rw [ii_eq (by omega) (by omega) (by omega) (by omega)]; exact q2)]
        have hfm : (k : Int) * H (10 + 13 * v + 2) ≤ 8 * 9 := Int.mul_le_mul (by omega) (by omega) (by omega) (by omega)
        have hfm0 : 0 ≤ (k : Int) * H (10 + 13 * v + 2) := Int.mul_nonneg (by omega) (by omega)
        have ed : depth + ii (H (10 + 13 * v + 2)) = ii (H (10 + 13 * v + 1) + ((k + 1 : Nat) : Int) * H (10 + 13 * v + 2)) := by
          rw [r2, ii_add]; congr 1
          rw [show ((k + 1 : Nat) : Int) = (k : Int) + 1 by omega, Int.add_mul, Int.one_mul]; omega
        have em : ((k + 1 : Nat) : Int) * H (10 + 13 * v + 2) = (k : Int) * H (10 + 13 * v + 2) + H (10 + 13 * v + 2) := by rw [show ((k + 1 : Nat) : Int) = (k : Int) + 1 by omega, Int.add_mul, Int.one_mul]
        obtain ⟨h2, m2, F2, C2⟩ := C_moi hcl r6 (fun c => by
          have a1 := dmin_hi p c v (by omega)
          have a2 := vP_hi p (v := v) (c := c) (k := k) hv (by omega)
          show -1 ≤ cbM _ _ ∧ cbM _ _ ≤ 1000
          unfold cbM; split <;> omega) (u := u') (by omega) (e := H (10 + 13 * v + 1) + ((k + 1 : Nat) : Int) * H (10 + 13 * v + 2)) (by omega) (by omega)
        rw [ed, hu', bind_eq m2]
        refine ⟨(ii u', ii (H (10 + 13 * v + 1) + ((k + 1 : Nat) : Int) * H (10 + 13 * v + 2)), bits ||| p_HF_bit (ii u'), h2), rfl, rfl, rfl, fun c hc => ?_, fun j hj => ?_, r5.tr F2, ?_⟩
        · simp only
          rw [tb_or, C_bit, tb_bit (by omega), Bool.or_eq_true, decide_eq_true_eq, r3 c hc]
          have ep : vP H v c (k + 1) = if vP H v c k ≠ -1 then vP H v c k else if vc H v (k + 1) = c then H (10 + 13 * v + 1) + (k + 1 : Nat) * H (10 + 13 * v + 2) else -1 := rfl
          rw [ep]
          by_cases z1 : vP H v c k ≠ -1
          · rw [if_pos z1]
            constructor
            · rintro (y | y)
              · exact y
              · exact ⟨by omega, z1⟩
            · intro y; exact Or.inl y
          · rw [if_neg z1, hu']
            by_cases z2 : (u' : Int) = c
            · rw [if_pos z2]
              constructor
              · intro _; exact ⟨by omega, by omega⟩
              · intro _; right; omega
            · rw [if_neg z2]
              constructor
              · rintro (y | y)
                · exact absurd y.2 z1
                · omega
              · intro y; exact absurd rfl y.2
        · by_cases e : j = k + 1
          · rw [e]; exact hin
          · exact r4 j (by omega)
        · refine (show (fun c : Nat => cbM (dmin H c v) (vP H v c (k + 1))) = _ from funext (fun c => ?_)) ▸ C2
          have a1 := dmin_hi p c v (by omega)
          have a2 := vP_hi p (v := v) (c := c) (k := k) hv (by omega)
          have ep : vP H v c (k + 1) = if vP H v c k ≠ -1 then vP H v c k else if vc H v (k + 1) = c then H (10 + 13 * v + 1) + (k + 1 : Nat) * H (10 + 13 * v + 2) else -1 := rfl
          by_cases z : c = u'
          · have hcu : vc H v (k + 1) = c := by rw [hu', z]
            rw [if_pos hcu] at ep
            have cs := cm_step (a := dmin H c v) (p := vP H v c k) (x := vP H v c (k + 1)) (e := H (10 + 13 * v + 1) + ((k + 1 : Nat) : Int) * H (10 + 13 * v + 2)) (by omega) (by omega) (by omega) (by omega) ep
            rw [← cs]
            simp only [z, true_and]
          · have hcu : ¬ vc H v (k + 1) = c := by rw [hu']; omega
            rw [if_neg hcu] at ep
            have ep2 : vP H v c (k + 1) = vP H v c k := by
              rw [ep]; split
              · rfl
              · rename_i y; omega
            rw [ep2, if_neg (fun y => z y.1)]
    · rw [C_bit, tb_bit (by omega), decide_eq_true_eq]
      show c = u ↔ ((c : Int) < cellsM H ∧ (if vc H v 0 = c then H (10 + 13 * v + 1) else -1) ≠ -1)
      rw [hvc0]
      by_cases z : (u : Int) = c
      · rw [if_pos z]; omega
      · rw [if_neg z]; omega
    · have : j = 0 := by omega
      subst this
      rw [hvc0]; omega
    · refine (show (fun c : Nat => cbM (dmin H c v) (vP H v c 0)) = _ from funext (fun c => ?_)) ▸ C1
      have a1 := dmin_hi p c v (by omega)
      show cbM (dmin H c v) (if vc H v 0 = c then H (10 + 13 * v + 1) else -1) = _
      rw [hvc0]
      unfold cbM
      by_cases z : c = u
      · rw [if_pos (show (u : Int) = c by omega)]
        by_cases y : dmin H c v = -1 ∨ H (10 + 13 * v + 1) < dmin H c v
        · rw [if_pos ⟨by omega, y⟩, if_pos ⟨z, y⟩]
        · rw [if_neg (fun w => y w.2), if_neg (fun w => y w.2)]
      · rw [if_neg (show ¬ (u : Int) = c by omega), if_neg (fun w => w.1 rfl), if_neg (fun w => z w.1)]
  · rw [if_neg (show ¬ (0 ≤ H (10 + 13 * v) ∧ H (10 + 13 * v) < cellsM H) from fun z => q1 z.2), if_pos i00]
    exact Or.inr ⟨fun z => q1 z.1, h, rfl, SF.rf _ _⟩
end HW2
