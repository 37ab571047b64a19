/-! a heath taken: the row that begins, and the class's moor -/
section BG
variable {H : Nat → Int} {o : Nat} {h : AH}
theorem HW_of (p : HP H (H 4).toNat) (w : Wh H) : HW H := by
  have hr := hp_r p
  have hn := hp_n p
  have hcl := hp_c p
  obtain ⟨w1, w2, w3, w4, w5⟩ := w
  refine ⟨⟨hr.1.1, hr.1.2.1, hr.1.2.2.1, hr.1.2.2.2, hr.2.1, hr.2.2.1, hr.2.2.2.1, hr.2.2.2.2, hn.1.1, hn.1.2, hn.2.1.1, hn.2.1.2, hn.2.2.1.1, hn.2.2.1.2, w1, hn.2.2.2.2⟩, fun v hv => ?_, fun i hi => ?_, fun i hi => ?_, fun f hf => ?_⟩
  · have a := hp_v p hv
    have b := p.2.2 v (by omega)
    obtain ⟨c1, c2⟩ := w2 v hv
    have gen : ∀ k : Nat, (k : Int) ≤ H (10 + 13 * v + 3) → 0 ≤ vc H v k ∧ vc H v k < cellsM H := by
      intro k
      induction k with
      | zero => intro _; exact ⟨a.1, c1⟩
      | succ k ih =>
        intro hk
        have := ih (by omega)
        exact nb_in (by omega) (c2 (k + 1) hk)
    exact ⟨a.2.2.1, a.2.2.2.1, a.2.2.2.2.1, a.2.2.2.2.2, b.1, b.2.1, b.2.2, gen⟩
  · have a := hp_i p hi
    have b := w3 i (by omega)
    exact ⟨a.1, b.1, a.2.2.1, a.2.2.2, fun j hj => b.2 j hj⟩
  · have a := hp_k p hi
    have b := w4 i (by omega)
    exact ⟨a.1, b.1, a.2.2.1, a.2.2.2, fun j hj => b.2 j hj⟩
  · have a := hp_f p hf
    have b := w5 f hf
    exact ⟨a.1, b, a.2.2.1, a.2.2.2.1, a.2.2.2.2.1, a.2.2.2.2.2.1, a.2.2.2.2.2.2.1, a.2.2.2.2.2.2.2.1, a.2.2.2.2.2.2.2.2.1, a.2.2.2.2.2.2.2.2.2.1, by omega⟩
/-- the row with k forks set down -/
def dF (H : Nat → Int) : Nat → DY
  | 0 => fun _ => ii 0
  | k + 1 => mvD (dF H k) k (fkM H k 0) (fkM H k 5).toNat
theorem dF_hi (W : HW H) : ∀ (k j : Nat), (k : Int) ≤ H 7 → 14 ≤ j → dF H k j = ii 0
  | 0, _, _, _ => rfl
  | k + 1, j, hk, hj => by
    have hw := W.1
    have hf := W.2.2.2.2 k (by omega)
    show mvD (dF H k) k (fkM H k 0) (fkM H k 5).toNat j = ii 0
    rw [mvD_hi (by omega) (by omega) hj]
    exact dF_hi W k j (by omega) hj
theorem dF_od (W : HW H) : ∀ (k f : Nat), (k : Int) ≤ H 7 → f < 6 → dF H k (2 * f + 1) = ii 0
  | 0, _, _, _ => rfl
  | k + 1, f, hk, hf => by
    show mvD (dF H k) k (fkM H k 0) (fkM H k 5).toNat (2 * f + 1) = ii 0
    unfold mvD
    rw [upd_ne (by omega), upd_ne (by omega)]
    exact dF_od W k f (by omega) hf
theorem dF_pl (W : HW H) : ∀ (k f : Nat), (k : Int) ≤ H 7 → f < k → dF H k (2 * f) = ii (fkM H f 0)
  | 0, _, _, hf => by omega
  | k + 1, f, hk, hf => by
    have hw := W.1
    show mvD (dF H k) k (fkM H k 0) (fkM H k 5).toNat (2 * f) = _
    unfold mvD
    rw [upd_ne (by omega)]
    by_cases e : f = k
    · rw [e, upd_self]
    · rw [upd_ne (by omega)]
      exact dF_pl W k f (by omega) (by omega)
theorem dF_dw (W : HW H) : DW H (dF H (H 7).toNat) := by
  have hw := W.1
  have hi := fun j (hj : 14 ≤ j) => dF_hi W (H 7).toNat j (by omega) hj
  have hb : bL (dF H (H 7).toNat) = 0 := by unfold bL; rw [hi 46 (by omega)]; rfl
  refine ⟨⟨0, by omega, by omega, hi 45 (by omega)⟩, fun f hf => ?_, fun c hc => ⟨0, by omega, by omega, hi _ (by omega), fun _ => rfl⟩, ⟨?_, by omega⟩, fun j hj => by omega⟩
  · have := W.2.2.2.2 f hf
    exact ⟨fkM H f 0, this.1, this.2.1, dF_pl W _ f (by omega) (by omega)⟩
  · rw [hb, hi 46 (by omega)]; rfl
theorem C_begin (C : CH H o h) (W : HW H) (ho : o = 43 ∨ o = 49) : ∃ h1, f_Moor_begin 13 o h = some h1 ∧ Ag [13, 14, 15, 16, 18] h h1 ∧ MR H (dF H (H 7).toNat) 0 (mvO h1 13) := by
  have hFU := fu_1000
  have hw := W.1
  obtain ⟨hs, ehs⟩ : ∃ hs, hs = wI (wI (wI (wI h 13 5 (ii 0)) 13 6 (ii 0)) 13 7 (ii 0)) 13 8 (ii 0) := ⟨_, rfl⟩
  have As : Ag [13, 14, 15, 16, 18] h hs := by rw [ehs]; exact ((((Ag.rf _ _).pI (by decide)).pI (by decide)).pI (by decide)).pI (by decide)
  have rs : ∀ j, j = 5 ∨ j = 6 ∨ j = 7 ∨ j = 8 → hs.1 13 j = ii 0 := fun j hj => by
    rw [ehs]; simp only [wI_self, upd]
    rcases hj with e | e | e | e <;> subst e <;> rfl
  obtain ⟨h1, z1, A1, e13, e18⟩ : ∃ h1, Moor_begin_L22 FU 13 o (ii 0) hs = some h1 ∧ Ag [13, 14, 15, 16, 18] h h1 ∧ h1.1 13 = hs.1 13 ∧ ∀ c, c < 30 → h1.1 18 c = ii 0 := by
    refine lup (fun u k (x : AH) => Moor_begin_L22 u 13 o (ii k) x) 30 (fun k x => Ag [13, 14, 15, 16, 18] h x ∧ x.1 13 = hs.1 13 ∧ ∀ c, c < k → x.1 18 c = ii 0) (fun y => ∃ h1, y = some h1 ∧ Ag [13, 14, 15, 16, 18] h h1 ∧ h1.1 13 = hs.1 13 ∧ ∀ c, c < 30 → h1.1 18 c = ii 0) ?_ ?_ 30 0 FU hs (by omega) (by omega) ⟨As, rfl, fun c hc => by omega⟩
    · rintro u x ⟨r1, r2, r3⟩
      refine ⟨x, ?_, r1, r2, r3⟩
      simp (disch := omega) only [Option.bind_some, if_true, if_false, not_true_eq_false, not_false_eq_true, z0, ii_add, ii_sub, ii_mul, ifLeT, ifLeF, ifLtT, ifLtF, ifEqT, ifEqF, ifNeT, ifNeF, ifIn, nixZ, ii_i64, o0, o1, isInT, isInF, tn14, tn12, tn2, tn21, tn47, tn48, tn49, tn471, tn472, Int.reduceToNat, Int.toNat_natCast, Int.reduceAdd, Int.reduceSub, Int.reduceMul, Int.reduceNeg, Nat.reduceAdd, Nat.reduceSub, Nat.reduceMul, Moor_begin_L22, Moor_begin_L22_b, Int.cast_ofNat_Int]
    · rintro u k x hk ⟨r1, r2, r3⟩
      right
      refine ⟨wI x 18 k (ii 0), ?_, r1.pI (by decide), by rw [wI_ne (by decide)]; exact r2, fun c hc => ?_⟩
      · show Moor_begin_L22_b _ _ _ _ _ = _
        unfold Moor_begin_L22_b
        rw [if_neg (by rw [ii_le (by omega) (by omega) (by omega) (by omega)]; omega), if_pos (by rw [ii_inb (by omega) (by omega)]; omega), ii_nat (by omega) (by omega), Int.toNat_natCast, ii_sc]
      · rw [wI_self]
        by_cases e : c = k
        · rw [e, upd_self]
        · rw [upd_ne e]; exact r3 c (by omega)
  obtain ⟨h2, eh2⟩ : ∃ h2, h2 = wI (wI h1 16 0 (ii 0)) 16 1 (ii 0) := ⟨_, rfl⟩
  have A2 : Ag [13, 14, 15, 16, 18] h h2 := by rw [eh2]; exact (A1.pI (by decide)).pI (by decide)
  have e0 : f_Moor_begin 13 o h = Moor_begin_L57 FU 13 o (ii 0) h2 := by
    unfold f_Moor_begin
    generalize FU = F at *
    rw [← ehs, bind_eq z1, if_pos (by decide), if_pos (by decide), show (ii 0).toNatClampNeg = 0 by decide, show (ii 1).toNatClampNeg = 1 by decide, ← eh2]
  rw [e0]
  obtain ⟨N, hN⟩ := Int.eq_ofNat_of_zero_le (show 0 ≤ H 7 by omega)
  have hNt : (H 7).toNat = N := by omega
  rw [hNt]
  have fin : ∀ x : AH, Ag [13, 14, 15, 16, 18] h x → (x.1 13 = hs.1 13 ∧ (∀ c, c < 30 → x.1 18 c = ii 0)) → (∀ f, f < 6 → x.1 15 f = ii 0) → (∀ f, f < N → x.1 14 f = ii (fkM H f 0)) → (∀ g, g < 2 → x.1 16 g = dF H N (12 + g)) → MR H (dF H N) 0 (mvO x 13) := fun x a1 a2 a3 a4 a5 => by
    have hi := fun j (hj : 14 ≤ j) => dF_hi W N j (by omega) hj
    have hb : bL (dF H N) = 0 := by unfold bL; rw [hi 46 (by omega)]; rfl
    refine ⟨fun f hf => ?_, fun f hf => ?_, ⟨a5 0 (by omega), a5 1 (by omega)⟩, ⟨?_, by omega, by rw [hb]; rfl, fun i hi' => by omega⟩, fun c hc => ?_, ?_, ?_, ?_⟩
    · show x.1 14 f = _
      rw [a4 f (by omega), dF_pl W N f (by omega) (by omega)]
    · show x.1 15 f = _
      rw [a3 f hf]
      by_cases q : (f : Int) < H 7
      · rw [if_pos q, dF_od W N f (by omega) hf]
      · rw [if_neg q]
    · show x.1 13 5 = _
      rw [a2.1, rs 5 (by decide)]; rfl
    · show x.1 18 c = _
      rw [a2.2 c hc, hi _ (by omega)]
    · show x.1 13 6 = _
      rw [a2.1, rs 6 (by decide)]
      refine tb_ext (fun i hi' => ?_)
      unfold wlM
      rw [tb_0, tb_mk _ (by omega)]
      by_cases q : i < 30
      · rw [hi _ (by omega)]; simp; intro _; rfl
      · simp [q]
    · show x.1 13 7 = _
      rw [a2.1, rs 7 (by decide), hi 44 (by omega)]
    · show x.1 13 8 = _
      rw [a2.1, rs 8 (by decide), hi 45 (by omega)]
  refine lup (fun u k (x : AH) => Moor_begin_L57 u 13 o (ii k) x) 6 (fun k x => Ag [13, 14, 15, 16, 18] h x ∧ (x.1 13 = hs.1 13 ∧ (∀ c, c < 30 → x.1 18 c = ii 0)) ∧ (∀ f, f < k → x.1 15 f = ii 0) ∧ (∀ f, f < k → f < N → x.1 14 f = ii (fkM H f 0)) ∧ ∀ g, g < 2 → x.1 16 g = dF H (min k N) (12 + g)) (fun y => ∃ h1, y = some h1 ∧ Ag [13, 14, 15, 16, 18] h h1 ∧ MR H (dF H N) 0 (mvO h1 13)) ?_ ?_ 6 0 FU h2 (by omega) (by omega) ⟨A2, ⟨?_, fun c hc => ?_⟩, fun f hf => by omega, fun f hf => by omega, fun g hg => ?_⟩
  · rintro u x ⟨r1, r2, r3, r4, r5⟩
    refine ⟨x, ?_, r1, fin x r1 r2 r3 (fun f hf => r4 f (by omega) hf) (fun g hg => by rw [r5 g hg, show min 6 N = N by omega])⟩
    simp (disch := omega) only [Option.bind_some, if_true, if_false, not_true_eq_false, not_false_eq_true, z0, ii_add, ii_sub, ii_mul, ifLeT, ifLeF, ifLtT, ifLtF, ifEqT, ifEqF, ifNeT, ifNeF, ifIn, nixZ, ii_i64, o0, o1, isInT, isInF, tn14, tn12, tn2, tn21, tn47, tn48, tn49, tn471, tn472, Int.reduceToNat, Int.toNat_natCast, Int.reduceAdd, Int.reduceSub, Int.reduceMul, Int.reduceNeg, Nat.reduceAdd, Nat.reduceSub, Nat.reduceMul, Moor_begin_L57, Moor_begin_L57_b, Int.cast_ofNat_Int]
  · rintro u k x hk ⟨r1, r2, r3, r4, r5⟩
    right
    obtain ⟨y, ey⟩ : ∃ y, y = wI (wI x 15 k (ii 0)) 14 k (ii (-1)) := ⟨_, rfl⟩
    have Ay : Ag [13, 14, 15, 16, 18] h y := by rw [ey]; exact (r1.pI (by decide)).pI (by decide)
    have Cy : CH H o y := C.ag (fun i hi => Ay.1 _ (by simp; omega))
    have y13 : y.1 13 = hs.1 13 := by rw [ey, wI_ne (by decide), wI_ne (by decide)]; exact r2.1
    have y18 : ∀ c, c < 30 → y.1 18 c = ii 0 := fun c hc => by rw [ey, wI_ne (by decide), wI_ne (by decide)]; exact r2.2 c hc
    have y15 : ∀ f, f < k + 1 → y.1 15 f = ii 0 := fun f hf => by
      rw [ey, wI_ne (by decide), wI_self]
      by_cases e : f = k
      · rw [e, upd_self]
      · rw [upd_ne e]; exact r3 f (by omega)
    have y16 : y.1 16 = x.1 16 := by rw [ey, wI_ne (by decide), wI_ne (by decide)]
    have y14 : ∀ f, f ≠ k → y.1 14 f = x.1 14 f := fun f hf => by rw [ey, wI_self, upd_ne hf, wI_ne (by decide)]
    have ef := C_isFork Cy (Or.inr W) (c := (k : Int)) (by omega) (by omega)
    have ik : inb (ii (k : Int)) 6 = true := by rw [ii_inb (by omega) (by omega)]; omega
    have est : ∀ y', (if (p_Heath_isFork o (ii k) y) = 0 then some y else (f_Heath_trait o (ii k) (ii 0) y).bind fun q1 => (f_Heath_trait o (ii k) (ii 5) y).bind fun q2 => (f_Moor_move 13 (ii k) q1 q2 y).bind fun q3 => some q3) = some y' → Moor_begin_L57 (u + 1) 13 o (ii k) x = Moor_begin_L57 u 13 o (ii (k + 1 : Nat)) y' := fun y' hy' => by
      show Moor_begin_L57_b _ _ _ _ _ = _
      unfold Moor_begin_L57_b
      rw [if_neg (by rw [ii_le (by omega) (by omega) (by omega) (by omega)]; omega), if_pos ik, if_pos ik, ii_nat (by omega) (by omega), Int.toNat_natCast]
      show (if (p_Heath_isFork o (ii k) (wI (wI x 15 k (ii 0)) 14 k (ii (-1)))) = 0 then _ else _ : Option AH).bind _ = _
      rw [← ey, bind_eq hy', ii_sc]
    by_cases q : (k : Int) < H 7
    · rw [if_pos (show 0 ≤ (k : Int) ∧ (k : Int) < H 7 from ⟨by omega, q⟩)] at ef
      have hfk := W.2.2.2.2 k q
      obtain ⟨gu, hgu⟩ := Int.eq_ofNat_of_zero_le (show 0 ≤ fkM H k 5 by omega)
      have t0 := C_t0 Cy W q
      have t5 := C_t5 Cy W q
      rw [hgu] at t5
      obtain ⟨c, hc⟩ := Int.eq_ofNat_of_zero_le hfk.1
      rw [hc] at t0
      have hcl := W.cells
      have x16 : ∀ v, (wI y 14 k v).1 16 gu = x.1 16 gu := fun v => by rw [wI_ne (by decide), y16]
      have em : f_Moor_move 13 (ii k) (ii (c : Int)) (ii gu) y = some (wI (wI y 14 k (ii c)) 16 gu (x.1 16 gu ||| bitI c)) := by
        unfold f_Moor_move
        rcases (show gu = 0 ∨ gu = 1 by omega) with e | e <;> subst e
        · simp (disch := omega) only [Option.bind_some, if_true, if_false, not_true_eq_false, not_false_eq_true, z0, ii_add, ii_sub, ii_mul, ifLeT, ifLeF, ifLtT, ifLtF, ifEqT, ifEqF, ifNeT, ifNeF, ifIn, nixZ, ii_i64, o0, o1, isInT, isInF, tn14, tn12, tn2, tn21, tn47, tn48, tn49, tn471, tn472, Int.reduceToNat, Int.toNat_natCast, Int.reduceAdd, Int.reduceSub, Int.reduceMul, Int.reduceNeg, Nat.reduceAdd, Nat.reduceSub, Nat.reduceMul, x16, C_bit, Int.cast_ofNat_Int]
        · simp (disch := omega) only [Option.bind_some, if_true, if_false, not_true_eq_false, not_false_eq_true, z0, ii_add, ii_sub, ii_mul, ifLeT, ifLeF, ifLtT, ifLtF, ifEqT, ifEqF, ifNeT, ifNeF, ifIn, nixZ, ii_i64, o0, o1, isInT, isInF, tn14, tn12, tn2, tn21, tn47, tn48, tn49, tn471, tn472, Int.reduceToNat, Int.toNat_natCast, Int.reduceAdd, Int.reduceSub, Int.reduceMul, Int.reduceNeg, Nat.reduceAdd, Nat.reduceSub, Nat.reduceMul, x16, C_bit, Int.cast_ofNat_Int]
      refine ⟨wI (wI y 14 k (ii c)) 16 gu (x.1 16 gu ||| bitI c), est _ ?_, (Ay.pI (by decide)).pI (by decide), ⟨by rw [wI_ne (by decide), wI_ne (by decide)]; exact y13, fun c hc => by rw [wI_ne (by decide), wI_ne (by decide)]; exact y18 c hc⟩, fun f hf => by rw [wI_ne (by decide), wI_ne (by decide)]; exact y15 f hf, fun f hf hfN => ?_, fun g hg => ?_⟩
      · rw [ef, if_neg i10, bind_eq t0, bind_eq t5, bind_eq em]
      · rw [wI_ne (by decide), wI_self]
        by_cases e : f = k
        · rw [e, upd_self, hc]
        · rw [upd_ne e, y14 f e]; exact r4 f (by omega) hfN
      · rw [wI_self, show min (k + 1) N = k + 1 by omega]
        have r5' := fun g hg => r5 g hg
        rw [show min k N = k by omega] at r5'
        show _ = mvD (dF H k) k (fkM H k 0) (fkM H k 5).toNat (12 + g)
        unfold mvD
        rw [hgu, Int.toNat_natCast, hc]
        by_cases e : g = gu
        · rw [e, upd_self, upd_self, r5' gu (by omega)]
        · rw [upd_ne e, wI_ne (by decide), y16, upd_ne (by omega), upd_ne (by omega)]
          exact r5' g hg
    · rw [if_neg (show ¬ (0 ≤ (k : Int) ∧ (k : Int) < H 7) from fun z => q z.2)] at ef
      refine ⟨y, est _ (by rw [ef, if_pos i00]), Ay, ⟨y13, y18⟩, y15, fun f hf hfN => by rw [y14 f (by omega)]; exact r4 f (by omega) hfN, fun g hg => ?_⟩
      rw [y16, r5 g hg, show min k N = min (k + 1) N by omega]
  · rw [eh2, wI_ne (by decide), wI_ne (by decide)]; exact e13
  · rw [eh2, wI_ne (by decide), wI_ne (by decide)]; exact e18 c hc
  · rw [eh2, wI_self, wI_self, show min 0 N = 0 by omega]
    show _ = ii 0
    rcases (show g = 0 ∨ g = 1 by omega) with e | e <;> subst e
    · rw [upd_ne (by decide), upd_self]
    · rw [upd_self]
end BG
