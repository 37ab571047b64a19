/-! the class settles a heath -/
section HK
variable {H : Nat → Int} {o : Nat} {h : AH}
def TRf (H : Nat → Int) (n o : Nat) (h : AH) : Prop := ∀ f k, f < n → k < 6 → h.1 (o + 5) (6 * f + k) = ii (trM H f k)
theorem CHd.ne {D : Nat → Int} {v i r : Nat} {h1 : AH} (C : CHd H D v i r o h) (e : ∀ y, y ≠ o + 5 → h1.1 y = h.1 y) : CHd H D v i r o h1 := by
  unfold CHd
  rw [e o (by omega), e (o + 1) (by omega), e (o + 2) (by omega), e (o + 3) (by omega), e (o + 4) (by omega)]
  exact C
theorem C_setTr {f w : Nat} {v : Int32} {n : Int} (e10 : h.1 o 10 = ii n) (hf : (f : Int) < n) (n6 : n ≤ 6) (hw : w < 6) : f_Heath_setTrait o (ii f) (ii w) v h = some (wI h (o + 5) (6 * f + w) v) := by
  have ef : p_Heath_isFork o (ii f) h = ii 1 := by unfold p_Heath_isFork; simp (disch := omega) only [Option.bind_some, if_true, if_false, not_true_eq_false, not_false_eq_true, z0, ii_add, ii_sub, ii_mul, ifLeT, ifLeF, ifLtT, ifLtF, ifEqT, ifEqF, ifNeT, ifNeF, ifIn, nixZ, ii_i64, o0, o1, isInT, isInF, tn14, tn12, tn2, tn21, tn47, tn48, tn49, tn471, tn472, Int.reduceToNat, Int.toNat_natCast, Int.reduceAdd, Int.reduceSub, Int.reduceMul, Int.reduceNeg, Nat.reduceAdd, Nat.reduceSub, Nat.reduceMul, e10]
  have t1 : ((f : Int) * 6 + w).toNat = 6 * f + w := by omega
  unfold f_Heath_setTrait
  simp (disch := omega) only [Option.bind_some, if_true, if_false, not_true_eq_false, not_false_eq_true, z0, ii_add, ii_sub, ii_mul, ifLeT, ifLeF, ifLtT, ifLtF, ifEqT, ifEqF, ifNeT, ifNeF, ifIn, nixZ, ii_i64, o0, o1, isInT, isInF, tn14, tn12, tn2, tn21, tn47, tn48, tn49, tn471, tn472, Int.reduceToNat, Int.toNat_natCast, Int.reduceAdd, Int.reduceSub, Int.reduceMul, Int.reduceNeg, Nat.reduceAdd, Nat.reduceSub, Nat.reduceMul, ef, t1]
theorem C_sf {D : Nat → Int} {v i r : Nat} (p : HP H (H 4).toNat) (ho : o = 43 ∨ o = 49) (er : h.2.2 3 4 = o) (T : TBi H h) (C : CHd H D v i r o h) (e10 : h.1 o 10 = ii (H 7)) {f : Nat} (hf : (f : Int) < H 7) (R : TRf H f o h) : (fkM H f 0 < cellsM H ∧ ∃ h1, f_HR_settleFork (ii f) h = some (ii 1, h1) ∧ SF o h h1 ∧ CHd H D v i r o h1 ∧ h1.1 o 10 = ii (H 7) ∧ TRf H (f + 1) o h1) ∨ (¬ fkM H f 0 < cellsM H ∧ ∃ h1, f_HR_settleFork (ii f) h = some (ii 0, h1) ∧ SF o h h1) := by
  have hcl := hp_c p
  have hn := hp_n p
  have hr := hp_f p hf
  have vl : vld H 4 f := Or.inl hf
  have it : ∀ (x : AH), x.1 5 = h.1 5 → ∀ w : Nat, w < 6 → f_HR_itemOf (ii 4) (ii f) (ii w) x = some (ii (fkM H f w)) := fun x hx w hw => by
    have := C_item (h := x) (κ := 4) (n := f) (w := w) (by omega) (by omega) hw
    rw [hx, T.2 4 f w (by omega) vl hw] at this; exact this
  unfold f_HR_settleFork
  refine lup (fun n k (x : AH) => HR_settleFork_L2 n (ii f) (ii k) x) 6 (fun k x => x.2 = h.2 ∧ (∀ y, y ≠ o + 5 → x.1 y = h.1 y) ∧ (∀ j, j < k → x.1 (o + 5) (6 * f + j) = ii (fkM H f j)) ∧ ∀ j, j < 6 * f → x.1 (o + 5) j = h.1 (o + 5) j) (fun y => (fkM H f 0 < cellsM H ∧ ∃ h1, y = some (ii 1, h1) ∧ SF o h h1 ∧ CHd H D v i r o h1 ∧ h1.1 o 10 = ii (H 7) ∧ TRf H (f + 1) o h1) ∨ (¬ fkM H f 0 < cellsM H ∧ ∃ h1, y = some (ii 0, h1) ∧ SF o h h1)) ?_ ?_ 6 0 FU h (by omega) (by unfold FU; omega) ⟨rfl, fun _ _ => rfl, fun j hj => by omega, fun _ _ => rfl⟩
  · rintro n x ⟨r1, r2, r3, r4⟩
    have x34 : x.2.2 3 4 = o := by rw [r1]; exact er
    have Cx : CHd H D v i r o x := C.ne r2
    have x10 : x.1 o 10 = ii (H 7) := by rw [r2 o (by omega)]; exact e10
    have Fx : SF o h x := ⟨r1, fun y hy => r2 y (by omega)⟩
    have i3 := it x (r2 5 (by omega)) 3 (by omega)
    have i0 := it x (r2 5 (by omega)) 0 (by omega)
    have c3 := C_cell hcl Cx.1.2.2.2.2.1 (c := fkM H f 3) (by omega) (by omega)
    have c0 := C_cell hcl Cx.1.2.2.2.2.1 (c := fkM H f 0) (by omega) (by omega)
    have i3' : f_HR_itemOf (ii 4) (ii f) (ii 3) x = some (ii (fkM H f 3)) := i3
    have i0' : f_HR_itemOf (ii 4) (ii f) (ii 0) x = some (ii (fkM H f 0)) := i0
    have tr : ∀ y : AH, (∀ j, j < 6 → y.1 (o + 5) (6 * f + j) = ii (trM H f j)) → (∀ j, j < 6 * f → y.1 (o + 5) j = h.1 (o + 5) j) → TRf H (f + 1) o y := fun y a b f' k hf' hk => by
      by_cases e : f' = f
      · rw [e]; exact a k hk
      · rw [b _ (by omega)]; exact R f' k (by omega) hk
    show (fkM H f 0 < cellsM H ∧ ∃ h1, HR_settleFork_L2_b _ _ _ _ = some (ii 1, h1) ∧ SF o h h1 ∧ CHd H D v i r o h1 ∧ h1.1 o 10 = ii (H 7) ∧ TRf H (f + 1) o h1) ∨ (¬ fkM H f 0 < cellsM H ∧ ∃ h1, HR_settleFork_L2_b _ _ _ _ = some (ii 0, h1) ∧ SF o h h1)
    unfold HR_settleFork_L2_b
    rw [if_pos (show ii 6 ≤ ii ((6 : Nat) : Int) by decide), bind_eq i3', x34, c3]
    by_cases q3 : fkM H f 3 < cellsM H
    · rw [if_pos (show 0 ≤ fkM H f 3 ∧ fkM H f 3 < cellsM H from ⟨by omega, q3⟩), if_neg i10, bind_eq i0', c0]
      have ht : TRf H (f + 1) o x := tr x (fun j hj => by
        rw [r3 j hj]; congr 1
        unfold trM wiM
        by_cases e : j = 3
        · rw [if_pos e, if_pos q3, e]
        · rw [if_neg e]) r4
      by_cases q0 : fkM H f 0 < cellsM H
      · rw [if_pos (show 0 ≤ fkM H f 0 ∧ fkM H f 0 < cellsM H from ⟨by omega, q0⟩), if_pos (by decide)]
        exact Or.inl ⟨q0, x, rfl, Fx, Cx, x10, ht⟩
      · rw [if_neg (show ¬ (0 ≤ fkM H f 0 ∧ fkM H f 0 < cellsM H) from fun z => q0 z.2), if_pos (by decide)]
        exact Or.inr ⟨q0, x, rfl, Fx⟩
    · have st := C_setTr (h := x) (o := o) (f := f) (w := 3) (v := ii (-1)) x10 hf (by omega) (by omega)
      have st' : f_Heath_setTrait o (ii f) (ii 3) (ii (-1)) x = some (wI x (o + 5) (6 * f + 3) (ii (-1))) := st
      obtain ⟨y, hy⟩ : ∃ y, y = wI x (o + 5) (6 * f + 3) (ii (-1)) := ⟨_, rfl⟩
      rw [← hy] at st'
      have yn : ∀ z, z ≠ o + 5 → y.1 z = x.1 z := fun z hz => by rw [hy, wI_ne hz]
      have y34 : y.2.2 3 4 = o := by rw [hy]; exact x34
      have i0y := it y (by rw [yn 5 (by omega), r2 5 (by omega)]) 0 (by omega)
      have i0y' : f_HR_itemOf (ii 4) (ii f) (ii 0) y = some (ii (fkM H f 0)) := i0y
      have Cy : CHd H D v i r o y := Cx.ne yn
      have Fy : SF o h y := Fx.tr (by rw [hy]; exact SF.w (by omega))
      have c0y := C_cell hcl Cy.1.2.2.2.2.1 (c := fkM H f 0) (by omega) (by omega)
      rw [if_neg (show ¬ (0 ≤ fkM H f 3 ∧ fkM H f 3 < cellsM H) from fun z => q3 z.2), if_pos i00, bind_eq st', bind_eq i0y', y34, c0y]
      have ht : TRf H (f + 1) o y := tr y (fun j hj => by
        rw [hy, wI_self]
        unfold trM wiM
        by_cases e : j = 3
        · rw [if_pos e, if_neg q3, e, upd_self]
        · rw [if_neg e, upd_ne (by omega)]; exact r3 j hj) (fun j hj => by rw [hy, wI_self, upd_ne (by omega)]; exact r4 j hj)
      by_cases q0 : fkM H f 0 < cellsM H
      · rw [if_pos (show 0 ≤ fkM H f 0 ∧ fkM H f 0 < cellsM H from ⟨by omega, q0⟩), if_pos (by decide)]
        exact Or.inl ⟨q0, y, rfl, Fy, Cy, by rw [yn o (by omega)]; exact x10, ht⟩
      · rw [if_neg (show ¬ (0 ≤ fkM H f 0 ∧ fkM H f 0 < cellsM H) from fun z => q0 z.2), if_pos (by decide)]
        exact Or.inr ⟨q0, y, rfl, Fy⟩
  · rintro n k x hk ⟨r1, r2, r3, r4⟩
    right
    have x34 : x.2.2 3 4 = o := by rw [r1]; exact er
    have x10 : x.1 o 10 = ii (H 7) := by rw [r2 o (by omega)]; exact e10
    have ik := it x (r2 5 (by omega)) k hk
    have st := C_setTr (h := x) (o := o) (f := f) (w := k) (v := ii (fkM H f k)) x10 hf (by omega) hk
    refine ⟨wI x (o + 5) (6 * f + k) (ii (fkM H f k)), ?_, r1, fun y hy => by rw [wI_ne hy]; exact r2 y hy, fun j hj => ?_, fun j hj => by rw [wI_self, upd_ne (by omega)]; exact r4 j hj⟩
    · show HR_settleFork_L2_b _ _ _ _ = _
      unfold HR_settleFork_L2_b
      rw [if_neg (by rw [ii_le (by omega) (by omega) (by omega) (by omega)]; omega), bind_eq ik, x34, bind_eq st, ii_sc]
    · rw [wI_self]
      by_cases e : j = k
      · rw [e, upd_self]
      · rw [upd_ne (by omega)]; exact r3 j (by omega)
/-- what the settling says -/
def STo (H : Nat → Int) (o : Nat) (h : AH) (x : Option (Int32 × AH)) : Prop := (Wh H ∧ ∃ h1, x = some (ii 1, h1) ∧ SF o h h1 ∧ CH H o h1) ∨ (¬ Wh H ∧ ∃ h1, x = some (ii 0, h1) ∧ SF o h h1)
theorem SF.tb {h1 : AH} (F : SF o h h1) (ho : o = 43 ∨ o = 49) : h1.2.2 3 4 = h.2.2 3 4 ∧ (TBi H h → TBi H h1) ∧ (∀ m, TBk m H h → TBk m H h1) ∧ h1.1 4 = h.1 4 := by
  have e4 := F.2 4 (by omega)
  have e5 := F.2 5 (by omega)
  have e6 := F.2 6 (by omega)
  have e7 := F.2 7 (by omega)
  refine ⟨by rw [F.1], fun T => ?_, fun m T => ?_, e4⟩
  · unfold TBi; rw [e4, e5]; exact T
  · unfold TBk; rw [e6, e7]; exact T
theorem C_settle (p : HP H (H 4).toNat) (h7 : 1 ≤ H 7) (ho : o = 43 ∨ o = 49) (er : h.2.2 3 4 = o) (T : TBi H h) (K : TBk (H 4).toNat H h) : STo H o h (f_HR_settle h) := by
  have hFU := fu_1000
  have hcl := hp_c p
  have hru := hp_r p
  have hn := hp_n p
  have vl : vld H 0 0 := Or.inr ⟨rfl, rfl⟩
  have it : ∀ w : Nat, w < 4 → f_HR_itemOf (ii 0) (ii 0) (ii w) h = some (ii (H w)) := fun w hw => by
    have := C_item (h := h) (κ := 0) (n := 0) (w := w) (by omega) (by omega) (by omega)
    rw [T.2 0 0 w (by omega) vl hw] at this
    have e : hbM 0 0 + w = w := by show 0 + w = w; omega
    rw [e] at this; exact this
  have i0 : f_HR_itemOf (ii 0) (ii 0) (ii 0) h = some (ii (H 0)) := it 0 (by omega)
  have i1 : f_HR_itemOf (ii 0) (ii 0) (ii 1) h = some (ii (H 1)) := it 1 (by omega)
  have i2 : f_HR_itemOf (ii 0) (ii 0) (ii 2) h = some (ii (H 2)) := it 2 (by omega)
  have i3 : f_HR_itemOf (ii 0) (ii 0) (ii 3) h = some (ii (H 3)) := it 3 (by omega)
  obtain ⟨h1, y1, F1, f1, c1⟩ := C_lay (o := o) (h := h) (hd := H) hru.1 hcl
  have C1 : CHd H (fun c => dmin H c 0) 0 0 0 o h1 := by
    refine ⟨⟨f1.1, f1.2.1, f1.2.2.1, f1.2.2.2.1, f1.2.2.2.2.1, f1.2.2.2.2.2.1⟩, c1, fun c hc => ?_⟩
    rw [f1.2.2.2.2.2.2.1, f1.2.2.2.2.2.2.2, tb_0]
    have : vcnt H c 0 = 0 := rfl
    rw [this]
    refine ⟨⟨fun z => absurd z (by decide), fun z => absurd z.2 (by omega)⟩, ⟨fun z => absurd z (by decide), fun z => absurd z.2 (by omega)⟩⟩
  -- veins
  have V1 : ((∀ v : Nat, (v : Int) < H 4 → WhV H v) ∧ ∃ h2, HR_settle_L37 FU (ii 0) h1 = some (.inr h2) ∧ SF o h h2 ∧ CHd H (fun c => dmin H c (H 4).toNat) (H 4).toNat 0 0 o h2) ∨ ((¬ ∀ v : Nat, (v : Int) < H 4 → WhV H v) ∧ ∃ h2, HR_settle_L37 FU (ii 0) h1 = some (.inl (ii 0, h2)) ∧ SF o h h2) := by
    refine lup (fun n k (x : AH) => HR_settle_L37 n (ii k) x) (H 4).toNat (fun k x => SF o h x ∧ (∀ v, v < k → WhV H v) ∧ CHd H (fun c => dmin H c k) k 0 0 o x) (fun y => ((∀ v : Nat, (v : Int) < H 4 → WhV H v) ∧ ∃ h2, y = some (.inr h2) ∧ SF o h h2 ∧ CHd H (fun c => dmin H c (H 4).toNat) (H 4).toNat 0 0 o h2) ∨ ((¬ ∀ v : Nat, (v : Int) < H 4 → WhV H v) ∧ ∃ h2, y = some (.inl (ii 0, h2)) ∧ SF o h h2)) ?_ ?_ (H 4).toNat 0 FU h1 (by omega) (by omega) ⟨F1, fun v hv => by omega, C1⟩
    · rintro n x ⟨r1, r2, r3⟩
      obtain ⟨s1, s2, s3, s4⟩ := r1.tb (H := H) ho
      have e4 : x.1 4 1 = ii (H 4) := by rw [s4]; exact T.1 1 (by omega)
      refine Or.inl ⟨fun v hv => r2 v (by omega), x, ?_, r1, r3⟩
      show HR_settle_L37_b _ _ _ = _
      unfold HR_settle_L37_b
      rw [if_pos (by decide), show (ii 1).toNatClampNeg = 1 by decide, e4, if_pos (by rw [ii_le (by omega) (by omega) (by omega) (by omega)]; omega)]
    · rintro n k x hk ⟨r1, r2, r3⟩
      obtain ⟨s1, s2, s3, s4⟩ := r1.tb (H := H) ho
      have e4 : x.1 4 1 = ii (H 4) := by rw [s4]; exact T.1 1 (by omega)
      have sv := C_sv p (v := k) (by omega) ho (by rw [s1]; exact er) (s2 T) (s3 _ K) r3
      have est : HR_settle_L37 (n + 1) (ii k) x = (f_HR_settleVein (ii k) x).bind fun q1 => if q1.1 = 0 then some (.inl ((ii 0), q1.2)) else HR_settle_L37 n (ii (k + 1 : Nat)) q1.2 := by
        show HR_settle_L37_b _ _ _ = _
        unfold HR_settle_L37_b
        rw [if_pos (by decide), show (ii 1).toNatClampNeg = 1 by decide, e4, if_neg (by rw [ii_le (by omega) (by omega) (by omega) (by omega)]; omega), if_neg (by rw [ii_le (by omega) (by omega) (by omega) (by omega)]; omega), ii_sc]
      rw [est]
      rcases sv with ⟨w1, h2, w2, w3, w4⟩ | ⟨w1, h2, w2, w3⟩
      · right
        rw [bind_eq w2]
        refine ⟨h2, rfl, r1.tr w3, fun v hv => ?_, w4⟩
        by_cases e : v = k
        · rw [e]; exact w1
        · exact r2 v (by omega)
      · left
        rw [bind_eq w2]
        exact Or.inr ⟨fun z => w1 (z k (by omega)), h2, rfl, r1.tr w3⟩
  unfold f_HR_settle
  rw [bind_eq i0, bind_eq i1, bind_eq i2, bind_eq i3, er, bind_eq y1]
  rcases V1 with ⟨wv, h2, z1, F2, C2⟩ | ⟨wv, h2, z1, F2⟩
  · rw [bind_eq z1]
    show STo H o h ((HR_settle_L70 FU (ii 0) h2).bind fun q7 => sm q7 (fun w => some w) (fun q7 => (HR_settle_L114 FU (ii 0) q7).bind fun q8 => sm q8 (fun w => some w) (fun q8 => if inb (ii 4) 5 = true then HR_settle_L171 FU (ii 0) (wI q8 (q8.2.2 3 4) 10 (q8.1 4 (ii 4).toNatClampNeg)) else none)))
    -- irons
    have V2 : (WhT H 70 (H 5).toNat ∧ ∃ h3, HR_settle_L70 FU (ii 0) h2 = some (.inr h3) ∧ SF o h h3 ∧ CHd H (fun c => dmin H c (H 4).toNat) (H 4).toNat (H 5).toNat 0 o h3) ∨ ((¬ WhT H 70 (H 5).toNat) ∧ ∃ h3, HR_settle_L70 FU (ii 0) h2 = some (.inl (ii 0, h3)) ∧ SF o h h3) := by
      refine lup (fun n k (x : AH) => HR_settle_L70 n (ii k) x) (H 5).toNat (fun k x => SF o h x ∧ WhT H 70 k ∧ CHd H (fun c => dmin H c (H 4).toNat) (H 4).toNat k 0 o x) (fun y => (WhT H 70 (H 5).toNat ∧ ∃ h3, y = some (.inr h3) ∧ SF o h h3 ∧ CHd H (fun c => dmin H c (H 4).toNat) (H 4).toNat (H 5).toNat 0 o h3) ∨ ((¬ WhT H 70 (H 5).toNat) ∧ ∃ h3, y = some (.inl (ii 0, h3)) ∧ SF o h h3)) ?_ ?_ (H 5).toNat 0 FU h2 (by omega) (by omega) ⟨F2, fun v hv => by omega, C2⟩
      · rintro n x ⟨r1, r2, r3⟩
        obtain ⟨s1, s2, s3, s4⟩ := r1.tb (H := H) ho
        have e4 : x.1 4 2 = ii (H 5) := by rw [s4]; exact T.1 2 (by omega)
        refine Or.inl ⟨r2, x, ?_, r1, r3⟩
        show HR_settle_L70_b _ _ _ = _
        unfold HR_settle_L70_b
        rw [if_pos (by decide), show (ii 2).toNatClampNeg = 2 by decide, e4, if_pos (by rw [ii_le (by omega) (by omega) (by omega) (by omega)]; omega)]
      · rintro n k x hk ⟨r1, r2, r3⟩
        obtain ⟨s1, s2, s3, s4⟩ := r1.tb (H := H) ho
        have e4 : x.1 4 2 = ii (H 5) := by rw [s4]; exact T.1 2 (by omega)
        have vk : vld H 2 k := Or.inl (by show (k : Int) < H 5; omega)
        have a0 : f_HR_itemOf (ii 2) (ii k) (ii 0) x = some (ii (H (70 + 2 * k))) := by
          have := C_item (h := x) (κ := 2) (n := k) (w := 0) (by omega) (by omega) (by omega)
          rw [(s2 T).2 2 k 0 (by omega) vk (by decide)] at this; exact this
        have a1 : f_HR_itemOf (ii 2) (ii k) (ii 1) x = some (ii (H (70 + 2 * k + 1))) := by
          have := C_item (h := x) (κ := 2) (n := k) (w := 1) (by omega) (by omega) (by omega)
          rw [(s2 T).2 2 k 1 (by omega) vk (by decide)] at this; exact this
        have hk2 := hp_i p (i := k) (by omega)
        have sv := C_irn hcl r3 (fun j hj => by have := hp_i p (i := j) (by omega); omega) hk2.1 hk2.2.1
        have est : HR_settle_L70 (n + 1) (ii k) x = (f_Heath_addIron o (ii (H (70 + 2 * k))) (ii (H (70 + 2 * k + 1))) x).bind fun q3 => if q3.1 = 0 then some (.inl ((ii 0), q3.2)) else HR_settle_L70 n (ii (k + 1 : Nat)) q3.2 := by
          show HR_settle_L70_b _ _ _ = _
          unfold HR_settle_L70_b
          rw [if_pos (by decide), show (ii 2).toNatClampNeg = 2 by decide, e4, if_neg (by rw [ii_le (by omega) (by omega) (by omega) (by omega)]; omega), bind_eq a0, bind_eq a1, s1, er, ii_sc]
        rw [est]
        rcases sv with ⟨w1, w1', h3, w2, w3, w4⟩ | ⟨w1, w2⟩
        · right
          rw [bind_eq w2]
          refine ⟨h3, rfl, r1.tr w3, fun j hj => ?_, w4⟩
          by_cases e : j = k
          · rw [e]; exact ⟨w1, w1'⟩
          · exact r2 j (by omega)
        · left
          rw [bind_eq w2]
          exact Or.inr ⟨fun z => w1 (z k hk), x, rfl, r1⟩
    rcases V2 with ⟨wi, h3, z2, F3, C3⟩ | ⟨wi, h3, z2, F3⟩
    · rw [bind_eq z2]
      show STo H o h ((HR_settle_L114 FU (ii 0) h3).bind fun q8 => sm q8 (fun w => some w) (fun q8 => if inb (ii 4) 5 = true then HR_settle_L171 FU (ii 0) (wI q8 (q8.2.2 3 4) 10 (q8.1 4 (ii 4).toNatClampNeg)) else none))
      -- rocks
      have V3 : (WhT H 90 (H 6).toNat ∧ ∃ h4, HR_settle_L114 FU (ii 0) h3 = some (.inr h4) ∧ SF o h h4 ∧ CHd H (fun c => dmin H c (H 4).toNat) (H 4).toNat (H 5).toNat (H 6).toNat o h4) ∨ ((¬ WhT H 90 (H 6).toNat) ∧ ∃ h4, HR_settle_L114 FU (ii 0) h3 = some (.inl (ii 0, h4)) ∧ SF o h h4) := by
        refine lup (fun n k (x : AH) => HR_settle_L114 n (ii k) x) (H 6).toNat (fun k x => SF o h x ∧ WhT H 90 k ∧ CHd H (fun c => dmin H c (H 4).toNat) (H 4).toNat (H 5).toNat k o x) (fun y => (WhT H 90 (H 6).toNat ∧ ∃ h3, y = some (.inr h3) ∧ SF o h h3 ∧ CHd H (fun c => dmin H c (H 4).toNat) (H 4).toNat (H 5).toNat (H 6).toNat o h3) ∨ ((¬ WhT H 90 (H 6).toNat) ∧ ∃ h3, y = some (.inl (ii 0, h3)) ∧ SF o h h3)) ?_ ?_ (H 6).toNat 0 FU h3 (by omega) (by omega) ⟨F3, fun v hv => by omega, C3⟩
        · rintro n x ⟨r1, r2, r3⟩
          obtain ⟨s1, s2, s3, s4⟩ := r1.tb (H := H) ho
          have e4 : x.1 4 3 = ii (H 6) := by rw [s4]; exact T.1 3 (by omega)
          refine Or.inl ⟨r2, x, ?_, r1, r3⟩
          show HR_settle_L114_b _ _ _ = _
          unfold HR_settle_L114_b
          rw [if_pos (by decide), show (ii 3).toNatClampNeg = 3 by decide, e4, if_pos (by rw [ii_le (by omega) (by omega) (by omega) (by omega)]; omega)]
        · rintro n k x hk ⟨r1, r2, r3⟩
          obtain ⟨s1, s2, s3, s4⟩ := r1.tb (H := H) ho
          have e4 : x.1 4 3 = ii (H 6) := by rw [s4]; exact T.1 3 (by omega)
          have vk : vld H 3 k := Or.inl (by show (k : Int) < H 6; omega)
          have a0 : f_HR_itemOf (ii 3) (ii k) (ii 0) x = some (ii (H (90 + 2 * k))) := by
            have := C_item (h := x) (κ := 3) (n := k) (w := 0) (by omega) (by omega) (by omega)
            rw [(s2 T).2 3 k 0 (by omega) vk (by decide)] at this; exact this
          have a1 : f_HR_itemOf (ii 3) (ii k) (ii 1) x = some (ii (H (90 + 2 * k + 1))) := by
            have := C_item (h := x) (κ := 3) (n := k) (w := 1) (by omega) (by omega) (by omega)
            rw [(s2 T).2 3 k 1 (by omega) vk (by decide)] at this; exact this
          have hk2 := hp_k p (i := k) (by omega)
          have sv := C_rck hcl r3 (fun j hj => by have := hp_k p (i := j) (by omega); omega) hk2.1 hk2.2.1
          have est : HR_settle_L114 (n + 1) (ii k) x = (f_Heath_addRock o (ii (H (90 + 2 * k))) (ii (H (90 + 2 * k + 1))) x).bind fun q3 => if q3.1 = 0 then some (.inl ((ii 0), q3.2)) else HR_settle_L114 n (ii (k + 1 : Nat)) q3.2 := by
            show HR_settle_L114_b _ _ _ = _
            unfold HR_settle_L114_b
            rw [if_pos (by decide), show (ii 3).toNatClampNeg = 3 by decide, e4, if_neg (by rw [ii_le (by omega) (by omega) (by omega) (by omega)]; omega), bind_eq a0, bind_eq a1, s1, er, ii_sc]
          rw [est]
          rcases sv with ⟨w1, w1', h3, w2, w3, w4⟩ | ⟨w1, w2⟩
          · right
            rw [bind_eq w2]
            refine ⟨h3, rfl, r1.tr w3, fun j hj => ?_, w4⟩
            by_cases e : j = k
            · rw [e]; exact ⟨w1, w1'⟩
            · exact r2 j (by omega)
          · left
            rw [bind_eq w2]
            exact Or.inr ⟨fun z => w1 (z k hk), x, rfl, r1⟩
      rcases V3 with ⟨wr, h4, z3, F4, C4⟩ | ⟨wr, h4, z3, F4⟩
      · rw [bind_eq z3]
        obtain ⟨s1, s2, s3, s4⟩ := F4.tb (H := H) ho
        have e44 : h4.1 4 4 = ii (H 7) := by rw [s4]; exact T.1 4 (by omega)
        show STo H o h (if inb (ii 4) 5 = true then HR_settle_L171 FU (ii 0) (wI h4 (h4.2.2 3 4) 10 (h4.1 4 (ii 4).toNatClampNeg)) else none)
        rw [if_pos (show inb (ii 4) 5 = true by decide), show (ii 4).toNatClampNeg = 4 by decide, e44, s1, er]
        have F5 : SF o h (wI h4 o 10 (ii (H 7))) := F4.tr (SF.w (by omega))
        have C5 : CHd H (fun c => dmin H c (H 4).toNat) (H 4).toNat (H 5).toNat (H 6).toNat o (wI h4 o 10 (ii (H 7))) := by
          unfold CHd
          rw [wI_self, upd_ne (by decide), upd_ne (by decide), upd_ne (by decide), upd_ne (by decide), upd_ne (by decide), upd_ne (by decide), upd_ne (by decide), upd_ne (by decide), wI_ne (by omega), wI_ne (by omega), wI_ne (by omega), wI_ne (by omega)]
          exact C4
        refine lup (fun n k (x : AH) => HR_settle_L171 n (ii k) x) (H 7).toNat (fun k x => SF o h x ∧ (∀ f, f < k → fkM H f 0 < cellsM H) ∧ CHd H (fun c => dmin H c (H 4).toNat) (H 4).toNat (H 5).toNat (H 6).toNat o x ∧ x.1 o 10 = ii (H 7) ∧ TRf H k o x) (STo H o h) ?_ ?_ (H 7).toNat 0 FU _ (by omega) (by omega) ⟨F5, fun f hf => by omega, C5, by rw [wI_self, upd_self], fun f k hf => by omega⟩
        · rintro n x ⟨r1, r2, r3, r4, r5⟩
          obtain ⟨s1, s2, s3, s4⟩ := r1.tb (H := H) ho
          have e4 : x.1 4 4 = ii (H 7) := by rw [s4]; exact T.1 4 (by omega)
          refine Or.inl ⟨⟨h7, wv, wi, wr, fun f hf => r2 f (by omega)⟩, x, ?_, r1, ?_⟩
          · show HR_settle_L171_b _ _ _ = _
            unfold HR_settle_L171_b
            rw [if_pos (by decide), show (ii 4).toNatClampNeg = 4 by decide, e4, if_pos (by rw [ii_le (by omega) (by omega) (by omega) (by omega)]; omega)]
          · obtain ⟨b1, b2, b3⟩ := r3
            refine ⟨b1.1, b1.2.1, b1.2.2.1, b1.2.2.2.1, b1.2.2.2.2.1, r4, by rw [b1.2.2.2.2.2]; congr 1; omega, b2, fun f k hf hk => r5 f k (by omega) hk, fun c hc => ?_⟩
            rw [R_has _ hc, ← (b3 c hc).2]
            by_cases q : tb (x.1 o 13) c = true
            · rw [if_pos q]; exact ⟨fun _ => q, fun _ => rfl⟩
            · rw [if_neg q]; exact ⟨fun z => absurd z (by decide), fun z => absurd z q⟩
        · rintro n k x hk ⟨r1, r2, r3, r4, r5⟩
          obtain ⟨s1, s2, s3, s4⟩ := r1.tb (H := H) ho
          have e4 : x.1 4 4 = ii (H 7) := by rw [s4]; exact T.1 4 (by omega)
          have sf := C_sf p ho (by rw [s1]; exact er) (s2 T) r3 r4 (f := k) (by omega) r5
          have est : HR_settle_L171 (n + 1) (ii k) x = (f_HR_settleFork (ii k) x).bind fun q1 => if q1.1 = 0 then some ((ii 0), q1.2) else HR_settle_L171 n (ii (k + 1 : Nat)) q1.2 := by
            show HR_settle_L171_b _ _ _ = _
            unfold HR_settle_L171_b
            rw [if_pos (by decide), show (ii 4).toNatClampNeg = 4 by decide, e4, if_neg (by rw [ii_le (by omega) (by omega) (by omega) (by omega)]; omega), ii_sc]
          rw [est]
          rcases sf with ⟨w1, h5, w2, w3, w4, w5, w6⟩ | ⟨w1, h5, w2, w3⟩
          · right
            rw [bind_eq w2]
            refine ⟨h5, rfl, r1.tr w3, fun f hf => ?_, w4, w5, w6⟩
            by_cases e : f = k
            · rw [e]; exact w1
            · exact r2 f (by omega)
          · left
            rw [bind_eq w2]
            exact Or.inr ⟨fun z => w1 (z.2.2.2.2 k (by omega)), h5, rfl, r1.tr w3⟩
      · rw [bind_eq z3]
        exact Or.inr ⟨fun z => wr z.2.2.2.1, h4, rfl, F4⟩
    · rw [bind_eq z2]
      exact Or.inr ⟨fun z => wi z.2.2.1, h3, rfl, F3⟩
  · rw [bind_eq z1]
    exact Or.inr ⟨fun z => wv z.2.1, h2, rfl, F2⟩
end HK
