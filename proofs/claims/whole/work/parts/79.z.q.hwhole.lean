/-! the reference: is a heath whole -/
section RQ
variable {H : Nat → Int} {g : AH}
theorem R_apart {ar b n : Nat} (hA : ∀ j, j < 12 → g.1 ar j = ii (H (b + j))) (hn : n ≤ 6) (hcl : 1 ≤ cellsM H ∧ cellsM H ≤ 30) (hr : ∀ i, i < n → 0 ≤ H (b + 2 * i) ∧ H (b + 2 * i) ≤ 29) : (WhT H b n ∧ f_R_areApart 12 ar (ii n) (ii (cellsM H)) g = some (ii 1)) ∨ (¬ WhT H b n ∧ f_R_areApart 12 ar (ii n) (ii (cellsM H)) g = some (ii 0)) := by
  have hFU := fu_1000
  unfold f_R_areApart
  refine lup (fun u k (_ : Unit) => R_areApart_L3 u 12 ar (ii n) (ii (cellsM H)) (ii k) g) n (fun k _ => WhT H b k) (fun y => (WhT H b n ∧ y = some (ii 1)) ∨ (¬ WhT H b n ∧ y = some (ii 0))) ?_ ?_ n 0 FU () (by omega) (by omega) (fun i hi => by omega)
  · rintro u _ r1
    refine Or.inl ⟨r1, ?_⟩
    show R_areApart_L3_b _ _ _ _ _ _ _ = _
    unfold R_areApart_L3_b
    rw [if_pos (by rw [ii_le (by omega) (by omega) (by omega) (by omega)]; omega)]
  · rintro u k _ hk r1
    have hrk := hr k hk
    have t2 : (2 * (k : Int)).toNat = 2 * k := by omega
    have ek : g.1 ar (2 * k) = ii (H (b + 2 * k)) := hA _ (by omega)
    have ik : inb (ii (2 * (k : Int))) 12 = true := by rw [ii_inb (by omega) (by omega)]; omega
    have nk : (ii (2 * (k : Int))).toNatClampNeg = 2 * k := by rw [ii_nat (by omega) (by omega), t2]
    have inner : ((∀ j, j < k → H (b + 2 * j) ≠ H (b + 2 * k)) ∧ R_areApart_L24 FU 12 ar (ii n) (ii (cellsM H)) (ii k) (ii 0) g = some (.inr ())) ∨ ((¬ ∀ j, j < k → H (b + 2 * j) ≠ H (b + 2 * k)) ∧ R_areApart_L24 FU 12 ar (ii n) (ii (cellsM H)) (ii k) (ii 0) g = some (.inl (ii 0))) := by
      refine lup (fun u i (_ : Unit) => R_areApart_L24 u 12 ar (ii n) (ii (cellsM H)) (ii k) (ii i) g) k (fun i _ => ∀ j, j < i → H (b + 2 * j) ≠ H (b + 2 * k)) (fun y => ((∀ j, j < k → H (b + 2 * j) ≠ H (b + 2 * k)) ∧ y = some (.inr ())) ∨ ((¬ ∀ j, j < k → H (b + 2 * j) ≠ H (b + 2 * k)) ∧ y = some (.inl (ii 0)))) ?_ ?_ k 0 FU () (by omega) (by omega) (fun i hi => by omega)
      · rintro u _ r2
        refine Or.inl ⟨r2, ?_⟩
        show R_areApart_L24_b _ _ _ _ _ _ _ _ = _
        unfold R_areApart_L24_b
        rw [if_pos (by rw [ii_le (by omega) (by omega) (by omega) (by omega)]; omega)]
      · rintro u i _ hi r2
        have hri := hr i (by omega)
        have ei : g.1 ar (2 * i) = ii (H (b + 2 * i)) := hA _ (by omega)
        have ii' : inb (ii (2 * (i : Int))) 12 = true := by rw [ii_inb (by omega) (by omega)]; omega
        have ni : (ii (2 * (i : Int))).toNatClampNeg = 2 * i := by rw [ii_nat (by omega) (by omega)]; omega
        have est : R_areApart_L24 (u + 1) 12 ar (ii n) (ii (cellsM H)) (ii k) (ii i) g = if ii (H (b + 2 * i)) = ii (H (b + 2 * k)) then some (.inl (ii 0)) else R_areApart_L24 u 12 ar (ii n) (ii (cellsM H)) (ii k) (ii (i + 1 : Nat)) g := by
          show R_areApart_L24_b _ _ _ _ _ _ _ _ = _
          unfold R_areApart_L24_b
          rw [if_neg (by rw [ii_le (by omega) (by omega) (by omega) (by omega)]; omega), ii_mul 2 (i : Int), ii_mul 2 (k : Int), if_pos ii', if_pos ik, ni, nk, ei, ek, ii_sc]
        rw [est]
        by_cases q : H (b + 2 * i) = H (b + 2 * k)
        · left
          rw [if_pos (by rw [q])]
          exact Or.inr ⟨fun z => z i hi q, rfl⟩
        · right
          rw [if_neg (by rw [ii_eq (by omega) (by omega) (by omega) (by omega)]; exact q)]
          refine ⟨(), rfl, fun j hj => ?_⟩
          by_cases e : j = i
          · rw [e]; exact q
          · exact r2 j (by omega)
    have est : R_areApart_L3 (u + 1) 12 ar (ii n) (ii (cellsM H)) (ii k) g = if ii (H (b + 2 * k)) < ii (cellsM H) then (R_areApart_L24 FU 12 ar (ii n) (ii (cellsM H)) (ii k) (ii 0) g).bind fun q1 => sm q1 (fun w => some w) (fun q1 => R_areApart_L3 u 12 ar (ii n) (ii (cellsM H)) (ii (k + 1 : Nat)) g) else some (ii 0) := by
      show R_areApart_L3_b _ _ _ _ _ _ _ = _
      unfold R_areApart_L3_b
      generalize FU = F at *
      rw [if_neg (by rw [ii_le (by omega) (by omega) (by omega) (by omega)]; omega), ii_mul, if_pos ik, nk, ek, ii_sc]
    rw [est]
    by_cases q : H (b + 2 * k) < cellsM H
    · rw [if_pos (by rw [ii_lt (by omega) (by omega) (by omega) (by omega)]; exact q)]
      rcases inner with ⟨w1, w2⟩ | ⟨w1, w2⟩
      · right
        rw [bind_eq w2]
        refine ⟨(), rfl, fun i hi => ?_⟩
        by_cases e : i = k
        · rw [e]; exact ⟨q, w1⟩
        · exact r1 i (by omega)
      · left
        rw [bind_eq w2]
        exact Or.inr ⟨fun z => w1 (z k hk).2, rfl⟩
    · left
      rw [if_neg (by rw [ii_lt (by omega) (by omega) (by omega) (by omega)]; exact q)]
      exact Or.inr ⟨fun z => q (z k hk).1, rfl⟩
theorem R_whole (p : HP H (H 4).toNat) (R : RB H g) : (Wh H ∧ f_R_isWhole g = some (ii 1)) ∨ (¬ Wh H ∧ f_R_isWhole g = some (ii 0)) := by
  have hFU := fu_1000
  have hcl := hp_c p
  have hru := hp_r p
  have hn := hp_n p
  have a86 : ∀ j, j < 4 → g.1 86 j = ii (H j) := fun j hj => by have := (R 0 (by omega)).1 j hj; rw [show bsM 0 + j = j by show 0 + j = j; omega] at this; exact this
  have a88 : ∀ j, j < 52 → g.1 88 j = ii (H (10 + j)) := fun j hj => (R 1 (by omega)).1 j hj
  have a90 : ∀ j, j < 12 → g.1 90 j = ii (H (70 + j)) := fun j hj => (R 2 (by omega)).1 j hj
  have a92 : ∀ j, j < 12 → g.1 92 j = ii (H (90 + j)) := fun j hj => (R 3 (by omega)).1 j hj
  have a94 : ∀ j, j < 36 → g.1 94 j = ii (H (110 + j)) := fun j hj => (R 4 (by omega)).1 j hj
  have c35 : g.1 80 35 = ii (H 4) := (R 1 (by omega)).2
  have c36 : g.1 80 36 = ii (H 5) := (R 2 (by omega)).2
  have c37 : g.1 80 37 = ii (H 6) := (R 3 (by omega)).2
  have c38 : g.1 80 38 = ii (H 7) := (R 4 (by omega)).2
  have emost : (g.1 86 (ii 0).toNatClampNeg) * (g.1 86 (ii 1).toNatClampNeg) = ii (cellsM H) := by
    rw [show (ii 0).toNatClampNeg = 0 by decide, show (ii 1).toNatClampNeg = 1 by decide, a86 0 (by omega), a86 1 (by omega), ii_mul]; rfl
  unfold f_R_isWhole
  rw [if_pos (show inb (ii 0) 4 = true by decide), if_pos (show inb (ii 1) 4 = true by decide), emost]
  have V1 : ((∀ v : Nat, (v : Int) < H 4 → WhV H v) ∧ R_isWhole_L16 FU (ii (cellsM H)) (ii 0) g = some (.inr ())) ∨ ((¬ ∀ v : Nat, (v : Int) < H 4 → WhV H v) ∧ R_isWhole_L16 FU (ii (cellsM H)) (ii 0) g = some (.inl (ii 0))) := by
    refine lup (fun u k (_ : Unit) => R_isWhole_L16 u (ii (cellsM H)) (ii k) g) (H 4).toNat (fun k _ => ∀ v, v < k → WhV H v) (fun y => ((∀ v : Nat, (v : Int) < H 4 → WhV H v) ∧ y = some (.inr ())) ∨ ((¬ ∀ v : Nat, (v : Int) < H 4 → WhV H v) ∧ y = some (.inl (ii 0)))) ?_ ?_ (H 4).toNat 0 FU () (by omega) (by omega) (fun i hi => by omega)
    · rintro u _ r1
      refine Or.inl ⟨fun v hv => r1 v (by omega), ?_⟩
      show R_isWhole_L16_b _ _ _ _ = _
      unfold R_isWhole_L16_b
      rw [c35, if_pos (by rw [ii_le (by omega) (by omega) (by omega) (by omega)]; omega)]
    · rintro u v _ hv r1
      have hr := hp_v p (v := v) (by omega)
      have hLr := p.2.2 v hv
      obtain ⟨L, hL⟩ := Int.eq_ofNat_of_zero_le hLr.1
      have e0 : g.1 88 (13 * v) = ii (H (10 + 13 * v)) := a88 _ (by omega)
      have e3 : g.1 88 (13 * v + 3) = ii (L : Int) := by rw [a88 _ (by omega), show 10 + (13 * v + 3) = 10 + 13 * v + 3 by omega, hL]
      have i0 : inb (ii (13 * (v : Int))) 52 = true := by rw [ii_inb (by omega) (by omega)]; omega
      have n0 : (ii (13 * (v : Int))).toNatClampNeg = 13 * v := by rw [ii_nat (by omega) (by omega)]; omega
      have i3 : inb (ii (13 * (v : Int) + 3)) 52 = true := by rw [ii_inb (by omega) (by omega)]; omega
      have n3 : (ii (13 * (v : Int) + 3)).toNatClampNeg = 13 * v + 3 := by rw [ii_nat (by omega) (by omega)]; omega
      have inner : 0 ≤ H (10 + 13 * v) → H (10 + 13 * v) < cellsM H → (((∀ k : Nat, k ≤ L → vc H v k ≠ -1) ∧ R_isWhole_L44 FU (ii (cellsM H)) (ii v) (ii (H (10 + 13 * v))) (ii 0) g = some (ii (vc H v L)) ∧ 0 ≤ vc H v L ∧ vc H v L < cellsM H) ∨ ((¬ ∀ k : Nat, k ≤ L → vc H v k ≠ -1) ∧ R_isWhole_L44 FU (ii (cellsM H)) (ii v) (ii (H (10 + 13 * v))) (ii 0) g = some (ii (-1)))) := by
        intro h0 h1
        have hz : ∀ j : Nat, j ≤ 0 → 0 ≤ vc H v j ∧ vc H v j < cellsM H := fun j hj => by
          cases j with
          | zero => exact ⟨h0, h1⟩
          | succ j => omega
        refine lup (fun u k (c : Int32) => R_isWhole_L44 u (ii (cellsM H)) (ii v) c (ii k) g) L (fun k c => c = ii (vc H v k) ∧ ((∀ j : Nat, j ≤ k → 0 ≤ vc H v j ∧ vc H v j < cellsM H) ∨ (vc H v k = -1 ∧ ∃ j, j ≤ k ∧ vc H v j = -1))) (fun y => (((∀ k : Nat, k ≤ L → vc H v k ≠ -1) ∧ y = some (ii (vc H v L)) ∧ 0 ≤ vc H v L ∧ vc H v L < cellsM H) ∨ ((¬ ∀ k : Nat, k ≤ L → vc H v k ≠ -1) ∧ y = some (ii (-1))))) ?_ ?_ L 0 FU (ii (H (10 + 13 * v))) (by omega) (by omega) ⟨rfl, Or.inl hz⟩
        · rintro u c ⟨rfl, r2⟩
          have est : R_isWhole_L44 (u + 1) (ii (cellsM H)) (ii v) (ii (vc H v L)) (ii L) g = some (ii (vc H v L)) := by
            show R_isWhole_L44_b _ _ _ _ _ _ = _
            unfold R_isWhole_L44_b
            rw [ii_mul, ii_add, if_pos i3, n3, e3, if_pos (by rw [ii_le (by omega) (by omega) (by omega) (by omega)]; omega)]
          rw [est]
          rcases r2 with r2 | ⟨r2, j, hj, r3⟩
          · exact Or.inl ⟨fun k hk => by have := r2 k hk; omega, rfl, (r2 L (Nat.le_refl _)).1, (r2 L (Nat.le_refl _)).2⟩
          · rw [r2]; exact Or.inr ⟨fun z => z j hj r3, rfl⟩
        · rintro u k c hk ⟨rfl, r2⟩
          have hway := hLr.2.2 k (by omega)
          have ek : g.1 88 (13 * v + 4 + k) = ii (H (10 + 13 * v + 4 + k)) := by rw [a88 _ (by omega)]; congr 2; omega
          have i4 : inb (ii (13 * (v : Int) + 4 + k)) 52 = true := by rw [ii_inb (by omega) (by omega)]; omega
          have n4 : (ii (13 * (v : Int) + 4 + k)).toNatClampNeg = 13 * v + 4 + k := by rw [ii_nat (by omega) (by omega)]; omega
          have evc : vc H v (k + 1) = nb (H 0) (H 1) (vc H v k) (H (10 + 13 * v + 4 + k)) := rfl
          rcases r2 with r2 | ⟨r2, j, hj, r3⟩
          · right
            have hck := r2 k (Nat.le_refl _)
            have eb := R_beside g hru.1.1 hru.1.2.1 hru.1.2.2.1 hru.1.2.2.2 hck.1 (show vc H v k < H 0 * H 1 from hck.2) hway.1 hway.2
            rw [← evc] at eb
            refine ⟨ii (vc H v (k + 1)), ?_, rfl, ?_⟩
            · show R_isWhole_L44_b _ _ _ _ _ _ = _
              unfold R_isWhole_L44_b
              rw [ii_mul, ii_add (13 * (v : Int)) 3, ii_add (13 * (v : Int)) 4, ii_add (13 * (v : Int) + 4) k, if_pos i3, n3, e3, if_neg (by rw [ii_le (by omega) (by omega) (by omega) (by omega)]; omega), if_neg (by rw [ii_eq (by omega) (by omega) (by omega) (by omega)]; omega), if_pos i4, if_pos (show inb (ii 0) 4 = true by decide), if_pos (show inb (ii 1) 4 = true by decide), n4, ek, show (ii 0).toNatClampNeg = 0 by decide, show (ii 1).toNatClampNeg = 1 by decide, a86 0 (by omega), a86 1 (by omega), bind_eq eb, ii_sc]
            · by_cases q : vc H v (k + 1) = -1
              · exact Or.inr ⟨q, k + 1, Nat.le_refl _, q⟩
              · left
                intro j hj
                by_cases e : j = k + 1
                · rw [e, evc]; rw [evc] at q; exact nb_in (by omega) q
                · exact r2 j (by omega)
          · left
            refine Or.inr ⟨fun z => z j (by omega) r3, ?_⟩
            show R_isWhole_L44_b _ _ _ _ _ _ = _
            unfold R_isWhole_L44_b
            rw [r2, ii_mul, ii_add (13 * (v : Int)) 3, if_pos i3, n3, e3, if_neg (by rw [ii_le (by omega) (by omega) (by omega) (by omega)]; omega), if_pos rfl]
      have est : R_isWhole_L16 (u + 1) (ii (cellsM H)) (ii v) g = if ii (H (10 + 13 * v)) < ii (cellsM H) then (R_isWhole_L44 FU (ii (cellsM H)) (ii v) (ii (H (10 + 13 * v))) (ii 0) g).bind fun q1 => if q1 = (ii (-1)) then some (.inl (ii 0)) else R_isWhole_L16 u (ii (cellsM H)) (ii (v + 1 : Nat)) g else some (.inl (ii 0)) := by
        show R_isWhole_L16_b _ _ _ _ = _
        unfold R_isWhole_L16_b
        generalize FU = F at *
        rw [c35, if_neg (by rw [ii_le (by omega) (by omega) (by omega) (by omega)]; omega), ii_mul, if_pos i0, n0, e0, ii_sc]
      rw [est]
      by_cases q : H (10 + 13 * v) < cellsM H
      · rw [if_pos (by rw [ii_lt (by omega) (by omega) (by omega) (by omega)]; exact q)]
        rcases inner hr.1 q with ⟨w1, w2, w3, w4⟩ | ⟨w1, w2⟩
        · right
          rw [bind_eq w2, if_neg (by rw [ii_eq (by omega) (by omega) (by omega) (by omega)]; omega)]
          refine ⟨(), rfl, fun v' hv' => ?_⟩
          by_cases e : v' = v
          · rw [e]; exact ⟨q, fun k hk => w1 k (by omega)⟩
          · exact r1 v' (by omega)
        · left
          rw [bind_eq w2, if_pos rfl]
          exact Or.inr ⟨fun z => w1 (fun k hk => (z v (by omega)).2 k (by omega)), rfl⟩
      · left
        rw [if_neg (by rw [ii_lt (by omega) (by omega) (by omega) (by omega)]; exact q)]
        exact Or.inr ⟨fun z => q (z v (by omega)).1, rfl⟩
  rcases V1 with ⟨wv, z1⟩ | ⟨wv, z1⟩
  · rw [bind_eq z1]
    show (Wh H ∧ R_isWhole_L117 FU (ii (cellsM H)) (ii 0) g = some (ii 1)) ∨ (¬ Wh H ∧ R_isWhole_L117 FU (ii (cellsM H)) (ii 0) g = some (ii 0))
    refine lup (fun u k (_ : Unit) => R_isWhole_L117 u (ii (cellsM H)) (ii k) g) (H 7).toNat (fun k _ => ∀ f, f < k → fkM H f 0 < cellsM H) (fun y => (Wh H ∧ y = some (ii 1)) ∨ (¬ Wh H ∧ y = some (ii 0))) ?_ ?_ (H 7).toNat 0 FU () (by omega) (by omega) (fun i hi => by omega)
    · rintro u _ r1
      have e5 : ii (H 5) = ii ((H 5).toNat : Int) := by rw [Int.toNat_of_nonneg hn.2.1.1]
      have e6 : ii (H 6) = ii ((H 6).toNat : Int) := by rw [Int.toNat_of_nonneg hn.2.2.1.1]
      have A1 := R_apart (b := 70) (n := (H 5).toNat) a90 (by omega) hcl (fun i hi => by have := hp_i p (i := i) (by omega); omega)
      have A2 := R_apart (b := 90) (n := (H 6).toNat) a92 (by omega) hcl (fun i hi => by have := hp_k p (i := i) (by omega); omega)
      have est : R_isWhole_L117 (u + 1) (ii (cellsM H)) (ii ((H 7).toNat : Int)) g = if ii (H 7) ≤ 0 then some (ii 0) else (f_R_areApart 12 90 (ii ((H 5).toNat : Int)) (ii (cellsM H)) g).bind fun q1 => if q1 = 0 then some (ii 0) else (f_R_areApart 12 92 (ii ((H 6).toNat : Int)) (ii (cellsM H)) g).bind fun q2 => if q2 = 0 then some (ii 0) else some (ii 1) := by
        show R_isWhole_L117_b _ _ _ _ = _
        unfold R_isWhole_L117_b
        rw [c38, c36, c37, e5, e6, if_pos (by rw [ii_le (by omega) (by omega) (by omega) (by omega)]; omega)]
      rw [est]
      by_cases q7 : H 7 ≤ 0
      · rw [if_pos (by rw [z0, ii_le (by omega) (by omega) (by omega) (by omega)]; exact q7)]
        exact Or.inr ⟨fun z => by have := z.1; omega, rfl⟩
      · rw [if_neg (by rw [z0, ii_le (by omega) (by omega) (by omega) (by omega)]; exact q7)]
        rcases A1 with ⟨w1, w2⟩ | ⟨w1, w2⟩
        · rw [bind_eq w2, if_neg i10]
          rcases A2 with ⟨w3, w4⟩ | ⟨w3, w4⟩
          · rw [bind_eq w4, if_neg i10]
            exact Or.inl ⟨⟨by omega, wv, w1, w3, fun f hf => r1 f (by omega)⟩, rfl⟩
          · rw [bind_eq w4, if_pos i00]
            exact Or.inr ⟨fun z => w3 z.2.2.2.1, rfl⟩
        · rw [bind_eq w2, if_pos i00]
          exact Or.inr ⟨fun z => w1 z.2.2.1, rfl⟩
    · rintro u f _ hf r1
      have hr := hp_f p (f := f) (by omega)
      have e6 : g.1 94 (6 * f) = ii (fkM H f 0) := by rw [a94 _ (by omega)]; rfl
      have i6 : inb (ii (6 * (f : Int))) 36 = true := by rw [ii_inb (by omega) (by omega)]; omega
      have n6 : (ii (6 * (f : Int))).toNatClampNeg = 6 * f := by rw [ii_nat (by omega) (by omega)]; omega
      have est : R_isWhole_L117 (u + 1) (ii (cellsM H)) (ii f) g = if ii (fkM H f 0) < ii (cellsM H) then R_isWhole_L117 u (ii (cellsM H)) (ii (f + 1 : Nat)) g else some (ii 0) := by
        show R_isWhole_L117_b _ _ _ _ = _
        unfold R_isWhole_L117_b
        rw [c38, if_neg (by rw [ii_le (by omega) (by omega) (by omega) (by omega)]; omega), ii_mul, if_pos i6, n6, e6, ii_sc]
      rw [est]
      by_cases q : fkM H f 0 < cellsM H
      · right
        rw [if_pos (by rw [ii_lt (by omega) (by omega) (by omega) (by omega)]; exact q)]
        refine ⟨(), rfl, fun f' hf' => ?_⟩
        by_cases e : f' = f
        · rw [e]; exact q
        · exact r1 f' (by omega)
      · left
        rw [if_neg (by rw [ii_lt (by omega) (by omega) (by omega) (by omega)]; exact q)]
        exact Or.inr ⟨fun z => q (z.2.2.2.2 f (by omega)), rfl⟩
  · rw [bind_eq z1]
    exact Or.inr ⟨fun z => wv z.2.1, rfl⟩
end RQ
