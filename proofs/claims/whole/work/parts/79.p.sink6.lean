/-! sink: the class's run -/
section SV
variable {S : ST} {B : Nat} {h g h' g' : AH} {hd : Nat → Int} {d : DY} {o wr : Nat}
theorem tb_nz {x : Int32} (hx : ∀ i, 6 ≤ i → tb x i = false) (h0 : x ≠ ii 0) : ∃ f, f < 6 ∧ tb x f = true := by
  by_cases q : ∃ f, f < 6 ∧ tb x f = true
  · exact q
  · exact absurd (tb_ext (fun i _ => by
      rw [tb_0]
      by_cases z : i < 6
      · exact Bool.eq_false_iff.mpr (fun e => q ⟨i, z, e⟩)
      · exact hx i (by omega))) h0
theorem C_snk (E : h.2.2 0 13 = o) (ho : o = 43 ∨ o = 49) (Ch : CH hd o h) (M : MR hd d wr (mvO h 13)) (V : DW hd d) (W : HW hd) {ac : List DY} (A : CAc hd ac wr h) (h40 : ac.length ≤ 40) {c : Nat} (hc : (c : Int) < cellsM hd) (hz : vI (d (14 + c)) = 0) {pr : Int} (hpr : pr = wdM hd c (vI (d 45)) * (hd 3 + rkM hd c)) (p0 : 0 ≤ pr) (p1 : pr ≤ 1000000) : ∃ x v h1, f_HF_sink (ii c) h = some (ii pr, h1) ∧ MR hd (skD d c (wdM hd c (vI (d 45))) (ii pr) x v (hd 7).toNat) wr (mvO h1 13) ∧ CAc hd (pu40 ac d) wr h1 ∧ Ag [13, 15, 18, 31, 32] h h1 ∧ (wetM hd c (vI (d 45)) → ∀ f, tb x f = true ↔ ∃ j, j < bL d ∧ hitM d c f j) ∧ (¬ wetM hd c (vI (d 45)) → x = ii 0) ∧ v = (if x = ii 0 then ii 0 else ii (pr / 10 / nT x 6)) := by
  have H : HS hd := Or.inr W
  have hcl := H.cells
  have hnf := H.nf
  have hw := wdM_lo W c (vI (d 45))
  have hwp := wdM_pos W c (s := vI (d 45))
  have e0 : p_HF_canSink (ii c) h = ii 1 := by
    unfold p_HF_canSink
    rw [E, C_isCell Ch H (c := (c : Int)) (by omega) (by omega), if_pos (show 0 ≤ (c : Int) ∧ (c : Int) < cellsM hd from ⟨by omega, hc⟩), if_neg (by decide), M_wlF M V (by omega) hz, if_pos i00]
  have e1 := C_priceNow E Ch M V W (c := (c : Int)) (by omega) hc
  rw [← hpr] at e1
  have e2 := C_isWet E Ch M V W (c := (c : Int)) (by omega) hc
  obtain ⟨x, e3, hx1, hx2⟩ : ∃ x, (if (if watM hd c (vI (d 45)) = -1 ∨ 60 < watM hd c (vI (d 45)) then ii 0 else ii 1) = 0 then some (ii 0) else (f_Moor_twitchersIn 13 (ii c) h).bind fun q3 => some q3) = some x ∧ (wetM hd c (vI (d 45)) → ∀ f, tb x f = true ↔ ∃ j, j < bL d ∧ hitM d c f j) ∧ (¬ wetM hd c (vI (d 45)) → x = ii 0) := by
    obtain ⟨x, e, hx⟩ := C_twIn M V H (c := c) (by omega)
    by_cases q : watM hd c (vI (d 45)) = -1 ∨ 60 < watM hd c (vI (d 45))
    · exact ⟨ii 0, by rw [if_pos q, if_pos i00], fun w => absurd q w, fun _ => rfl⟩
    · exact ⟨x, by rw [if_neg q, if_neg (by decide), e]; rfl, fun _ => hx, fun w => absurd q w⟩
  have hx7 : ∀ i : Nat, hd 7 ≤ i → tb x i = false := fun i hi => by
    by_cases w : wetM hd c (vI (d 45))
    · refine Bool.eq_false_iff.mpr (fun e => ?_)
      obtain ⟨j, h1, h2⟩ := (hx1 w i).mp e
      have := hit_lt V h1 h2
      omega
    · rw [hx2 w, tb_0]
  have hx6 : ∀ i : Nat, 6 ≤ i → tb x i = false := fun i hi => hx7 i (by omega)
  obtain ⟨v, hv⟩ : ∃ v, v = (if x = ii 0 then ii 0 else ii (pr / 10 / nT x 6)) := ⟨_, rfl⟩
  have e4 : (if x = 0 then some (ii 0) else if ¬ (ii 10) = 0 then if ¬ (p_Int_bitCount x) = 0 then some ((ii pr / (ii 10)) / (p_Int_bitCount x)) else none else none) = some v := by
    rw [hv]
    by_cases q : x = ii 0
    · rw [if_pos (show x = 0 from q), if_pos q]
    · obtain ⟨f, f6, hf⟩ := tb_nz hx6 q
      have n1 := nT_pos f6 hf
      have n2 := nT_lo x 6
      have hd10 : pr / 10 ≤ pr := Int.ediv_le_self _ p0
      have hd0 : 0 ≤ pr / 10 := Int.ediv_nonneg p0 (by omega)
      rw [if_neg (show ¬ x = 0 from q), if_neg q, if_pos (by decide), pc6 hx6, if_pos (by rw [z0, ii_eq (by omega) (by omega) (by omega) (by omega)]; omega), ii_div (by omega) (by omega) (by omega) (by omega), ii_div (by omega) (by omega) (by omega) (by omega)]
  obtain ⟨h1, e5, A1, D1⟩ := C_add A h40 1 (ii c) x v
  have E1 : h1.2.2 0 13 = o := by rw [A1.2]; exact E
  have Ch1 : CH hd o h1 := Ch.ag (fun i hi => A1.1 _ (by simp; omega))
  have em1 : mvO h1 13 = mvO h 13 := mv_eq (fun i hi => A1.1 _ (by simp; omega))
  have e6 := C_wellDepth E1 Ch1 (d := d) (wr := wr) (by rw [em1]; exact M) V W (c := (c : Int)) (by omega) hc
  have q13 : h1.1 13 = h.1 13 := A1.1 13 (by decide)
  obtain ⟨wd, hwd⟩ : ∃ wd, wd = wdM hd c (vI (d 45)) := ⟨_, rfl⟩
  rw [← hwd] at hpr hw hwp e6 ⊢
  obtain ⟨h2, eh2⟩ : ∃ h2, h2 = wI (wI (wI h1 18 c (ii wd)) 13 6 (h.1 13 6 ||| bitI c)) 13 7 (h.1 13 7 + ii pr) := ⟨_, rfl⟩
  have e7 : f_Moor_addWell 13 (ii c) (ii wd) (ii pr) h1 = some h2 := by
    have y6 : ∀ v : Int32, (wI h1 18 c v).1 13 6 = h.1 13 6 := fun v => by rw [wI_ne (by omega), q13]
    have y7 : ∀ v w : Int32, (wI (wI h1 18 c v) 13 6 w).1 13 7 = h.1 13 7 := fun v w => by rw [wI_self, upd_ne (by decide), wI_ne (by omega), q13]
    unfold f_Moor_addWell
    rw [eh2]
    simp (disch := omega) only [Option.bind_some, if_true, if_false, not_true_eq_false, not_false_eq_true, z0, ii_add, ii_sub, ii_mul, ifLeT, ifLeF, ifLtT, ifLtF, ifEqT, ifEqF, ifNeT, ifNeF, ifIn, nixZ, ii_i64, o0, o1, isInT, isInF, tn14, tn12, tn2, tn21, tn47, tn48, tn49, tn471, tn472, Int.reduceToNat, Int.toNat_natCast, Int.reduceAdd, Int.reduceSub, Int.reduceMul, Int.reduceNeg, Nat.reduceAdd, Nat.reduceSub, Nat.reduceMul, y6, y7, C_bit]
  have A2 : Ag [13, 18] h1 h2 := by rw [eh2]; exact (((Ag.rf _ _).pI (by decide)).pI (by decide)).pI (by decide)
  obtain ⟨h3, e8, A3, p3⟩ := C_addPay (p := 13) x v h2
  have r14 : h3.1 (13 + 1) = h.1 (13 + 1) := by rw [A3.1 _ (by decide), A2.1 _ (by decide), A1.1 _ (by decide)]
  have r16 : h3.1 (13 + 3) = h.1 (13 + 3) := by rw [A3.1 _ (by decide), A2.1 _ (by decide), A1.1 _ (by decide)]
  have r17 : h3.1 (13 + 4) = h.1 (13 + 4) := by rw [A3.1 _ (by decide), A2.1 _ (by decide), A1.1 _ (by decide)]
  have r15 : ∀ i, i < 6 → h3.1 (13 + 2) i = h.1 (13 + 2) i + (if tb x i then v else ii 0) := fun i hi => by rw [p3 i hi, A2.1 _ (by decide), A1.1 _ (by decide)]
  have r18 : ∀ i, h3.1 (13 + 5) i = if i = c then ii wd else h.1 (13 + 5) i := fun i => by
    rw [A3.1 _ (by decide), eh2, wI_ne (by decide), wI_ne (by decide), show 13 + 5 = 18 from rfl, wI_self]
    by_cases z : i = c
    · rw [if_pos z, z, upd_self]
    · rw [if_neg z, upd_ne z, A1.1 18 (by decide)]
  have r13 : h3.1 13 = upd (upd (h.1 13) 6 (h.1 13 6 ||| bitI c)) 7 (h.1 13 7 + ii pr) := by
    rw [A3.1 _ (by decide), eh2, wI_self, wI_self, wI_ne (by decide), q13]
  have r6 : (mvO h3 13).2.2.2.2.2 = ((mvO h 13).2.2.2.2.2.1, (mvO h 13).2.2.2.2.2.2.1 ||| bitI c, (mvO h 13).2.2.2.2.2.2.2.1 + ii pr, (mvO h 13).2.2.2.2.2.2.2.2) := by
    unfold mvO
    show (h3.1 13 5, h3.1 13 6, h3.1 13 7, h3.1 13 8) = (h.1 13 5, h.1 13 6 ||| bitI c, h.1 13 7 + ii pr, h.1 13 8)
    rw [r13, upd_ne (by omega), upd_ne (by omega), upd_ne (by omega), upd_self, upd_self, upd_ne (by omega), upd_ne (by omega)]
  refine ⟨x, v, h3, ?_, ?_, ?_, ?_, hx1, hx2, hv⟩
  · unfold f_HF_sink
    rw [e0, if_neg (by decide), bind_eq e1, bind_eq e2, bind_eq e3, bind_eq e4, bind_eq e5, bind_eq e6, bind_eq e7, bind_eq e8]
  · exact M.sk H (by omega) (by omega) hw.2 hx7 (fun i hi => by show h3.1 (13 + 1) i = h.1 (13 + 1) i; rw [r14]) r15 (fun i hi => by show h3.1 (13 + 3) i = h.1 (13 + 3) i; rw [r16]) r17 (fun i hi => r18 i) r6
  · have D3 := D1.ag (h2 := h3) (by rw [A3.1 31 (by decide), A2.1 31 (by decide)]) (by rw [A3.1 32 (by decide), A2.1 32 (by decide)])
    refine CAc.put H h40 M D3 (Nat.le_refl _) (by omega) (M1 := mvO h 13) (fun r z0' z1 z2 z3 => ?_) (MEq.rf _ _ _)
    have hb : tb (h.1 13 6) c = false := by
      have := M_wlF M V (c := c) (by omega) hz
      rw [C_holds _ (by omega)] at this
      by_cases q : tb (h.1 13 6) c = true
      · rw [if_pos q] at this; exact absurd this (by decide)
      · exact Bool.eq_false_iff.mpr q
    have hz' : h.1 (13 + 5) c = ii 0 := by
      have := M.2.2.2.2.1 c (by omega)
      rw [show h.1 (13 + 5) c = d (14 + c) from this, vI_ii (d (14 + c)), hz]
    refine Or.inr (Or.inl ⟨z0', c, hc, z1, fun i hi => by show h.1 (13 + 1) i = h3.1 (13 + 1) i; rw [r14], fun i hi => ?_, fun i hi => by show h.1 (13 + 3) i = h3.1 (13 + 3) i; rw [r16], r17.symm, fun i hi => ?_, ?_⟩)
    · show h.1 (13 + 2) i = h3.1 (13 + 2) i + _
      rw [r15 i hi, z2, z3]
      by_cases q : tb x i = true
      · rw [if_pos q, if_pos q, ← Int32.sub_eq_add_neg, Int32.add_sub_cancel]
      · rw [if_neg q, if_neg q, add_z, add_z]
    · show h.1 (13 + 5) i = if i = c then ii 0 else h3.1 (13 + 5) i
      rw [r18 i]
      by_cases q : i = c
      · rw [if_pos q, q, hz']
      · rw [if_neg q, if_neg q]
    · rw [r6]
      have t5 : (mvO h3 13).2.2.2.2.1 c = ii wd := by show h3.1 (13 + 5) c = ii wd; rw [r18, if_pos rfl]
      rw [t5, ii_add, ii_mul, ← hpr, Int32.add_sub_cancel]
      have t6 : (mvO h 13).2.2.2.2.2.2.1 = ((mvO h 13).2.2.2.2.2.2.1 ||| bitI c) &&& (bitI c ^^^ ii (-1)) := by
        show h.1 13 6 = _
        refine tb_ext (fun i hi => ?_)
        rw [tb_and, tb_not _ hi]
        show tb (h.1 13 6) i = (tb (h.1 13 6 ||| bitI c) i && _)
        rw [tb_or, tb_bit (by omega)]
        by_cases q : i = c
        · rw [q, hb]; simp
        · simp [q]
      rw [← t6]
  · exact ⟨fun k hk => by
      simp only [List.mem_cons, List.not_mem_nil, or_false] at hk
      rw [A3.1 k (by simp; omega), A2.1 k (by simp; omega), A1.1 k (by simp; omega)], by rw [A3.2, A2.2, A1.2]⟩
end SV
