/-! undo -/
section UD
variable {S : ST} {B : Nat} {h g h' g' : AH}
theorem R_und {n : Nat} (hn : n < 40) (e45 : g.1 80 45 = ii n) {s : DY} (hs : ∀ j, j < 227 → g.1 99 (227 * n + j) = s j) : ∃ g1, R_undo_L26 FU (ii 0) g = some (ii n, g1) ∧ RDy s g1 97 ∧ Ag [97] g g1 := by
  refine lup (fun m k (x : AH) => R_undo_L26 m (ii k) x) 227 (fun k x => Ag [97] g x ∧ ∀ j, j < k → x.1 97 j = s j) (fun x => ∃ g1, x = some (ii n, g1) ∧ RDy s g1 97 ∧ Ag [97] g g1) ?_ ?_ 227 0 FU g (by omega) (by unfold FU; omega) ⟨Ag.rf _ _, fun j hj => by omega⟩
  · rintro m x ⟨r1, r2⟩
    have ex : x.1 80 45 = ii n := by rw [r1.1 80 (by decide)]; exact e45
    simp (disch := omega) only [Option.bind_some, if_true, if_false, not_true_eq_false, not_false_eq_true, z0, ii_add, ii_sub, ii_mul, ifLeT, ifLeF, ifLtT, ifLtF, ifEqT, ifEqF, ifNeT, ifNeF, ifIn, nixZ, ii_i64, o0, o1, isInT, isInF, tn14, tn12, tn2, tn21, tn47, tn48, tn49, tn471, tn472, Int.reduceToNat, Int.toNat_natCast, Int.reduceAdd, Int.reduceSub, Int.reduceMul, Int.reduceNeg, Nat.reduceAdd, Nat.reduceSub, Nat.reduceMul, R_undo_L26, R_undo_L26_b, Int.cast_ofNat_Int, ex]
    exact ⟨x, rfl, fun j hj => r2 j hj, r1⟩
  · rintro m k x hk ⟨r1, r2⟩
    right
    have ex : x.1 80 45 = ii n := by rw [r1.1 80 (by decide)]; exact e45
    have t1 : (227 * (n : Int) + k).toNat = 227 * n + k := by omega
    have e99 : x.1 99 (227 * n + k) = s k := by rw [r1.1 99 (by decide)]; exact hs k hk
    simp (disch := omega) only [Option.bind_some, if_true, if_false, not_true_eq_false, not_false_eq_true, z0, ii_add, ii_sub, ii_mul, ifLeT, ifLeF, ifLtT, ifLtF, ifEqT, ifEqF, ifNeT, ifNeF, ifIn, nixZ, ii_i64, o0, o1, isInT, isInF, tn14, tn12, tn2, tn21, tn47, tn48, tn49, tn471, tn472, Int.reduceToNat, Int.toNat_natCast, Int.reduceAdd, Int.reduceSub, Int.reduceMul, Int.reduceNeg, Nat.reduceAdd, Nat.reduceSub, Nat.reduceMul, R_undo_L26, R_undo_L26_b, ex, t1, e99]
    refine ⟨_, rfl, r1.pI (by decide), fun j hj => ?_⟩
    rw [wI_self]
    by_cases e : j = k
    · rw [e, upd_self]
    · rw [upd_ne e]; exact r2 j (by omega)
theorem C_addPay {p : Nat} (v1 v2 : Int32) (h : AH) : ∃ h1, f_Moor_addPay p v1 v2 h = some h1 ∧ Ag [p + 2] h h1 ∧ ∀ i, i < 6 → h1.1 (p + 2) i = h.1 (p + 2) i + (if tb v1 i then v2 else ii 0) := by
  unfold f_Moor_addPay
  refine lup (fun m k (x : AH) => Moor_addPay_L2 m p v1 v2 (ii k) x) 6 (fun k x => Ag [p + 2] h x ∧ (∀ i, i < k → x.1 (p + 2) i = h.1 (p + 2) i + (if tb v1 i then v2 else ii 0)) ∧ ∀ i, k ≤ i → x.1 (p + 2) i = h.1 (p + 2) i) (fun x => ∃ h1, x = some h1 ∧ Ag [p + 2] h h1 ∧ ∀ i, i < 6 → h1.1 (p + 2) i = h.1 (p + 2) i + (if tb v1 i then v2 else ii 0)) ?_ ?_ 6 0 FU h (by omega) (by unfold FU; omega) ⟨Ag.rf _ _, fun j hj => by omega, fun _ _ => rfl⟩
  · rintro m x ⟨r1, r2, r3⟩
    simp (disch := omega) only [Option.bind_some, if_true, if_false, not_true_eq_false, not_false_eq_true, z0, ii_add, ii_sub, ii_mul, ifLeT, ifLeF, ifLtT, ifLtF, ifEqT, ifEqF, ifNeT, ifNeF, ifIn, nixZ, ii_i64, o0, o1, isInT, isInF, tn14, tn12, tn2, tn21, tn47, tn48, tn49, tn471, tn472, Int.reduceToNat, Int.toNat_natCast, Int.reduceAdd, Int.reduceSub, Int.reduceMul, Int.reduceNeg, Nat.reduceAdd, Nat.reduceSub, Nat.reduceMul, Moor_addPay_L2, Moor_addPay_L2_b, Int.cast_ofNat_Int]
    exact ⟨x, rfl, r1, r2⟩
  · rintro m k x hk ⟨r1, r2, r3⟩
    right
    have eh : (if p_HF_holds v1 (ii k) = ii 0 then ii 0 else v2) = if tb v1 k then v2 else ii 0 := by
      rw [C_holds v1 (by omega)]
      by_cases q : tb v1 k
      · rw [if_pos q, if_pos q, if_neg (by decide)]
      · rw [if_neg q, if_neg q, if_pos rfl]
    simp (disch := omega) only [Option.bind_some, if_true, if_false, not_true_eq_false, not_false_eq_true, z0, ii_add, ii_sub, ii_mul, ifLeT, ifLeF, ifLtT, ifLtF, ifEqT, ifEqF, ifNeT, ifNeF, ifIn, nixZ, ii_i64, o0, o1, isInT, isInF, tn14, tn12, tn2, tn21, tn47, tn48, tn49, tn471, tn472, Int.reduceToNat, Int.toNat_natCast, Int.reduceAdd, Int.reduceSub, Int.reduceMul, Int.reduceNeg, Nat.reduceAdd, Nat.reduceSub, Nat.reduceMul, Moor_addPay_L2, Moor_addPay_L2_b, eh]
    refine ⟨_, rfl, r1.pI (by simp), fun j hj => ?_, fun j hj => by rw [wI_self, upd_ne (by omega)]; exact r3 j (by omega)⟩
    rw [wI_self]
    by_cases e : j = k
    · rw [e, upd_self, r3 k (Nat.le_refl _)]
    · rw [upd_ne e]; exact r2 j (by omega)
variable {hd : Nat → Int} {d : DY} {o wr : Nat}
theorem C_und (E : h.2.2 0 13 = o) (ho : o = 43 ∨ o = 49) (Ch : CH hd o h) (W : HS hd) {s : DY} {ac : List DY} (M : MR hd d wr (mvO h 13)) (A : CAc hd (ac ++ [s]) wr h) (h40 : ac.length < 40) : ∃ h1 wr1, f_HF_undo h = some (ii ac.length, h1) ∧ wr1 ≤ wr ∧ MR hd s wr1 (mvO h1 13) ∧ CAc hd ac wr1 h1 ∧ Ag [13, 14, 15, 16, 18, 31] h h1 := by
  obtain ⟨a1, nx, n1, n2, ch⟩ := A
  rw [List.reverse_append] at ch
  obtain ⟨M1, wr1, u, r, x1, x2, c⟩ := (ch : CHN hd (rcO h nx) (s :: ac.reverse) 0 wr (mvO h 13))
  obtain ⟨n, hn⟩ : ∃ n, n = ac.length := ⟨_, rfl⟩
  rw [List.length_append] at a1
  rw [← hn] at a1 h40 ⊢
  have a1' : h.1 31 1 = ii ((n : Int) + 1) := a1
  obtain ⟨m, hm⟩ : ∃ m, m = (nx + 39) % 40 := ⟨_, rfl⟩
  have erm : remI (ii ((nx : Int) + 40 - 1)) (ii 40) = ii (m : Int) := by
    rw [ii_rem (by omega) (by omega) (by omega) (by omega)]; congr 1; omega
  have hwr := M.2.2.2.1.2.1
  have hf6 := W.nf
  have lat : ∀ p : Nat, p < 4 → f_Acts_latest (ii p) h = some (rcO h nx 0 p) := fun p hp => by
    unfold f_Acts_latest
    have t1 : ((m : Int) * 4 + p).toNat = 4 * m + p := by omega
    simp (disch := omega) only [Option.bind_some, if_true, if_false, not_true_eq_false, not_false_eq_true, z0, ii_add, ii_sub, ii_mul, ifLeT, ifLeF, ifLtT, ifLtF, ifEqT, ifEqF, ifNeT, ifNeF, ifIn, nixZ, ii_i64, o0, o1, isInT, isInF, tn14, tn12, tn2, tn21, tn47, tn48, tn49, tn471, tn472, Int.reduceToNat, Int.toNat_natCast, Int.reduceAdd, Int.reduceSub, Int.reduceMul, Int.reduceNeg, Nat.reduceAdd, Nat.reduceSub, Nat.reduceMul, n2, erm, t1]
    unfold rcO
    rw [show (nx + 39 - 0) % 40 = m by omega]
  obtain ⟨h0, eh0⟩ : ∃ h0, h0 = wI (wI h 31 2 (ii m)) 31 1 (ii n) := ⟨_, rfl⟩
  have drp : f_Acts_drop h = some h0 := by
    unfold f_Acts_drop
    have t1 : (wI h 31 2 (ii m)).1 31 1 = ii ((n : Int) + 1) := by rw [wI_self, upd_ne (by decide)]; exact a1'
    simp (disch := omega) only [Option.bind_some, if_true, if_false, not_true_eq_false, not_false_eq_true, z0, ii_add, ii_sub, ii_mul, ifLeT, ifLeF, ifLtT, ifLtF, ifEqT, ifEqF, ifNeT, ifNeF, ifIn, nixZ, ii_i64, o0, o1, isInT, isInF, tn14, tn12, tn2, tn21, tn47, tn48, tn49, tn471, tn472, Int.reduceToNat, Int.toNat_natCast, Int.reduceAdd, Int.reduceSub, Int.reduceMul, Int.reduceNeg, Nat.reduceAdd, Nat.reduceSub, Nat.reduceMul, n2, erm, t1]
    rw [max0 (by omega) (by omega), if_pos (by omega), eh0, show (n : Int) + 1 - 1 = n by omega]
  have A0 : Ag [31] h h0 := by rw [eh0]; exact ((Ag.rf _ _).pI (by decide)).pI (by decide)
  have z1 : h0.1 31 1 = ii n := by rw [eh0, wI_self, upd_self]
  have z2 : h0.1 31 2 = ii m := by rw [eh0, wI_self, upd_ne (by decide), wI_self, upd_self]
  have E0 : h0.2.2 0 13 = o := by rw [A0.2]; exact E
  have Ch0 : CH hd o h0 := Ch.ag (fun i hi => A0.1 _ (by simp; omega))
  have em0 : mvO h0 13 = mvO h 13 := mv_eq (fun i hi => A0.1 _ (by simp; omega))
  rw [← em0] at u M
  have mid : ∃ hN, (if rcO h nx 0 0 = 0 then (f_Heath_trait (h0.2.2 0 13) (rcO h nx 0 1) (ii 5) h0).bind fun q10 => (f_Moor_unstep 13 (rcO h nx 0 1) (rcO h nx 0 2) q10 (rcO h nx 0 3) h0).bind fun q11 => some q11 else if rcO h nx 0 0 = (ii 1) then (f_Moor_addPay 13 (rcO h nx 0 2) (-(rcO h nx 0 3)) h0).bind fun q6 => (f_Moor_sunkTo 13 (rcO h nx 0 1) q6).bind fun q7 => (f_HF_footPrice (rcO h nx 0 1) q6).bind fun q8 => (f_Moor_dropWell 13 (rcO h nx 0 1) (q7 * q8) q6).bind fun q9 => some q9 else if ¬ (ii 4) = 0 then some (wI h0 13 8 (remI (((h0.1 13 8) + (ii 4)) - (ii 1)) (ii 4))) else none) = some hN ∧ MEq 0 wr1 M1 (mvO hN 13) ∧ Ag [13, 14, 15, 16, 18] h0 hN := by
    generalize rcO h nx 0 = r' at *
    rcases u with ⟨u0, f, uf, u1, u2, u3, u4, u5, u6, u7⟩ | ⟨u0, c', uc, u1, u2, u3, u4, u5, u6, u7⟩ | ⟨u0, u2, u3, u4, u5, u6, u7⟩
    · have HWd := W.hf (f := (f : Int)) (by omega) uf
      have hfk := HWd.2.2.2.2 f uf
      have hw := HWd.1
      obtain ⟨gu, hgu⟩ := Int.eq_ofNat_of_zero_le (show 0 ≤ fkM hd f 5 by omega)
      have e5 : f_Heath_trait (h0.2.2 0 13) (ii f) (ii 5) h0 = some (ii gu) := by rw [E0, ← hgu]; exact C_t5 Ch0 HWd uf
      have ew : h0.1 13 5 = ii wr := M.2.2.2.1.1
      have ew1 : M1.2.2.2.2.2.1 = ii wr1 := r.2.2.2.1.1
      have hwr1 := r.2.2.2.1.2.1
      have ewr : ii (wr1 : Int) = ii ((wr : Int) - 1) := by
        rw [← ew1, u7]
        show h0.1 13 5 - ii 1 = _
        rw [ew, ii_sub]
      have hwe : (wr1 : Int) = (wr : Int) - 1 := (ii_eq (by omega) (by omega) (by omega) (by omega)).mp ewr
      have e5w : ∀ v w : Int32, (wI (wI h0 14 f v) 16 gu w).1 13 5 = ii wr := fun v w => by rw [wI_ne (by omega), wI_ne (by omega)]; exact ew
      have emx : p_Math_max (ii 0) (ii ((wr : Int) - 1)) = ii ((wr : Int) - 1) := by rw [max0 (by omega) (by omega), if_pos (by omega)]
      have eu : f_Moor_unstep 13 (ii f) (r' 2) (ii gu) (r' 3) h0 = some (wI (wI (wI h0 14 f (r' 2)) 16 gu (r' 3)) 13 5 (ii ((wr : Int) - 1))) := by
        unfold f_Moor_unstep
        rcases (show gu = 0 ∨ gu = 1 by omega) with e | e
        · subst e; simp (disch := omega) only [Option.bind_some, if_true, if_false, not_true_eq_false, not_false_eq_true, z0, ii_add, ii_sub, ii_mul, ifLeT, ifLeF, ifLtT, ifLtF, ifEqT, ifEqF, ifNeT, ifNeF, ifIn, nixZ, ii_i64, o0, o1, isInT, isInF, tn14, tn12, tn2, tn21, tn47, tn48, tn49, tn471, tn472, Int.reduceToNat, Int.toNat_natCast, Int.reduceAdd, Int.reduceSub, Int.reduceMul, Int.reduceNeg, Nat.reduceAdd, Nat.reduceSub, Nat.reduceMul, e5w, emx, Int.cast_ofNat_Int]
        · subst e; simp (disch := omega) only [Option.bind_some, if_true, if_false, not_true_eq_false, not_false_eq_true, z0, ii_add, ii_sub, ii_mul, ifLeT, ifLeF, ifLtT, ifLtF, ifEqT, ifEqF, ifNeT, ifNeF, ifIn, nixZ, ii_i64, o0, o1, isInT, isInF, tn14, tn12, tn2, tn21, tn47, tn48, tn49, tn471, tn472, Int.reduceToNat, Int.toNat_natCast, Int.reduceAdd, Int.reduceSub, Int.reduceMul, Int.reduceNeg, Nat.reduceAdd, Nat.reduceSub, Nat.reduceMul, e5w, emx, Int.cast_ofNat_Int]
      rw [u0, u1, if_pos (by decide), bind_eq e5, bind_eq eu]
      refine ⟨_, rfl, ?_, (((Ag.rf _ _).pI (by decide)).pI (by decide)).pI (by decide)⟩
      unfold mvO at u2 u3 u4 u5 u6 u7 ⊢
      simp only at u2 u3 u4 u5 u6 u7
      simp (disch := omega) only [MEq, wI_ne, wI_self, upd_ne, upd_self, ne_eq]
      refine ⟨fun i hi => ?_, fun i hi => (u3 i hi).symm, fun i hi => ?_, fun t _ _ => by rw [u5], fun i hi => (u6 i hi).symm, ?_⟩
      · rw [u2 i hi]; rfl
      · rw [u4 i hi, hgu]
        by_cases e : i = gu
        · rw [e, upd_self, if_pos rfl]
        · rw [upd_ne e, if_neg (by omega)]
      · rw [u7, ew, ii_sub]
    · have HWd := W.hw (c := (c' : Int)) (by omega) uc
      have hw := HWd.1
      have hcl := W.cells
      obtain ⟨h1, e1, A1, p1⟩ := C_addPay (p := 13) (r' 2) (-(r' 3)) h0
      have E1 : h1.2.2 0 13 = o := by rw [A1.2]; exact E0
      have Ch1 : CH hd o h1 := Ch0.ag (fun i hi => A1.1 _ (by simp; omega))
      have q18 : h1.1 18 = h0.1 18 := A1.1 18 (by decide)
      have q13 : h1.1 13 = h0.1 13 := A1.1 13 (by decide)
      have e2 : f_Moor_sunkTo 13 (ii c') h1 = some (h0.1 18 c') := by
        unfold f_Moor_sunkTo
        simp (disch := omega) only [Option.bind_some, if_true, if_false, not_true_eq_false, not_false_eq_true, z0, ii_add, ii_sub, ii_mul, ifLeT, ifLeF, ifLtT, ifLtF, ifEqT, ifEqF, ifNeT, ifNeF, ifIn, nixZ, ii_i64, o0, o1, isInT, isInF, tn14, tn12, tn2, tn21, tn47, tn48, tn49, tn471, tn472, Int.reduceToNat, Int.toNat_natCast, Int.reduceAdd, Int.reduceSub, Int.reduceMul, Int.reduceNeg, Nat.reduceAdd, Nat.reduceSub, Nat.reduceMul, q18]
      have e3 := C_footPrice E1 Ch1 HWd (c := (c' : Int)) (by omega) uc
      have e4 : f_Moor_dropWell 13 (ii c') (h0.1 18 c' * ii (hd 3 + rkM hd c')) h1 = some (wI (wI (wI h1 18 c' (ii 0)) 13 6 (h0.1 13 6 &&& (bitI c' ^^^ ii (-1)))) 13 7 (h0.1 13 7 - h0.1 18 c' * ii (hd 3 + rkM hd c'))) := by
        have y6 : ∀ v : Int32, (wI h1 18 c' v).1 13 6 = h0.1 13 6 := fun v => by rw [wI_ne (by omega), q13]
        have y7 : ∀ v w : Int32, (wI (wI h1 18 c' v) 13 6 w).1 13 7 = h0.1 13 7 := fun v w => by rw [wI_self, upd_ne (by decide), wI_ne (by omega), q13]
        unfold f_Moor_dropWell
        simp (disch := omega) only [Option.bind_some, if_true, if_false, not_true_eq_false, not_false_eq_true, z0, ii_add, ii_sub, ii_mul, ifLeT, ifLeF, ifLtT, ifLtF, ifEqT, ifEqF, ifNeT, ifNeF, ifIn, nixZ, ii_i64, o0, o1, isInT, isInF, tn14, tn12, tn2, tn21, tn47, tn48, tn49, tn471, tn472, Int.reduceToNat, Int.toNat_natCast, Int.reduceAdd, Int.reduceSub, Int.reduceMul, Int.reduceNeg, Nat.reduceAdd, Nat.reduceSub, Nat.reduceMul, y6, y7, C_bit]
      rw [u0, u1, if_neg (by decide), if_pos rfl, bind_eq e1, bind_eq e2, bind_eq e3, bind_eq e4]
      refine ⟨_, rfl, ?_, ?_⟩
      · unfold mvO at u2 u3 u4 u5 u6 u7 ⊢
        simp only at u2 u3 u4 u5 u6 u7
        simp (disch := omega) only [MEq, wI_ne, wI_self, upd_ne, upd_self, ne_eq]
        refine ⟨fun i hi => ?_, fun i hi => ?_, fun i hi => ?_, fun t _ _ => ?_, fun i hi => ?_, ?_⟩
        · rw [u2 i hi, A1.1 (13 + 1) (by decide)]
        · rw [u3 i hi]; exact p1 i hi
        · rw [u4 i hi, A1.1 (13 + 3) (by decide)]
        · rw [u5, A1.1 (13 + 4) (by decide)]
        · rw [u6 i hi, q18]; rfl
        · rw [u7, q13, ii_add]
      · exact Ag.pI (Ag.pI (Ag.pI ⟨fun o ho => A1.1 o (by simp at ho ⊢; omega), A1.2⟩ (by decide)) (by decide)) (by decide)
    · rw [u0, if_neg (by decide), if_neg (by decide), if_pos (by decide)]
      refine ⟨_, rfl, ?_, (Ag.rf _ _).pI (by decide)⟩
      unfold mvO at u2 u3 u4 u5 u6 u7 ⊢
      simp only at u2 u3 u4 u5 u6 u7
      simp (disch := omega) only [MEq, wI_ne, wI_self, upd_ne, upd_self, ne_eq]
      exact ⟨fun i hi => (u2 i hi).symm, fun i hi => (u3 i hi).symm, fun i hi => (u4 i hi).symm, fun t _ _ => by rw [u5], fun i hi => (u6 i hi).symm, u7.symm⟩
  obtain ⟨hN, eN, MN, AN⟩ := mid
  refine ⟨hN, wr1, ?_, x1, r.eq MN (by omega) (by omega) (Nat.le_refl _), ⟨?_, m, by omega, ?_, ?_⟩, ?_⟩
  · have l0 : f_Acts_latest (ii 0) h = some (rcO h nx 0 0) := lat 0 (by omega)
    have l1 : f_Acts_latest (ii 1) h = some (rcO h nx 0 1) := lat 1 (by omega)
    have l2 : f_Acts_latest (ii 2) h = some (rcO h nx 0 2) := lat 2 (by omega)
    have l3 : f_Acts_latest (ii 3) h = some (rcO h nx 0 3) := lat 3 (by omega)
    unfold f_HF_undo
    rw [a1', if_neg (by rw [z0, ii_eq (by omega) (by omega) (by omega) (by omega)]; omega), bind_eq l0, bind_eq l1, bind_eq l2, bind_eq l3, bind_eq drp, bind_eq eN, AN.1 31 (by decide), z1]
  · rw [AN.1 31 (by decide), z1, hn]
  · rw [AN.1 31 (by decide)]; exact z2
  · refine CHN.eq W _ _ _ _ _ ?_ MN (Or.inr rfl) (Nat.le_refl _)
    refine CHN.rc4 _ 1 0 _ _ c (fun i hi q hq => ?_)
    rw [List.length_reverse, ← hn] at hi
    unfold rcO
    have e32 : hN.1 32 = h.1 32 := (AN.1 32 (by decide)).trans (A0.1 32 (by decide))
    rw [e32, show (m + 39 - (0 + i)) % 40 = (nx + 39 - (1 + i)) % 40 by omega]
  · exact ⟨fun o ho => (AN.1 o (by simp at ho ⊢; omega)).trans (A0.1 o (by simp at ho ⊢; omega)), AN.2.trans A0.2⟩
theorem k_undo (V : VS S) (C : CRep S B h) (R : RRep S g) : Call S B h g (f_HF_undo h) (f_R_undo g) := by
  have R0 : RRep S (wI g 80 0 (ii 0)) := R.keep V (RS.t0 g).1
  have W := V.2.1
  have Kt := RS.t0 g (v := ii 0)
  obtain ⟨c1, ⟨o, ho, o1', o2, o3⟩, ⟨wr, w1, w2, w3⟩, c4, c5, c6, c7⟩ := id C
  obtain ⟨s1, s2, s3, s4, s5, s6, s7, s8, s9⟩ := id R0
  obtain ⟨v1, v2, v3, v4, v5, v6⟩ := id V
  unfold f_R_undo
  generalize hg0 : wI g 80 0 (ii 0) = g0 at *
  rcases List.eq_nil_or_concat (sA S) with e | ⟨ac, s, e⟩
  · rw [e] at w3 s4
    have x1 : h.1 31 1 = ii 0 := w3.1
    have x2 : g0.1 80 45 = ii 0 := s4.1
    unfold f_HF_undo
    rw [x1, x2, if_pos i00, if_pos i00]
    exact call_same V C R rfl rfl (CS.rf _) Kt
  · rw [List.concat_eq_append] at e
    rw [e] at w3 s4 v4
    have hl : ac.length < 40 := by have := v4.1; rw [List.length_append] at this; simp at this; omega
    obtain ⟨hN, wr1, eN, hw1, MN, PN, AN⟩ := C_und o1' ho o3 W w2 w3 hl
    have x2 : g0.1 80 45 = ii ((ac.length : Int) + 1) := by rw [s4.1, List.length_append]; rfl
    obtain ⟨g1, eg1⟩ : ∃ g1, g1 = wI g0 80 45 (ii ac.length) := ⟨_, rfl⟩
    have y45 : g1.1 80 45 = ii ac.length := by rw [eg1, wI_self, upd_self]
    have A1 : Ag [80] g0 g1 := by rw [eg1]; exact (Ag.rf _ _).pI (by decide)
    have y99 := A1.1 99 (by decide)
    obtain ⟨gN, f1, DN, BN⟩ := R_und hl y45 (s := s) (fun j hj => by
      rw [y99, s4.2 ac.length (by rw [List.length_append]; simp) j hj, gd_last])
    have e80 : ∀ j, j ≠ 45 → gN.1 80 j = g0.1 80 j := fun j hj => by rw [BN.1 80 (by decide), eg1, wI_self, upd_ne hj]
    have B2 : Ag [80, 97] g0 gN := ⟨fun o ho => (BN.1 o (by simp at ho ⊢; omega)).trans (A1.1 o (by simp at ho ⊢; omega)), BN.2.trans A1.2⟩
    have RA : RAc ac gN := ⟨by rw [BN.1 80 (by decide)]; exact y45, fun i hi j hj => by
      rw [B2.1 99 (by decide), s4.2 i (by rw [List.length_append]; omega) j hj, gd_app hi]⟩
    have e0 := AN.1 0 (by decide)
    have C1 := C.gx V (CKx.ag AN (by decide)) (by rw [e0]) (by rw [e0]) (B' := B + 64) (c1.ag (AN.1 1 (by decide)) (AN.1 2 (by decide))) ⟨wr1, by omega, MN, PN⟩ (c4.eq (by rw [e0]) (mv_eq (fun i hi => AN.1 _ (by simp <;> omega))) (by omega)) (c5.eq (by rw [AN.1 33 (by decide)]) (AN.1 34 (by decide)) (AN.1 35 (by decide)) (AN.1 36 (by decide))) (ho := sO S) (by rw [e0]; exact c6.2.1)
    have R1 := R0.gx (d := s) (g' := gN) ⟨fun o ho => B2.1 o (by simp only [List.mem_cons, List.not_mem_nil, or_false] at ho ⊢; omega), fun j hj => e80 j (by simp only [List.mem_cons, List.not_mem_nil, or_false] at hj; omega)⟩ ⟨by rw [e80 6 (by decide)]; exact s1.1, fun j hj => by rw [B2.1 81 (by decide)]; exact s1.2 j hj⟩ DN RA (s5.eq (e80 55 (by decide)) (B2.1 104 (by decide))) (s6.eq (e80 52 (by decide)) (B2.1 100 (by decide)) (B2.1 101 (by decide)) (B2.1 102 (by decide))) (ho := sO S) (by rw [e80 43 (by decide)]; exact s7.2.1) (fun j hj => by rw [B2.1 84 (by decide)]; exact s9 j hj)
    rw [eN, x2, if_neg (by rw [z0, ii_eq (by omega) (by omega) (by omega) (by omega)]; omega), ii_sub, show (ac.length : Int) + 1 - 1 = ac.length by omega, ← eg1, f1]
    exact ⟨_, hN, gN, (sB S, sH S, s, ac, sI S, sE S, sL S, sO S, sW S), rfl, rfl, ⟨v1, v2, v4.2 s (by simp), ⟨by show ac.length ≤ 40; omega, fun x hx => v4.2 x (by simp [hx])⟩, v5, v6⟩, C1, R1, KR.ag AN (by decide), Kt.2.tr (KC.ag B2 (by decide))⟩
end UD
