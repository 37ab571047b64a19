/-! calls that touch small rows only -/
section SM
variable {S : ST} {B : Nat} {h g h' g' : AH}
def CKx (h h' : AH) : Prop := (∀ o, 36 < o → o < 80 → h'.1 o = h.1 o) ∧ h'.2.2 = h.2.2
theorem CKx.ag {T : List Nat} (A : Ag T h h') (hs : ∀ o ∈ T, o ≤ 36) : CKx h h' := ⟨fun o h1 _ => A.1 o (fun z => by have := hs o z; omega), by rw [A.2]⟩
theorem CKx.lwe (K : CKx h h') (i : Nat) : lw h' i = lw h i := by unfold lw; rw [K.2]
theorem CKx.wwe (K : CKx h h') (i : Nat) : ww h' i = ww h i := by unfold ww; rw [K.2]
theorem CRep.gx (C : CRep S B h) (V : VS S) (K : CKx h h') (e14 : h'.1 0 14 = h.1 0 14) (e15 : h'.1 0 15 = h.1 0 15) {B' : Nat} {bs : List Int} {d : DY} {ac : List DY} {im : Option DY} {he : HE} {ho : Int} (t : TP 1 1 2 ii h' bs) (m : ∃ wr, wr ≤ B' ∧ MR (sH S) d wr (mvO h' 13) ∧ CAc (sH S) ac wr h') (i : CIm (sH S) im B' h') (e : CHe he h') (e16 : h'.1 0 16 = ii ho) : CRep (bs, sH S, d, ac, im, he, sL S, ho, sW S) B' h' := by
  obtain ⟨c1, ⟨o, ho', o1', o2, o3⟩, c3, c4, c5, c6, c7⟩ := C
  have l4 := V.2.2.2.2.2.2.1.1
  have w4 := V.2.2.2.2.2.2.2.2.1
  refine ⟨t, ⟨o, ho', by rw [K.2]; exact o1', by rw [K.2]; exact o2, o3.ag (fun j hj => K.1 _ (by omega) (by omega))⟩, m, i, e, ?_, ?_⟩
  · obtain ⟨x1, x2, x3, x4, x5⟩ := c6
    refine ⟨by rw [e14]; exact x1, e16, fun i hi => by rw [K.lwe]; exact x3 i hi, fun i j hi hj => by rw [K.lwe, K.lwe]; exact x4 i j hi hj, fun i hi => ?_⟩
    rw [K.lwe]
    have hm := x3 i (by have : i < (sL S).length := hi; omega)
    simp only [List.mem_cons, List.not_mem_nil, or_false] at hm
    obtain ⟨D, d1, d2, d3, d4⟩ := x5 i hi
    exact ⟨D, d1, d2, by rw [K.1 _ (by omega) (by omega)]; exact d3, by rw [K.1 _ (by omega) (by omega)]; exact d4⟩
  · obtain ⟨x1, x3, x4, x5⟩ := c7
    refine ⟨by rw [e15]; exact x1, fun i hi => by rw [K.wwe]; exact x3 i hi, fun i j hi hj => by rw [K.wwe, K.wwe]; exact x4 i j hi hj, fun i hi => ?_⟩
    rw [K.wwe]
    have hm := x3 i (by have : i < (sW S).length := hi; omega)
    simp only [List.mem_cons, List.not_mem_nil, or_false] at hm
    have := x5 i hi
    unfold WalC at this ⊢
    rw [K.1 _ (by omega) (by omega), K.1 _ (by omega) (by omega)]; exact this
theorem mv_eq {p : Nat} (e : ∀ i, i < 6 → h'.1 (p + i) = h.1 (p + i)) : mvO h' p = mvO h p := by
  unfold mvO
  rw [e 1 (by omega), e 2 (by omega), e 3 (by omega), e 4 (by omega), e 5 (by omega), show h'.1 p = h.1 p from e 0 (by omega)]
theorem CIm.eq {hd : Nat → Int} {im : Option DY} (C : CIm hd im B h) (e0 : h'.1 0 17 = h.1 0 17) (em : mvO h' 19 = mvO h 19) {B' : Nat} (hB : B ≤ B') : CIm hd im B' h' := by
  refine CIm.mono ?_ hB
  unfold CIm at C ⊢
  rw [e0]
  split at C
  · exact C
  · rw [em]; exact C
theorem CHe.eq {he : HE} (C : CHe he h) (e : h'.1 33 5 = h.1 33 5) (e4 : h'.1 34 = h.1 34) (e5 : h'.1 35 = h.1 35) (e6 : h'.1 36 = h.1 36) : CHe he h' := ⟨by rw [e]; exact C.1, fun i hi => by rw [e4, e5, e6]; exact C.2 i hi⟩
theorem CAc.eq {hd : Nat → Int} {ac : List DY} {wr : Nat} (A : CAc hd ac wr h) (e1 : h'.1 31 = h.1 31) (e2 : h'.1 32 = h.1 32) (em : mvO h' 13 = mvO h 13) : CAc hd ac wr h' := by
  obtain ⟨a1, nx, n1, n2, ch⟩ := A
  refine ⟨by rw [e1]; exact a1, nx, n1, by rw [e1]; exact n2, ?_⟩
  rw [em, show rcO h' nx = rcO h nx by funext k p; unfold rcO; rw [e2]]; exact ch
def RKx (g g' : AH) : Prop := (∀ o, o ∈ [82, 83, 85, 87, 89, 91, 93, 95, 96] → g'.1 o = g.1 o) ∧ ∀ j, j ∈ [7, 30, 31, 32, 33, 34, 39] → g'.1 80 j = g.1 80 j
theorem RRep.gx (R : RRep S g) (K : RKx g g') {bs : List Int} {d : DY} {ac : List DY} {im : Option DY} {he : HE} {ho : Int} (t : TP 80 6 81 sb g' bs) (D : RDy d g' 97) (A : RAc ac g') (i : RIm im g') (e : RHe he g') (e43 : g'.1 80 43 = ii ho) (l : LR g') : RRep (bs, sH S, d, ac, im, he, sL S, ho, sW S) g' := by
  obtain ⟨a1, a2, a3, a4, a5, a6, a7, a8, a9⟩ := R
  refine ⟨t, ?_, D, A, i, e, ⟨by rw [K.2 7 (by decide)]; exact a7.1, e43, fun i hi => ⟨by rw [K.1 83 (by decide)]; exact (a7.2.2 i hi).1, fun j hj => by rw [K.1 82 (by decide)]; exact (a7.2.2 i hi).2 j hj⟩⟩, ⟨by rw [K.2 39 (by decide)]; exact a8.1, fun i hi => ⟨by rw [K.1 96 (by decide)]; exact (a8.2 i hi).1, fun j hj => by rw [K.1 95 (by decide)]; exact (a8.2 i hi).2 j hj⟩⟩, l⟩
  obtain ⟨a1, a2, a3, a4, a5, a6, a7, a8, a9, a10⟩ := a2
  refine ⟨fun j hj => ?_, ?_, ?_, ?_, ?_, ?_, fun j hj => ?_, fun j hj => ?_, fun j hj => ?_, fun j hj => ?_⟩
  · rw [K.1 85 (by decide)]; exact a1 j hj
  · rw [K.2 30 (by decide)]; exact a2
  · rw [K.2 31 (by decide)]; exact a3
  · rw [K.2 32 (by decide)]; exact a4
  · rw [K.2 33 (by decide)]; exact a5
  · rw [K.2 34 (by decide)]; exact a6
  · rw [K.1 87 (by decide)]; exact a7 j hj
  · rw [K.1 89 (by decide)]; exact a8 j hj
  · rw [K.1 91 (by decide)]; exact a9 j hj
  · rw [K.1 93 (by decide)]; exact a10 j hj
theorem RIm.eq {im : Option DY} (C : RIm im g) (e0 : g'.1 80 55 = g.1 80 55) (em : g'.1 104 = g.1 104) : RIm im g' := by
  unfold RIm at C ⊢
  split at C
  · rw [e0]; exact C
  · exact ⟨by rw [e0]; exact C.1, fun j hj => by rw [em]; exact C.2 j hj⟩
theorem RHe.eq {he : HE} (C : RHe he g) (e : g'.1 80 52 = g.1 80 52) (e4 : g'.1 100 = g.1 100) (e5 : g'.1 101 = g.1 101) (e6 : g'.1 102 = g.1 102) : RHe he g' := ⟨by rw [e]; exact C.1, fun i hi => by rw [e4, e5, e6]; exact C.2 i hi⟩
theorem RAc.eq {ac : List DY} (A : RAc ac g) (e : g'.1 80 45 = g.1 80 45) (e9 : g'.1 99 = g.1 99) : RAc ac g' := ⟨by rw [e]; exact A.1, fun i hi j hj => by rw [e9]; exact A.2 i hi j hj⟩
/-- another tape -/
theorem CRep.tp (C : CRep S B h) (V : VS S) (A : Ag [1, 2] h h') {bs : List Int} (t : TP 1 1 2 ii h' bs) : CRep (bs, sH S, sD S, sA S, sI S, sE S, sL S, sO S, sW S) B h' := by
  obtain ⟨c1, c2, ⟨wr, w1, w2, w3⟩, c4, c5, c6, c7⟩ := id C
  have e0 := A.1 0 (by decide)
  have em : mvO h' 13 = mvO h 13 := mv_eq (fun i hi => A.1 _ (by simp; omega))
  exact C.gx V (CKx.ag A (by decide)) (by rw [e0]) (by rw [e0]) t ⟨wr, w1, by rw [em]; exact w2, w3.eq (A.1 31 (by decide)) (A.1 32 (by decide)) em⟩ (c4.eq (by rw [e0]) (mv_eq (fun i hi => A.1 _ (by simp; omega))) (Nat.le_refl _)) (c5.eq (by rw [A.1 33 (by decide)]) (A.1 34 (by decide)) (A.1 35 (by decide)) (A.1 36 (by decide))) (by rw [e0]; exact c6.2.1)
theorem RRep.tp (R : RRep S g) (A : Ag [80, 81] g g') (e : ∀ j, j ≠ 6 → g'.1 80 j = g.1 80 j) {bs : List Int} (t : TP 80 6 81 sb g' bs) : RRep (bs, sH S, sD S, sA S, sI S, sE S, sL S, sO S, sW S) g' := by
  obtain ⟨a1, a2, a3, a4, a5, a6, a7, a8, a9⟩ := id R
  exact R.gx ⟨fun o ho => A.1 o (by simp only [List.mem_cons, List.not_mem_nil, or_false] at ho ⊢; omega), fun j hj => e j (by simp only [List.mem_cons, List.not_mem_nil, or_false] at hj; omega)⟩ t (fun j hj => by rw [A.1 97 (by decide)]; exact a3 j hj) (a4.eq (e 45 (by decide)) (A.1 99 (by decide))) (a5.eq (e 55 (by decide)) (A.1 104 (by decide))) (a6.eq (e 52 (by decide)) (A.1 100 (by decide)) (A.1 101 (by decide)) (A.1 102 (by decide))) (by rw [e 43 (by decide)]; exact a7.2.1) (fun j hj => by rw [A.1 84 (by decide)]; exact a9 j hj)
theorem k_end (V : VS S) (C : CRep S B h) (R : RRep S g) {a : Int} (a0 : -2147483648 ≤ a) (a1 : a ≤ 2147483647) : Call S B h g (f_HF_end (ii a) h) (f_R_end (ii a) g) := by
  have R0 : RRep S (wI g 80 0 (ii 0)) := R.keep V (RS.t0 g).1
  have Kt := RS.t0 g (v := ii 0)
  have hb := V.1.1
  have t1 := C.1
  have t2 := R0.1
  unfold f_HF_end f_R_end
  generalize hg0 : wI g 80 0 (ii 0) = g0 at *
  by_cases q : a < 0
  · simp (disch := omega) only [Option.bind_some, if_true, if_false, not_true_eq_false, not_false_eq_true, z0, ii_add, ii_sub, ii_mul, ifLeT, ifLeF, ifLtT, ifLtF, ifEqT, ifEqF, ifNeT, ifNeF, ifIn, nixZ, ii_i64, o0, o1, isInT, isInF, tn14, tn12, tn2, tn21, tn47, tn48, tn49, tn471, tn472, Int.reduceToNat, Int.toNat_natCast, Int.reduceAdd, Int.reduceSub, Int.reduceMul, Int.reduceNeg, Nat.reduceAdd, Nat.reduceSub, Nat.reduceMul]
    exact call_same V C R rfl rfl (CS.rf _) Kt
  · by_cases q2 : a ≤ (sB S).length
    · obtain ⟨n, rfl⟩ := Int.eq_ofNat_of_zero_le (show 0 ≤ a by omega)
      simp (disch := omega) only [Option.bind_some, if_true, if_false, not_true_eq_false, not_false_eq_true, z0, ii_add, ii_sub, ii_mul, ifLeT, ifLeF, ifLtT, ifLtF, ifEqT, ifEqF, ifNeT, ifNeF, ifIn, nixZ, ii_i64, o0, o1, isInT, isInF, tn14, tn12, tn2, tn21, tn47, tn48, tn49, tn471, tn472, Int.reduceToNat, Int.toNat_natCast, Int.reduceAdd, Int.reduceSub, Int.reduceMul, Int.reduceNeg, Nat.reduceAdd, Nat.reduceSub, Nat.reduceMul, t1.1, t2.1]
      have hl : ((sB S).take n).length = n := by rw [List.length_take]; omega
      have hgd : ∀ j, j < n → ((sB S).take n).getD j 0 = (sB S).getD j 0 := fun j hj => by rw [List.getD_eq_getElem?_getD, List.getD_eq_getElem?_getD, List.getElem?_take_of_lt hj]
      have A1 : Ag [1, 2] h (wI h 1 1 (ii n)) := (Ag.rf _ _).pI (by decide)
      have A2 : Ag [80, 81] g0 (wI g0 80 6 (ii n)) := (Ag.rf _ _).pI (by decide)
      have C1 := C.tp V A1 (bs := (sB S).take n) ⟨by rw [wI_self, upd_self, hl], fun j hj => by rw [wI_ne (by decide), hgd j (by omega)]; exact t1.2 j (by omega)⟩
      have R1 := R0.tp A2 (fun j hj => by rw [wI_self, upd_ne hj]) (bs := (sB S).take n) ⟨by rw [wI_self, upd_self, hl], fun j hj => by rw [wI_ne (by decide), hgd j (by omega)]; exact t2.2 j (by omega)⟩
      exact ⟨_, _, _, ((sB S).take n, sH S, sD S, sA S, sI S, sE S, sL S, sO S, sW S), rfl, rfl, ⟨⟨by rw [hl]; omega, fun b hb' => V.1.2 b (List.mem_of_mem_take hb')⟩, V.2⟩, C1.mono (by omega), R1, KR.ag A1 (by decide), Kt.2.tr (KC.ag A2 (by decide))⟩
    · simp (disch := omega) only [Option.bind_some, if_true, if_false, not_true_eq_false, not_false_eq_true, z0, ii_add, ii_sub, ii_mul, ifLeT, ifLeF, ifLtT, ifLtF, ifEqT, ifEqF, ifNeT, ifNeF, ifIn, nixZ, ii_i64, o0, o1, isInT, isInF, tn14, tn12, tn2, tn21, tn47, tn48, tn49, tn471, tn472, Int.reduceToNat, Int.toNat_natCast, Int.reduceAdd, Int.reduceSub, Int.reduceMul, Int.reduceNeg, Nat.reduceAdd, Nat.reduceSub, Nat.reduceMul, t1.1, t2.1]
      exact call_same V C R rfl rfl (CS.rf _) Kt
theorem nzb_ok {v : Int32} : (nzb v).length ≤ 4 ∧ ∀ b ∈ nzb v, 1 ≤ b ∧ b ≤ 255 := by
  unfold nzb
  refine ⟨Nat.le_trans (List.length_filter_le _ _) (by simp), fun b hb => ?_⟩
  obtain ⟨h1, h2⟩ := List.mem_filter.mp hb
  have hne : b ≠ 0 := by simpa using h2
  have hr : ∀ k, 0 ≤ byt v k ∧ byt v k ≤ 255 := fun k => by
    unfold byt
    omega
  simp only [List.mem_cons, List.not_mem_nil, or_false] at h1
  rcases h1 with e | e | e | e <;> (have := hr 24; have := hr 16; have := hr 8; have := hr 0; omega)
theorem okB.app {bs cs : List Int} (a : okB bs) (c : ∀ b ∈ cs, 1 ≤ b ∧ b ≤ 255) (hl : (bs ++ cs).length ≤ 240) : okB (bs ++ cs) := ⟨hl, fun b hb => by
  rcases List.mem_append.mp hb with z | z
  · exact a.2 b z
  · exact c b z⟩
theorem k_feed (V : VS S) (C : CRep S B h) (R : RRep S g) (v1 v2 v3 v4 v5 : Int32) : Call S B h g (f_HF_feed v1 v2 v3 v4 v5 h) (f_R_feed v1 v2 v3 v4 v5 g) := by
  have R0 : RRep S (wI g 80 0 (ii 0)) := R.keep V (RS.t0 g).1
  have Kt := RS.t0 g (v := ii 0)
  have hb := V.1.1
  have t1 := C.1
  have t2 := R0.1
  have l1 := (nzb_ok (v := v1)).1
  have l2 := (nzb_ok (v := v2)).1
  have l3 := (nzb_ok (v := v3)).1
  have l4 := (nzb_ok (v := v4)).1
  have l5 := (nzb_ok (v := v5)).1
  unfold f_HF_feed f_R_feed
  rw [bind_eq (C_bytesIn v1 h), bind_eq (C_bytesIn v2 h), bind_eq (C_bytesIn v3 h), bind_eq (C_bytesIn v4 h), bind_eq (C_bytesIn v5 h)]
  rw [bind_eq (R_bytesIn v1 _), bind_eq (R_bytesIn v2 _), bind_eq (R_bytesIn v3 _), bind_eq (R_bytesIn v4 _), bind_eq (R_bytesIn v5 _)]
  generalize hg0 : wI g 80 0 (ii 0) = g0 at *
  by_cases q : (sB S).length + (nzb v1).length + (nzb v2).length + (nzb v3).length + (nzb v4).length + (nzb v5).length ≤ 240
  · have n1 : (sB S ++ nzb v1).length ≤ 240 := by rw [List.length_append]; omega
    have n2 : (sB S ++ nzb v1 ++ nzb v2).length ≤ 240 := by rw [List.length_append, List.length_append]; omega
    have n3 : (sB S ++ nzb v1 ++ nzb v2 ++ nzb v3).length ≤ 240 := by rw [List.length_append, List.length_append, List.length_append]; omega
    have n4 : (sB S ++ nzb v1 ++ nzb v2 ++ nzb v3 ++ nzb v4).length ≤ 240 := by rw [List.length_append, List.length_append, List.length_append, List.length_append]; omega
    have n5 : (sB S ++ nzb v1 ++ nzb v2 ++ nzb v3 ++ nzb v4 ++ nzb v5).length ≤ 240 := by rw [List.length_append, List.length_append, List.length_append, List.length_append, List.length_append]; omega
    obtain ⟨h1, e1, u1, A1, _⟩ := C_append v1 h t1 n1
    obtain ⟨h2, e2, u2, A2, _⟩ := C_append v2 h1 u1 n2
    obtain ⟨h3, e3, u3, A3, _⟩ := C_append v3 h2 u2 n3
    obtain ⟨h4, e4, u4, A4, _⟩ := C_append v4 h3 u3 n4
    obtain ⟨h5, e5, u5, A5, _⟩ := C_append v5 h4 u4 n5
    obtain ⟨g1, f1, w1, B1, j1⟩ := R_put v1 g0 t2 n1
    obtain ⟨g2, f2, w2, B2, j2⟩ := R_put v2 g1 w1 n2
    obtain ⟨g3, f3, w3, B3, j3⟩ := R_put v3 g2 w2 n3
    obtain ⟨g4, f4, w4, B4, j4⟩ := R_put v4 g3 w3 n4
    obtain ⟨g5, f5, w5, B5, j5⟩ := R_put v5 g4 w4 n5
    have A := (((A1.tr A2).tr A3).tr A4).tr A5
    have Bg := (((B1.tr B2).tr B3).tr B4).tr B5
    have Jg : ∀ j, j ≠ 6 → g5.1 80 j = g0.1 80 j := fun j hj => by rw [j5 j hj, j4 j hj, j3 j hj, j2 j hj, j1 j hj]
    rw [if_pos (show h.1 1 1 + _ ≤ ii 240 by rw [t1.1, ii_add, ii_add, ii_add, ii_add, ii_add, ii_le (by omega) (by omega) (by omega) (by omega)]; omega)]
    rw [if_pos (show g0.1 80 6 + _ + _ + _ + _ + _ ≤ ii 240 by rw [t2.1, ii_add, ii_add, ii_add, ii_add, ii_add, ii_le (by omega) (by omega) (by omega) (by omega)]; omega)]
    rw [bind_eq e1, bind_eq e2, bind_eq e3, bind_eq e4, bind_eq e5, bind_eq f1, bind_eq f2, bind_eq f3, bind_eq f4, bind_eq f5, u5.1, w5.1]
    have ok := ((((V.1.app (nzb_ok (v := v1)).2 n1).app (nzb_ok (v := v2)).2 n2).app (nzb_ok (v := v3)).2 n3).app (nzb_ok (v := v4)).2 n4).app (nzb_ok (v := v5)).2 n5
    exact ⟨_, h5, g5, (sB S ++ nzb v1 ++ nzb v2 ++ nzb v3 ++ nzb v4 ++ nzb v5, sH S, sD S, sA S, sI S, sE S, sL S, sO S, sW S), rfl, rfl, ⟨ok, V.2⟩, (C.tp V A u5).mono (by omega), R0.tp Bg Jg w5, KR.ag A (by decide), Kt.2.tr (KC.ag Bg (by decide))⟩
  · rw [if_neg (show ¬ h.1 1 1 + _ ≤ ii 240 by rw [t1.1, ii_add, ii_add, ii_add, ii_add, ii_add, ii_le (by omega) (by omega) (by omega) (by omega)]; omega)]
    rw [if_neg (show ¬ g0.1 80 6 + _ + _ + _ + _ + _ ≤ ii 240 by rw [t2.1, ii_add, ii_add, ii_add, ii_add, ii_add, ii_le (by omega) (by omega) (by omega) (by omega)]; omega)]
    exact call_same V C R rfl rfl (CS.rf _) Kt
end SM
