/-! image, back -/
section IM
variable {S : ST} {B : Nat} {h g h' g' : AH}
theorem cpy_lt {α : Type} {f g : Nat → α} {n k : Nat} (hk : k < n) : va_cpy f g 0 0 n k = f k := by unfold va_cpy; rw [if_pos (by omega), Nat.zero_add, Nat.sub_zero]
theorem C_copy {p q : Nat} (hpq : p + 6 ≤ q ∨ q + 6 ≤ p) (h : AH) (lo hi : Nat) : ∃ h1, f_Moor_copy p q h = some h1 ∧ Ag [p, p + 1, p + 2, p + 3, p + 4, p + 5] h h1 ∧ MEq lo hi (mvO h q) (mvO h1 p) ∧ ∀ j, j ≠ 5 → j ≠ 6 → j ≠ 7 → j ≠ 8 → h1.1 p j = h.1 p j := by
  have n0 : (ii 0).toNatClampNeg = 0 := by decide
  have n6 : (ii 6).toNatClampNeg = 6 := by decide
  have n2 : (ii 2).toNatClampNeg = 2 := by decide
  have n100 : (ii 100).toNatClampNeg = 100 := by decide
  have n30 : (ii 30).toNatClampNeg = 30 := by decide
  unfold f_Moor_copy
  rw [n0, n6, n2, n100, n30]
  rw [Option.bind_some, Option.bind_some, Option.bind_some, Option.bind_some, Option.bind_some]
  refine ⟨_, rfl, ?_, ?_, ?_⟩
  · exact (((((((((Ag.rf _ _).pA (by simp)).pA (by simp)).pA (by simp)).pA (by simp)).pA (by simp)).pI (by simp)).pI (by simp)).pI (by simp)).pI (by simp)
  · unfold mvO MEq
    simp (disch := omega) only [wI_ne, wI_self, wA_ne, wA_self, upd_ne, upd_self, ne_eq]
    exact ⟨fun f hf => cpy_lt hf, fun f hf => cpy_lt hf, fun f hf => cpy_lt hf, fun t _ _ => cpy_lt (by omega), fun f hf => cpy_lt hf, trivial⟩
  · intro j h5 h6 h7 h8
    simp (disch := omega) only [wI_ne, wI_self, wA_ne, wA_self, upd_ne, upd_self, ne_eq]
theorem k_image (V : VS S) (C : CRep S B h) (R : RRep S g) : Call S B h g (f_HF_image h) (f_R_image g) := by
  have R0 : RRep S (wI g 80 0 (ii 0)) := R.keep V (RS.t0 g).1
  obtain ⟨o, wr0, ho, X⟩ := rx_of C V R0
  obtain ⟨E, Ch, _, Rh, D, W, Vd⟩ := X
  have hcl := W.cells
  have hnf := W.nf
  have Kt := RS.t0 g (v := ii 0)
  unfold f_HF_image f_R_image
  generalize hg0 : wI g 80 0 (ii 0) = g0 at *
  by_cases q0 : cellsM (sH S) = 0
  · rw [C_hhF E Ch q0, if_pos i00, Rh.2.2.2.2.2.1, q0, if_pos i00]
    exact call_same V C R rfl rfl (CS.rf _) Kt
  · obtain ⟨c1, c2, ⟨wr, w1, w2, w3⟩, c4, c5, c6, c7⟩ := id C
    obtain ⟨s1, s2, s3, s4, s5, s6, s7, s8, s9⟩ := id R0
    obtain ⟨h1, e1, A1, M1, j1⟩ := C_copy (p := 19) (q := 13) (Or.inr (by omega)) h 0 wr
    obtain ⟨g1, f1, k1, B1⟩ := R_cp (m0 := 227) (u0 := 97) (m1 := 227) (u1 := 104) (by omega) (by omega) (by omega) g0
    obtain ⟨hN, ehN⟩ : ∃ hN, hN = wI h1 0 17 (ii 1) := ⟨_, rfl⟩
    obtain ⟨gN, egN⟩ : ∃ gN, gN = wI g1 80 55 (ii 1) := ⟨_, rfl⟩
    have AN : Ag [0, 19, 20, 21, 22, 23, 24] h hN := by rw [ehN]; exact Ag.pI ⟨fun o ho => A1.1 o (by simp at ho ⊢; omega), A1.2⟩ (by decide)
    have BN : Ag [80, 104] g0 gN := by rw [egN]; exact Ag.pI ⟨fun o ho => B1.1 o (by simp at ho ⊢; omega), B1.2⟩ (by decide)
    have z0 : ∀ j, j ≠ 17 → hN.1 0 j = h.1 0 j := fun j hj => by rw [ehN, wI_self, upd_ne hj, A1.1 0 (by decide)]
    have z17 : hN.1 0 17 = ii 1 := by rw [ehN, wI_self, upd_self]
    have e80 : ∀ j, j ≠ 55 → gN.1 80 j = g0.1 80 j := fun j hj => by rw [egN, wI_self, upd_ne hj, B1.1 80 (by decide)]
    have e55 : gN.1 80 55 = ii 1 := by rw [egN, wI_self, upd_self]
    have em : mvO hN 13 = mvO h 13 := mv_eq (fun i hi => AN.1 _ (by simp <;> omega))
    have em2 : mvO hN 19 = mvO h1 19 := by rw [ehN]; exact mv_eq (fun i hi => wI_ne (by omega))
    have r104 : RDy (sD S) gN 104 := fun j hj => by rw [egN, wI_ne (by decide), k1 j hj]; exact s3 j hj
    have C1 := C.gx V (CKx.ag AN (by decide)) (z0 14 (by decide)) (z0 15 (by decide)) (B' := B + 64) (c1.ag (AN.1 1 (by decide)) (AN.1 2 (by decide))) ⟨wr, by omega, by rw [em]; exact w2, w3.eq (AN.1 31 (by decide)) (AN.1 32 (by decide)) em⟩ (im := some (sD S)) ⟨z17, wr, by omega, by rw [em2]; exact w2.eq M1 (by omega) (by omega) (Nat.le_refl _)⟩ (c5.eq (by rw [AN.1 33 (by decide)]) (AN.1 34 (by decide)) (AN.1 35 (by decide)) (AN.1 36 (by decide))) (ho := sO S) (by rw [z0 16 (by decide)]; exact c6.2.1)
    have R1 := R0.gx (d := sD S) (g' := gN) ⟨fun o ho => BN.1 o (by simp only [List.mem_cons, List.not_mem_nil, or_false] at ho ⊢; omega), fun j hj => e80 j (by simp only [List.mem_cons, List.not_mem_nil, or_false] at hj; omega)⟩ ⟨by rw [e80 6 (by decide)]; exact s1.1, fun j hj => by rw [BN.1 81 (by decide)]; exact s1.2 j hj⟩ (fun j hj => by rw [BN.1 97 (by decide)]; exact s3 j hj) (s4.eq (e80 45 (by decide)) (BN.1 99 (by decide))) (im := some (sD S)) ⟨e55, r104⟩ (s6.eq (e80 52 (by decide)) (BN.1 100 (by decide)) (BN.1 101 (by decide)) (BN.1 102 (by decide))) (ho := sO S) (by rw [e80 43 (by decide)]; exact s7.2.1) (fun j hj => by rw [BN.1 84 (by decide)]; exact s9 j hj)
    obtain ⟨v1, v2, v3, v4, v5, v6⟩ := id V
    have a8 : hN.1 13 8 = (sD S) 45 := by rw [AN.1 13 (by decide)]; exact w2.2.2.2.2.2.2.2
    have b45 : gN.1 97 (ii 45).toNatClampNeg = (sD S) 45 := by rw [show (ii 45).toNatClampNeg = 45 by decide, BN.1 97 (by decide)]; exact s3 45 (by omega)
    rw [C_hhT E Ch W q0, if_neg i10, Rh.2.2.2.2.2.1, if_neg (show ¬ ii (cellsM (sH S)) = 0 by rw [ii_z (by omega) (by omega)]; exact q0), bind_eq e1, bind_eq f1, if_pos (show inb (ii 45) 227 = true by decide), ← ehN, ← egN, a8, b45]
    exact ⟨_, hN, gN, (sB S, sH S, sD S, sA S, some (sD S), sE S, sL S, sO S, sW S), rfl, rfl, ⟨v1, v2, v3, v4, fun x hx => by rw [← Option.some.inj hx]; exact v3, v6⟩, C1, R1, KR.ag AN (by decide), Kt.2.tr (KC.ag BN (by decide))⟩
theorem k_back (V : VS S) (C : CRep S B h) (R : RRep S g) : Call S B h g (f_HF_back h) (f_R_back g) := by
  have R0 : RRep S (wI g 80 0 (ii 0)) := R.keep V (RS.t0 g).1
  have W := V.2.1
  have hcl := W.cells
  have hnf := W.nf
  have Kt := RS.t0 g (v := ii 0)
  unfold f_HF_back f_R_back f_Acts_clear
  generalize hg0 : wI g 80 0 (ii 0) = g0 at *
  obtain ⟨c1, c2, ⟨wr, w1, w2, w3⟩, c4, c5, c6, c7⟩ := id C
  obtain ⟨s1, s2, s3, s4, s5, s6, s7, s8, s9⟩ := id R0
  obtain ⟨v1, v2, v3, v4, v5, v6⟩ := id V
  cases hI : sI S with
  | none =>
    unfold CIm at c4; unfold RIm at s5
    rw [hI] at c4 s5
    simp only at c4 s5
    rw [c4, s5, if_pos i00, if_pos i00]
    exact call_same V C R rfl rfl (CS.rf _) Kt
  | some m =>
    have c4' := c4
    have s5' := s5
    unfold CIm at c4'; unfold RIm at s5'
    rw [hI] at c4' s5'
    simp only at c4' s5'
    obtain ⟨x17, wm, y1, y2⟩ := c4'
    obtain ⟨x55, y3⟩ := s5'
    have Vm := v5 m hI
    obtain ⟨h1, e1, A1, M1, j1⟩ := C_copy (p := 13) (q := 19) (Or.inl (by omega)) h 0 wm
    obtain ⟨g1, f1, k1, B1⟩ := R_cp (m0 := 227) (u0 := 104) (m1 := 227) (u1 := 97) (by omega) (by omega) (by omega) g0
    obtain ⟨hN, ehN⟩ : ∃ hN, hN = wI h1 31 1 (ii 0) := ⟨_, rfl⟩
    obtain ⟨gN, egN⟩ : ∃ gN, gN = wI g1 80 45 (ii 0) := ⟨_, rfl⟩
    have AN : Ag [13, 14, 15, 16, 17, 18, 31] h hN := by rw [ehN]; exact Ag.pI ⟨fun o ho => A1.1 o (by simp at ho ⊢; omega), A1.2⟩ (by decide)
    have BN : Ag [80, 97] g0 gN := by rw [egN]; exact Ag.pI ⟨fun o ho => B1.1 o (by simp at ho ⊢; omega), B1.2⟩ (by decide)
    have e0 := AN.1 0 (by decide)
    have e80 : ∀ j, j ≠ 45 → gN.1 80 j = g0.1 80 j := fun j hj => by rw [egN, wI_self, upd_ne hj, B1.1 80 (by decide)]
    have e45 : gN.1 80 45 = ii 0 := by rw [egN, wI_self, upd_self]
    have em : mvO hN 13 = mvO h1 13 := by rw [ehN]; exact mv_eq (fun i hi => wI_ne (by omega))
    have MN : MR (sH S) m wm (mvO hN 13) := by rw [em]; exact y2.eq M1 (by omega) (by omega) (Nat.le_refl _)
    have r97 : RDy m gN 97 := fun j hj => by rw [egN, wI_ne (by decide), k1 j hj]; exact y3 j hj
    obtain ⟨a1', nx, n1, n2, _⟩ := w3
    have P : CAc (sH S) [] wm hN := ⟨by rw [ehN, wI_self, upd_self]; rfl, nx, n1, by rw [ehN, wI_self, upd_ne (by omega), A1.1 31 (by decide)]; exact n2, trivial⟩
    have C1 := C.gx V (CKx.ag AN (by decide)) (by rw [e0]) (by rw [e0]) (B' := B + 64) (c1.ag (AN.1 1 (by decide)) (AN.1 2 (by decide))) ⟨wm, by omega, MN, P⟩ (c4.eq (by rw [e0]) (mv_eq (fun i hi => AN.1 _ (by simp <;> omega))) (by omega)) (c5.eq (by rw [AN.1 33 (by decide)]) (AN.1 34 (by decide)) (AN.1 35 (by decide)) (AN.1 36 (by decide))) (ho := sO S) (by rw [e0]; exact c6.2.1)
    have R1 := R0.gx (d := m) (ac := []) (g' := gN) ⟨fun o ho => BN.1 o (by simp only [List.mem_cons, List.not_mem_nil, or_false] at ho ⊢; omega), fun j hj => e80 j (by simp only [List.mem_cons, List.not_mem_nil, or_false] at hj; omega)⟩ ⟨by rw [e80 6 (by decide)]; exact s1.1, fun j hj => by rw [BN.1 81 (by decide)]; exact s1.2 j hj⟩ r97 ⟨e45, fun i hi => by simp at hi⟩ (s5.eq (e80 55 (by decide)) (BN.1 104 (by decide))) (s6.eq (e80 52 (by decide)) (BN.1 100 (by decide)) (BN.1 101 (by decide)) (BN.1 102 (by decide))) (ho := sO S) (by rw [e80 43 (by decide)]; exact s7.2.1) (fun j hj => by rw [BN.1 84 (by decide)]; exact s9 j hj)
    have a8 : hN.1 13 8 = m 45 := MN.2.2.2.2.2.2.2
    have b45 : gN.1 97 (ii 45).toNatClampNeg = m 45 := by rw [show (ii 45).toNatClampNeg = 45 by decide]; exact r97 45 (by omega)
    rw [x17, x55, if_neg i10, if_neg i10, bind_eq e1, bind_eq f1, Option.bind_some, if_pos (show inb (ii 45) 227 = true by decide), ← ehN, ← egN, a8, b45]
    exact ⟨_, hN, gN, (sB S, sH S, m, [], sI S, sE S, sL S, sO S, sW S), rfl, rfl, ⟨v1, v2, Vm, ⟨by show (0 : Nat) ≤ 40; omega, fun x hx => by cases hx⟩, v5, v6⟩, C1, R1, KR.ag AN (by decide), Kt.2.tr (KC.ag BN (by decide))⟩
end IM
