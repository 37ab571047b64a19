/-! what a reader of the class writes: only what is spare -/
section SY
variable {S : ST} {B : Nat} {h g h' g' : AH}
def spP (h : AH) (o : Nat) : Prop := o = lw h 4 + 1 ∨ o = ww h 4 ∨ o = ww h 4 + 1 ∨ (h.2.2 3 4 ≤ o ∧ o < h.2.2 3 4 + 6)
def CKs (h h' : AH) : Prop := (∀ o, o < 80 → scO o = false → ¬ spP h o → h'.1 o = h.1 o) ∧ h'.1 1 1 = h.1 1 1 ∧ h'.1 33 5 = h.1 33 5 ∧ (∀ o, o ∈ [55, 58, 61, 64, 67] → o ≠ lw h 4 → h'.1 o 2 = h.1 o 2) ∧ h'.2.2 = h.2.2
theorem CRep.ks (C : CRep S B h) (V : VS S) (K : CKs h h') : CRep S B h' := by
  obtain ⟨c1, ⟨o, ho, o1', o2, o3⟩, ⟨wr, w1, w2, w3⟩, c4, c5, c6, c7⟩ := C
  have hl4 := c6.2.2.1 4 (by omega)
  have hw4 := c7.2.1 4 (by omega)
  have hl : 55 ≤ lw h 4 ∧ lw h 4 ≤ 67 := by simp only [List.mem_cons, List.not_mem_nil, or_false] at hl4; omega
  have hw : 70 ≤ ww h 4 ∧ ww h 4 ≤ 78 := by simp only [List.mem_cons, List.not_mem_nil, or_false] at hw4; omega
  have lo : ∀ x, x < 43 → scO x = false → h'.1 x = h.1 x := fun x hx hs => K.1 x (by omega) hs (by unfold spP; omega)
  have e0 := lo 0 (by omega) (by decide)
  have elw : ∀ i, lw h' i = lw h i := fun i => by unfold lw; rw [K.2.2.2.2]
  have eww : ∀ i, ww h' i = ww h i := fun i => by unfold ww; rw [K.2.2.2.2]
  have m13 : mvO h' 13 = mvO h 13 := mv_eq (fun i hi => lo _ (by omega) (by rcases (show i = 0 ∨ i = 1 ∨ i = 2 ∨ i = 3 ∨ i = 4 ∨ i = 5 by omega) with e | e | e | e | e | e <;> subst e <;> decide))
  have m19 : mvO h' 19 = mvO h 19 := mv_eq (fun i hi => lo _ (by omega) (by rcases (show i = 0 ∨ i = 1 ∨ i = 2 ∨ i = 3 ∨ i = 4 ∨ i = 5 by omega) with e | e | e | e | e | e <;> subst e <;> decide))
  have e31 := lo 31 (by omega) (by decide)
  have e32 := lo 32 (by omega) (by decide)
  refine ⟨⟨by rw [K.2.1]; exact c1.1, fun j hj => by rw [lo 2 (by omega) (by decide)]; exact c1.2 j hj⟩, ⟨o, ho, by rw [K.2.2.2.2]; exact o1', by rw [K.2.2.2.2]; exact o2, o3.ag (fun i hi => K.1 _ (by omega) ?_ (by unfold spP; omega))⟩, ⟨wr, w1, by rw [m13]; exact w2, w3.eq e31 e32 m13⟩, c4.eq (by rw [e0]) m19 (Nat.le_refl _), c5.eq K.2.2.1 (lo 34 (by omega) (by decide)) (lo 35 (by omega) (by decide)) (lo 36 (by omega) (by decide)), ?_, ?_⟩
  · rcases ho with e | e <;> subst e <;> rcases (show i = 0 ∨ i = 1 ∨ i = 2 ∨ i = 3 ∨ i = 4 ∨ i = 5 by omega) with e | e | e | e | e | e <;> subst e <;> decide
  · obtain ⟨a1, a2, a3, a4, a5⟩ := c6
    refine ⟨by rw [e0]; exact a1, by rw [e0]; exact a2, fun i hi => by rw [elw]; exact a3 i hi, fun i j hi hj => by rw [elw, elw]; exact a4 i j hi hj, fun i hi => ?_⟩
    rw [elw]
    have hla : (sL S).length ≤ 4 := V.2.2.2.2.2.2.1.1
    have hi5 : i < 5 := by omega
    have hne : lw h i ≠ lw h 4 := fun e => by have := a4 i 4 hi5 (by omega) e; omega
    have hm := a3 i hi5
    obtain ⟨D, d1, d2, d3, d4⟩ := a5 i hi
    refine ⟨D, d1, d2, by rw [K.2.2.2.1 _ hm hne]; exact d3, ?_⟩
    have e1 : h'.1 (lw h i + 1) = h.1 (lw h i + 1) := by
      generalize lw h i = z at *
      simp only [List.mem_cons, List.not_mem_nil, or_false] at hm
      refine K.1 _ (by omega) ?_ (by unfold spP; omega)
      rcases hm with e | e | e | e | e <;> subst e <;> decide
    rw [e1]; exact d4
  · obtain ⟨a1, a3, a4, a5⟩ := c7
    refine ⟨by rw [e0]; exact a1, fun i hi => by rw [eww]; exact a3 i hi, fun i j hi hj => by rw [eww, eww]; exact a4 i j hi hj, fun i hi => ?_⟩
    rw [eww]
    have hla : (sW S).length ≤ 4 := V.2.2.2.2.2.2.2.2.1
    have hi5 : i < 5 := by omega
    have hne : ww h i ≠ ww h 4 := fun e => by have := a4 i 4 hi5 (by omega) e; omega
    have hm := a3 i hi5
    have hwc := a5 i hi
    have hh : 43 ≤ h.2.2 3 4 ∧ h.2.2 3 4 ≤ 49 := by omega
    generalize ww h i = z at *
    have e1 : h'.1 z = h.1 z ∧ h'.1 (z + 1) = h.1 (z + 1) := by
      simp only [List.mem_cons, List.not_mem_nil, or_false] at hm hw4 hl4
      refine ⟨K.1 _ (by omega) ?_ (by unfold spP; omega), K.1 _ (by omega) ?_ (by unfold spP; omega)⟩ <;> (rcases hm with e | e | e | e | e <;> subst e <;> decide)
    unfold WalC
    rw [e1.1, e1.2]; exact hwc
theorem call_ks (V : VS S) (C : CRep S B h) (R : RRep S g) {x : Int32} {h1 g1 : AH} {cf rf : Option (Int32 × AH)} (e1 : cf = some (x, h1)) (e2 : rf = some (x, g1)) (K1 : CKs h h1) (K1' : KR h h1) (K2 : RS g g1) : Call S B h g cf rf := ⟨x, h1, g1, S, e1, e2, V, (C.ks V K1).mono (by omega), R.keep V K2.1, K1', K2.2⟩
end SY
