/-! the class's cells, as far as they tell the state -/
def MEq (lo hi : Nat) (M M' : MV) : Prop :=
  (∀ f, f < 6 → M'.1 f = M.1 f) ∧ (∀ f, f < 6 → M'.2.1 f = M.2.1 f) ∧ (∀ g, g < 2 → M'.2.2.1 g = M.2.2.1 g) ∧ (∀ t, lo ≤ t → t < hi → M'.2.2.2.1 (t % 100) = M.2.2.2.1 (t % 100)) ∧
  (∀ c, c < 30 → M'.2.2.2.2.1 c = M.2.2.2.2.1 c) ∧ M'.2.2.2.2.2 = M.2.2.2.2.2
theorem MEq.rf (lo hi : Nat) (M : MV) : MEq lo hi M M := ⟨fun _ _ => rfl, fun _ _ => rfl, fun _ _ => rfl, fun _ _ _ => rfl, fun _ _ => rfl, rfl⟩
theorem MEq.mono {lo hi lo' hi' : Nat} {M M' : MV} (e : MEq lo hi M M') (h1 : lo ≤ lo') (h2 : hi' ≤ hi) : MEq lo' hi' M M' := ⟨e.1, e.2.1, e.2.2.1, fun t a b => e.2.2.2.1 t (by omega) (by omega), e.2.2.2.2⟩
theorem MR.eq {hd : Nat → Int} {d : DY} {wr lo hi : Nat} {M M' : MV} (R : MR hd d wr M) (e : MEq lo hi M M') (h7 : hd 7 ≤ 6) (h1 : lo ≤ wr - 60) (h2 : wr ≤ hi) : MR hd d wr M' := by
  obtain ⟨e1, e2, e3, e4, e5, e6⟩ := e
  obtain ⟨r1, r2, r3, r4, r5, r6⟩ := R
  refine ⟨fun f hf => by rw [e1 f (by omega)]; exact r1 f hf, fun f hf => by rw [e2 f hf]; exact r2 f hf, ⟨by rw [e3 0 (by omega)]; exact r3.1, by rw [e3 1 (by omega)]; exact r3.2⟩, ⟨by rw [e6]; exact r4.1, r4.2.1, r4.2.2.1, fun i hi' => ?_⟩, fun c hc => by rw [e5 c hc]; exact r5 c hc, by rw [e6]; exact r6.1, by rw [e6]; exact r6.2.1, by rw [e6]; exact r6.2.2⟩
  have := r4.2.2.1
  rw [e4 _ (by omega) (by omega)]
  exact r4.2.2.2 i hi'
/-- M1: M with the act r undone -/
def UN (hd : Nat → Int) (r : Nat → Int32) (M M1 : MV) : Prop :=
  (r 0 = ii 0 ∧ ∃ f : Nat, (f : Int) < hd 7 ∧ r 1 = ii f ∧ (∀ i, i < 6 → M1.1 i = if i = f then r 2 else M.1 i) ∧ (∀ i, i < 6 → M1.2.1 i = M.2.1 i) ∧ (∀ g, g < 2 → M1.2.2.1 g = if (g : Int) = fkM hd f 5 then r 3 else M.2.2.1 g) ∧
    M1.2.2.2.1 = M.2.2.2.1 ∧ (∀ c, c < 30 → M1.2.2.2.2.1 c = M.2.2.2.2.1 c) ∧ M1.2.2.2.2.2 = (M.2.2.2.2.2.1 - ii 1, M.2.2.2.2.2.2)) ∨
  (r 0 = ii 1 ∧ ∃ c : Nat, (c : Int) < cellsM hd ∧ r 1 = ii c ∧ (∀ i, i < 6 → M1.1 i = M.1 i) ∧ (∀ i, i < 6 → M1.2.1 i = M.2.1 i + (if tb (r 2) i then - r 3 else ii 0)) ∧ (∀ g, g < 2 → M1.2.2.1 g = M.2.2.1 g) ∧
    M1.2.2.2.1 = M.2.2.2.1 ∧ (∀ i, i < 30 → M1.2.2.2.2.1 i = if i = c then ii 0 else M.2.2.2.2.1 i) ∧
    M1.2.2.2.2.2 = (M.2.2.2.2.2.1, M.2.2.2.2.2.2.1 &&& (bitI c ^^^ ii (-1)), M.2.2.2.2.2.2.2.1 - M.2.2.2.2.1 c * (ii (hd 3) + ii (rkM hd c)), M.2.2.2.2.2.2.2.2)) ∨
  (r 0 = ii 2 ∧ (∀ i, i < 6 → M1.1 i = M.1 i) ∧ (∀ i, i < 6 → M1.2.1 i = M.2.1 i) ∧ (∀ g, g < 2 → M1.2.2.1 g = M.2.2.1 g) ∧ M1.2.2.2.1 = M.2.2.2.1 ∧ (∀ c, c < 30 → M1.2.2.2.2.1 c = M.2.2.2.2.1 c) ∧
    M1.2.2.2.2.2 = (M.2.2.2.2.2.1, M.2.2.2.2.2.2.1, M.2.2.2.2.2.2.2.1, remI (M.2.2.2.2.2.2.2.2 + ii 4 - ii 1) (ii 4)))
theorem UN.eq {hd : Nat → Int} {r : Nat → Int32} {lo hi : Nat} {M M1 M' : MV} (u : UN hd r M M1) (e : MEq lo hi M M') (H : HS hd) : ∃ M1', UN hd r M' M1' ∧ MEq lo hi M1 M1' := by
  have hc := H.cells
  obtain ⟨e1, e2, e3, e4, e5, e6⟩ := e
  rcases u with ⟨k, f, hf, k1, u1, u2, u3, u4, u5, u6⟩ | ⟨k, c, hf, k1, u1, u2, u3, u4, u5, u6⟩ | ⟨k, u1, u2, u3, u4, u5, u6⟩
  · refine ⟨(M1.1, M1.2.1, M1.2.2.1, M'.2.2.2.1, M1.2.2.2.2), Or.inl ⟨k, f, hf, k1, fun i hi => ?_, fun i hi => ?_, fun i hi => ?_, rfl, fun i hi => ?_, ?_⟩, fun _ _ => rfl, fun _ _ => rfl, fun _ _ => rfl, fun t a b => ?_, fun _ _ => rfl, rfl⟩
    · rw [e1 i hi]; exact u1 i hi
    · rw [e2 i hi]; exact u2 i hi
    · rw [e3 i hi]; exact u3 i hi
    · rw [e5 i hi]; exact u5 i hi
    · rw [e6]; exact u6
    · rw [u4]; exact e4 t a b
  · refine ⟨(M1.1, M1.2.1, M1.2.2.1, M'.2.2.2.1, M1.2.2.2.2), Or.inr (Or.inl ⟨k, c, hf, k1, fun i hi => ?_, fun i hi => ?_, fun i hi => ?_, rfl, fun i hi => ?_, ?_⟩), fun _ _ => rfl, fun _ _ => rfl, fun _ _ => rfl, fun t a b => ?_, fun _ _ => rfl, rfl⟩
    · rw [e1 i hi]; exact u1 i hi
    · rw [e2 i hi]; exact u2 i hi
    · rw [e3 i hi]; exact u3 i hi
    · rw [e5 i hi]; exact u5 i hi
    · rw [e6, e5 c (by omega)]; exact u6
    · rw [u4]; exact e4 t a b
  · refine ⟨(M1.1, M1.2.1, M1.2.2.1, M'.2.2.2.1, M1.2.2.2.2), Or.inr (Or.inr ⟨k, fun i hi => ?_, fun i hi => ?_, fun i hi => ?_, rfl, fun i hi => ?_, ?_⟩), fun _ _ => rfl, fun _ _ => rfl, fun _ _ => rfl, fun t a b => ?_, fun _ _ => rfl, rfl⟩
    · rw [e1 i hi]; exact u1 i hi
    · rw [e2 i hi]; exact u2 i hi
    · rw [e3 i hi]; exact u3 i hi
    · rw [e5 i hi]; exact u5 i hi
    · rw [e6]; exact u6
    · rw [u4]; exact e4 t a b
/-- the acts (the latest first), each with what undoing it gives -/
def CHN (hd : Nat → Int) (rc : Nat → Nat → Int32) : List DY → Nat → Nat → MV → Prop
  | [], _, _, _ => True
  | s :: l, k, wr, M => ∃ M1 wr1, UN hd (rc k) M M1 ∧ MR hd s wr1 M1 ∧ wr1 ≤ wr ∧ wr ≤ wr1 + 1 ∧ CHN hd rc l (k + 1) wr1 M1
theorem CHN.eq {hd : Nat → Int} {rc : Nat → Nat → Int32} (H : HS hd) {lo hi : Nat} : ∀ (l : List DY) (k wr : Nat) (M M' : MV), CHN hd rc l k wr M → MEq lo hi M M' → lo + 60 + l.length ≤ wr ∨ lo = 0 → wr ≤ hi → CHN hd rc l k wr M'
  | [], _, _, _, _, _, _, _, _ => trivial
  | s :: l, k, wr, M, M', ⟨M1, wr1, u, r, w1, w2, c⟩, e, h1, h2 => by
    obtain ⟨M1', u', e'⟩ := u.eq e H
    have h7 : hd 7 ≤ 6 := by have := H.nf; omega
    simp only [List.length_cons] at h1
    exact ⟨M1', wr1, u', r.eq e' h7 (by omega) (by omega), w1, w2, CHN.eq H l (k + 1) wr1 M1 M1' c e' (by omega) (by omega)⟩
theorem CHN.rc {hd : Nat → Int} {rc rc' : Nat → Nat → Int32} : ∀ (l : List DY) (k k' wr : Nat) (M : MV), CHN hd rc l k wr M → (∀ i, i < l.length → rc' (k' + i) = rc (k + i)) → CHN hd rc' l k' wr M
  | [], _, _, _, _, _, _ => trivial
  | s :: l, k, k', wr, M, ⟨M1, wr1, u, r, w1, w2, c⟩, e => by
    refine ⟨M1, wr1, ?_, r, w1, w2, CHN.rc l (k + 1) (k' + 1) wr1 M1 c (fun i hi => ?_)⟩
    · have := e 0 (by simp); rw [Nat.add_zero, Nat.add_zero] at this; rw [this]; exact u
    · have := e (i + 1) (by simp; omega)
      rw [show k' + 1 + i = k' + (i + 1) by omega, show k + 1 + i = k + (i + 1) by omega]; exact this
theorem CHN.pre {hd : Nat → Int} {rc : Nat → Nat → Int32} : ∀ (l l2 : List DY) (k wr : Nat) (M : MV), CHN hd rc (l ++ l2) k wr M → CHN hd rc l k wr M
  | [], _, _, _, _, _ => trivial
  | s :: l, l2, k, wr, M, ⟨M1, wr1, u, r, w1, w2, c⟩ => ⟨M1, wr1, u, r, w1, w2, CHN.pre l l2 (k + 1) wr1 M1 c⟩
def rcO (h : AH) (nx : Nat) (k p : Nat) : Int32 := h.1 32 (4 * ((nx + 39 - k) % 40) + p)
def CHea (hd : Nat → Int) (h : AH) : Prop := ∃ o, (o = 43 ∨ o = 49) ∧ h.2.2 0 13 = o ∧ h.2.2 3 4 = 92 - o ∧ CH hd o h
def CAc (hd : Nat → Int) (ac : List DY) (wr : Nat) (h : AH) : Prop := h.1 31 1 = ii ac.length ∧ ∃ nx : Nat, nx < 40 ∧ h.1 31 2 = ii nx ∧ CHN hd (rcO h nx) ac.reverse 0 wr (mvO h 13)
def CIm (hd : Nat → Int) (im : Option DY) (B : Nat) (h : AH) : Prop := match im with
  | none => h.1 0 17 = ii 0
  | some m => h.1 0 17 = ii 1 ∧ ∃ wr, wr ≤ B ∧ MR hd m wr (mvO h 19)
def CHe (he : HE) (h : AH) : Prop := h.1 33 5 = ii he.length ∧ ∀ i, i < he.length → h.1 34 i = ii (he.getD i (0, 0, false)).1 ∧ h.1 35 i = ii (he.getD i (0, 0, false)).2.1 ∧ h.1 36 i = bI (he.getD i (0, 0, false)).2.2
def lw (h : AH) (i : Nat) : Nat := if i < 4 then h.2.2 10 i else h.2.2 8 0
def ww (h : AH) (i : Nat) : Nat := if i < 4 then h.2.2 11 i else h.2.2 9 0
def LawC (t : List Int) (o : Nat) (h : AH) : Prop := ∃ C, pLaw t = .inr C ∧ C.length ≤ 240 ∧ h.1 o 2 = ii C.length ∧ ∀ j, j < C.length → h.1 (o + 1) j = ii (C.getD j 0)
def WalC (t : List (Nat × Nat)) (o : Nat) (h : AH) : Prop := h.1 o 1 = ii t.length ∧ ∀ j, j < t.length → h.1 (o + 1) j = ii (4 * (t.getD j (0, 0)).1 + (t.getD j (0, 0)).2)
def CLa (la : List (List Int)) (ho : Int) (h : AH) : Prop := h.1 0 14 = ii la.length ∧ h.1 0 16 = ii ho ∧ (∀ i, i < 5 → lw h i ∈ [55, 58, 61, 64, 67]) ∧ (∀ i j, i < 5 → j < 5 → lw h i = lw h j → i = j) ∧ ∀ i, i < la.length → LawC (la.getD i []) (lw h i) h
def CWa (wa : WA) (h : AH) : Prop := h.1 0 15 = ii wa.length ∧ (∀ i, i < 5 → ww h i ∈ [70, 72, 74, 76, 78]) ∧ (∀ i j, i < 5 → j < 5 → ww h i = ww h j → i = j) ∧ ∀ i, i < wa.length → WalC (wa.getD i []) (ww h i) h
def CRep (S : ST) (B : Nat) (h : AH) : Prop := TP 1 1 2 ii h (sB S) ∧ CHea (sH S) h ∧ (∃ wr, wr ≤ B ∧ MR (sH S) (sD S) wr (mvO h 13) ∧ CAc (sH S) (sA S) wr h) ∧ CIm (sH S) (sI S) B h ∧ CHe (sE S) h ∧ CLa (sL S) (sO S) h ∧ CWa (sW S) h
/-- objects (or, of some, fields) of the class that tell nothing of the state -/
def scO (o : Nat) : Bool := [1, 4, 5, 6, 7, 12, 25, 26, 27, 28, 29, 30, 33, 37, 38, 39, 40, 41, 42, 55, 57, 58, 60, 61, 63, 64, 66, 67, 69].contains o
def CKeep (h h' : AH) : Prop := (∀ o, o < 80 → scO o = false → h'.1 o = h.1 o) ∧ h'.1 1 1 = h.1 1 1 ∧ h'.1 33 5 = h.1 33 5 ∧ (∀ o, o ∈ [55, 58, 61, 64, 67] → h'.1 o 2 = h.1 o 2) ∧ ∀ o, o < 80 → h'.2.2 o = h.2.2 o
theorem CKeep.rf (h : AH) : CKeep h h := ⟨fun _ _ _ => rfl, rfl, rfl, fun _ _ => rfl, fun _ _ => rfl⟩
theorem CKeep.tr {h h' h'' : AH} (a : CKeep h h') (b : CKeep h' h'') : CKeep h h'' := ⟨fun o h1 h2 => (b.1 o h1 h2).trans (a.1 o h1 h2), b.2.1.trans a.2.1, b.2.2.1.trans a.2.2.1, fun o ho => (b.2.2.2.1 o ho).trans (a.2.2.2.1 o ho), fun o ho => (b.2.2.2.2 o ho).trans (a.2.2.2.2 o ho)⟩
theorem CKeep.lwe {h h' : AH} (K : CKeep h h') (i : Nat) : lw h' i = lw h i := by unfold lw; rw [K.2.2.2.2 10 (by omega), K.2.2.2.2 8 (by omega)]
theorem CKeep.wwe {h h' : AH} (K : CKeep h h') (i : Nat) : ww h' i = ww h i := by unfold ww; rw [K.2.2.2.2 11 (by omega), K.2.2.2.2 9 (by omega)]
theorem CKeep.mv {h h' : AH} (K : CKeep h h') {p : Nat} (hp : p = 13 ∨ p = 19) : mvO h' p = mvO h p := by
  unfold mvO
  rcases hp with e | e <;> subst e <;> rw [K.1 _ (by omega) (by decide), K.1 _ (by omega) (by decide), K.1 _ (by omega) (by decide), K.1 _ (by omega) (by decide), K.1 _ (by omega) (by decide), K.1 _ (by omega) (by decide)]
theorem CH.ag {hd : Nat → Int} {o : Nat} {h h' : AH} (C : CH hd o h) (e : ∀ i, i < 6 → h'.1 (o + i) = h.1 (o + i)) : CH hd o h' := by
  have e0 : h'.1 o = h.1 o := e 0 (by omega)
  unfold CH
  rw [e0, e 1 (by omega), e 2 (by omega), e 3 (by omega), e 4 (by omega), e 5 (by omega)]
  exact C
theorem CHea.keep {hd : Nat → Int} {h h' : AH} (C : CHea hd h) (K : CKeep h h') : CHea hd h' := by
  obtain ⟨o, ho, c1, c2, c3⟩ := C
  refine ⟨o, ho, by rw [K.2.2.2.2 0 (by omega)]; exact c1, by rw [K.2.2.2.2 3 (by omega)]; exact c2, c3.ag (fun i hi => ?_)⟩
  rcases ho with e | e <;> subst e <;> rcases (show i = 0 ∨ i = 1 ∨ i = 2 ∨ i = 3 ∨ i = 4 ∨ i = 5 by omega) with e | e | e | e | e | e <;> subst e <;> exact K.1 _ (by omega) (by decide)
theorem LawC.keep {t : List Int} {o : Nat} {h h' : AH} (C : LawC t o h) (ho : o ∈ [55, 58, 61, 64, 67]) (K : CKeep h h') : LawC t o h' := by
  obtain ⟨D, d1, d2, d3, d4⟩ := C
  refine ⟨D, d1, d2, by rw [K.2.2.2.1 o ho]; exact d3, ?_⟩
  have : h'.1 (o + 1) = h.1 (o + 1) := by
    simp only [List.mem_cons, List.not_mem_nil, or_false] at ho
    rcases ho with e | e | e | e | e <;> subst e <;> exact K.1 _ (by omega) (by decide)
  rw [this]; exact d4
theorem WalC.keep {t : List (Nat × Nat)} {o : Nat} {h h' : AH} (C : WalC t o h) (ho : o ∈ [70, 72, 74, 76, 78]) (K : CKeep h h') : WalC t o h' := by
  unfold WalC
  simp only [List.mem_cons, List.not_mem_nil, or_false] at ho
  rcases ho with e | e | e | e | e <;> subst e <;> rw [K.1 _ (by omega) (by decide), K.1 _ (by omega) (by decide)] <;> exact C
theorem CLa.keep {la : List (List Int)} {ho : Int} {h h' : AH} (C : CLa la ho h) (hl : la.length ≤ 4) (K : CKeep h h') : CLa la ho h' := by
  obtain ⟨c1, c2, c3, c4, c5⟩ := C
  have e0 := K.1 0 (by omega) (by decide)
  refine ⟨by rw [e0]; exact c1, by rw [e0]; exact c2, fun i hi => by rw [K.lwe]; exact c3 i hi, fun i j hi hj => by rw [K.lwe, K.lwe]; exact c4 i j hi hj, fun i hi => by rw [K.lwe]; exact (c5 i hi).keep (c3 i (by omega)) K⟩
theorem CWa.keep {wa : WA} {h h' : AH} (C : CWa wa h) (hl : wa.length ≤ 4) (K : CKeep h h') : CWa wa h' := by
  obtain ⟨c1, c3, c4, c5⟩ := C
  have e0 := K.1 0 (by omega) (by decide)
  refine ⟨by rw [e0]; exact c1, fun i hi => by rw [K.wwe]; exact c3 i hi, fun i j hi hj => by rw [K.wwe, K.wwe]; exact c4 i j hi hj, fun i hi => by rw [K.wwe]; exact (c5 i hi).keep (c3 i (by omega)) K⟩
theorem CAc.keep {hd : Nat → Int} {ac : List DY} {wr : Nat} {h h' : AH} (C : CAc hd ac wr h) (K : CKeep h h') : CAc hd ac wr h' := by
  obtain ⟨c1, nx, c2, c3, c4⟩ := C
  have e1 := K.1 31 (by omega) (by decide)
  have e2 := K.1 32 (by omega) (by decide)
  refine ⟨by rw [e1]; exact c1, nx, c2, by rw [e1]; exact c3, ?_⟩
  rw [K.mv (Or.inl rfl), show rcO h' nx = rcO h nx by funext k p; unfold rcO; rw [e2]]
  exact c4
theorem CRep.keep {S : ST} {B : Nat} {h h' : AH} (C : CRep S B h) (V : VS S) (K : CKeep h h') : CRep S B h' := by
  obtain ⟨c1, c2, ⟨wr, w1, w2, w3⟩, c4, c5, c6, c7⟩ := C
  refine ⟨⟨by rw [K.2.1]; exact c1.1, fun j hj => by rw [K.1 2 (by omega) (by decide)]; exact c1.2 j hj⟩, c2.keep K, ⟨wr, w1, by rw [K.mv (Or.inl rfl)]; exact w2, w3.keep K⟩, ?_, ⟨by rw [K.2.2.1]; exact c5.1, fun i hi => by rw [K.1 34 (by omega) (by decide), K.1 35 (by omega) (by decide), K.1 36 (by omega) (by decide)]; exact c5.2 i hi⟩, c6.keep V.2.2.2.2.2.2.1.1 K, c7.keep V.2.2.2.2.2.2.2.2.1 K⟩
  unfold CIm at c4 ⊢
  rw [K.1 0 (by omega) (by decide)]
  split at c4
  · exact c4
  · rw [K.mv (Or.inr rfl)]; exact c4
theorem CRep.kc {S : ST} {B : Nat} {h h' : AH} (C : CRep S B h) (V : VS S) (K : KC h h') : CRep S B h' :=
  C.keep V ⟨fun o h1 _ => K.1 o h1, by rw [K.1 1 (by omega)], by rw [K.1 33 (by omega)], fun o ho => by rw [K.1 o (by simp only [List.mem_cons, List.not_mem_nil, or_false] at ho; omega)], fun o ho => K.2 o ho⟩
