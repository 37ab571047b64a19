/-! what stands for a state: R.. in the reference's cells, C.. in the class's -/
theorem i64_lt {x y : Int} (h1 : -4611686018427387904 ≤ x) (h2 : x ≤ 4611686018427387903) (h3 : -4611686018427387904 ≤ y) (h4 : y ≤ 4611686018427387903) : (Int64.ofInt x < Int64.ofInt y) ↔ x < y := by
  have e : ∀ z : Int, -4611686018427387904 ≤ z → z ≤ 4611686018427387903 → (Int64.ofInt z).toInt = z := by
    intro z a b
    rw [Int64.toInt_ofInt, Int.bmod_eq_of_le]
    · have : -9223372036854775808 ≤ z := by omega
      simpa using this
    · have : z < 9223372036854775808 := by omega
      simpa using this
  rw [Int64.lt_iff_toInt_lt, e x h1 h2, e y h3 h4]
theorem i64_eq {x y : Int} (h1 : -4611686018427387904 ≤ x) (h2 : x ≤ 4611686018427387903) (h3 : -4611686018427387904 ≤ y) (h4 : y ≤ 4611686018427387903) : (Int64.ofInt x = Int64.ofInt y) ↔ x = y := by
  have e : ∀ z : Int, -4611686018427387904 ≤ z → z ≤ 4611686018427387903 → (Int64.ofInt z).toInt = z := by
    intro z a b
    rw [Int64.toInt_ofInt, Int.bmod_eq_of_le]
    · have : -9223372036854775808 ≤ z := by omega
      simpa using this
    · have : z < 9223372036854775808 := by omega
      simpa using this
  constructor
  · intro h
    have := congrArg Int64.toInt h
    rwa [e x h1 h2, e y h3 h4] at this
  · intro h; rw [h]
theorem lcmp_v {x y : Int} (h1 : -4611686018427387904 ≤ x) (h2 : x ≤ 4611686018427387903) (h3 : -4611686018427387904 ≤ y) (h4 : y ≤ 4611686018427387903) : lg_cmp (Int64.ofInt x) (Int64.ofInt y) = if y < x then 1 else if x = y then 0 else -1 := by
  unfold lg_cmp
  simp (disch := omega) only [gt_iff_lt, i64_lt, i64_eq]
theorem lcmp_lt {x y : Int} (h1 : -4611686018427387904 ≤ x) (h2 : x ≤ 4611686018427387903) (h3 : -4611686018427387904 ≤ y) (h4 : y ≤ 4611686018427387903) : (lg_cmp (Int64.ofInt x) (Int64.ofInt y) < 0) ↔ x < y := by
  rw [lcmp_v h1 h2 h3 h4]
  by_cases q1 : y < x
  · rw [if_pos q1]
    exact ⟨fun z => absurd z (by decide), fun z => by omega⟩
  · rw [if_neg q1]
    by_cases q2 : x = y
    · rw [if_pos q2]
      exact ⟨fun z => absurd z (by decide), fun z => by omega⟩
    · rw [if_neg q2]
      exact ⟨fun z => by omega, fun z => by decide⟩
theorem lcmp_gt {x y : Int} (h1 : -4611686018427387904 ≤ x) (h2 : x ≤ 4611686018427387903) (h3 : -4611686018427387904 ≤ y) (h4 : y ≤ 4611686018427387903) : (0 < lg_cmp (Int64.ofInt x) (Int64.ofInt y)) ↔ y < x := by
  rw [lcmp_v h1 h2 h3 h4]
  by_cases q1 : y < x
  · rw [if_pos q1]
    exact ⟨fun _ => q1, fun _ => by decide⟩
  · rw [if_neg q1]
    by_cases q2 : x = y
    · rw [if_pos q2]
      exact ⟨fun z => absurd z (by decide), fun z => by omega⟩
    · rw [if_neg q2]
      exact ⟨fun z => absurd z (by decide), fun z => by omega⟩
theorem R_isIn {z a b : Int} (h1 : -2147483648 ≤ z) (h2 : z ≤ 2147483647) (h3 : -2147483648 ≤ a) (h4 : a ≤ 2147483647) (h5 : -2147483648 ≤ b) (h6 : b ≤ 2147483647) : p_R_isIn (ii z).toInt64 (Int64.ofInt a) (Int64.ofInt b) = if a ≤ z ∧ z ≤ b then ii 1 else ii 0 := by
  unfold p_R_isIn
  rw [ii_i64 h1 h2]
  simp (disch := omega) only [lcmp_lt, lcmp_gt]
  by_cases q1 : z < a
  · rw [if_pos q1, if_neg (by omega)]
  · rw [if_neg q1]
    by_cases q2 : b < z
    · rw [if_pos q2, if_neg (by omega)]
    · rw [if_neg q2, if_pos (by omega)]
theorem o0 : Int64.ofNat 0 = Int64.ofInt 0 := rfl
theorem o1 : Int64.ofNat 1 = Int64.ofInt 1 := rfl
def RDy (d : DY) (h : AH) (a : Nat) : Prop := ∀ j, j < 227 → h.1 a j = d j
def RAc (ac : List DY) (h : AH) : Prop := h.1 80 45 = ii ac.length ∧ ∀ i, i < ac.length → ∀ j, j < 227 → h.1 99 (227 * i + j) = (ac.getD i (fun _ => 0)) j
def RIm (im : Option DY) (h : AH) : Prop := match im with
  | none => h.1 80 55 = ii 0
  | some m => h.1 80 55 = ii 1 ∧ RDy m h 104
abbrev HE : Type := List (Nat × Nat × Bool)
def bI (b : Bool) : Int32 := if b then ii 1 else ii 0
def RHe (he : HE) (h : AH) : Prop := h.1 80 52 = ii he.length ∧ ∀ i, i < he.length → h.1 100 i = ii (he.getD i (0, 0, false)).1 ∧ h.1 101 i = ii (he.getD i (0, 0, false)).2.1 ∧ h.1 102 i = bI (he.getD i (0, 0, false)).2.2
def RLa (la : List (List Int)) (ho : Int) (h : AH) : Prop := h.1 80 7 = ii la.length ∧ h.1 80 43 = ii ho ∧ ∀ i, i < la.length → h.1 83 i = ii (la.getD i []).length ∧ ∀ j, j < (la.getD i []).length → h.1 82 (240 * i + j) = sb ((la.getD i []).getD j 0)
abbrev WA : Type := List (List (Nat × Nat))
def RWa (wa : WA) (h : AH) : Prop := h.1 80 39 = ii wa.length ∧ ∀ i, i < wa.length → h.1 96 i = ii (wa.getD i []).length ∧ ∀ j, j < (wa.getD i []).length → h.1 95 (128 * i + 2 * j) = ii ((wa.getD i []).getD j (0, 0)).1 ∧ h.1 95 (128 * i + 2 * j + 1) = ii ((wa.getD i []).getD j (0, 0)).2
/-- a state: tape, heath, what changes, acts (the oldest first), image, heard, laws, the one that holds, walks -/
abbrev ST : Type := List Int × (Nat → Int) × DY × List DY × Option DY × HE × List (List Int) × Int × WA
abbrev sB (S : ST) : List Int := S.1
abbrev sH (S : ST) : Nat → Int := S.2.1
abbrev sD (S : ST) : DY := S.2.2.1
abbrev sA (S : ST) : List DY := S.2.2.2.1
abbrev sI (S : ST) : Option DY := S.2.2.2.2.1
abbrev sE (S : ST) : HE := S.2.2.2.2.2.1
abbrev sL (S : ST) : List (List Int) := S.2.2.2.2.2.2.1
abbrev sO (S : ST) : Int := S.2.2.2.2.2.2.2.1
abbrev sW (S : ST) : WA := S.2.2.2.2.2.2.2.2
/-- the letters of laws keep within bounds -/
def LR (h : AH) : Prop := ∀ j, j < 128 → ∃ z : Int, -1000000 ≤ z ∧ z ≤ 1000000 ∧ h.1 84 j = ii z
def RRep (S : ST) (h : AH) : Prop := TP 80 6 81 sb h (sB S) ∧ RH (sH S) h ∧ RDy (sD S) h 97 ∧ RAc (sA S) h ∧ RIm (sI S) h ∧ RHe (sE S) h ∧ RLa (sL S) (sO S) h ∧ RWa (sW S) h ∧ LR h
/-- what of the reference's cells tells the state -/
def RKeep (h h' : AH) : Prop :=
  (LR h → LR h') ∧ (∀ o, o ∈ [81, 82, 83, 85, 87, 89, 91, 93, 97, 99, 100, 101, 102, 104] → h'.1 o = h.1 o) ∧ (∀ j, j < 512 → h'.1 95 j = h.1 95 j) ∧ (∀ j, j < 4 → h'.1 96 j = h.1 96 j) ∧ ∀ j, j ∈ [6, 7, 30, 31, 32, 33, 34, 39, 43, 45, 52, 55] → h'.1 80 j = h.1 80 j
theorem RKeep.tr {h h' h'' : AH} (a : RKeep h h') (b : RKeep h' h'') : RKeep h h'' := ⟨fun l => b.1 (a.1 l), fun o ho => (b.2.1 o ho).trans (a.2.1 o ho), fun j hj => (b.2.2.1 j hj).trans (a.2.2.1 j hj), fun j hj => (b.2.2.2.1 j hj).trans (a.2.2.2.1 j hj), fun j hj => (b.2.2.2.2 j hj).trans (a.2.2.2.2 j hj)⟩
theorem RKeep.rf (h : AH) : RKeep h h := ⟨fun l => l, fun _ _ => rfl, fun _ _ => rfl, fun _ _ => rfl, fun _ _ => rfl⟩
/-- a scratch field of the reference -/
theorem RKeep.sf (h : AH) {j : Nat} {v : Int32} (hj : j ∉ [6, 7, 30, 31, 32, 33, 34, 39, 43, 45, 52, 55]) : RKeep h (wI h 80 j v) := by
  refine ⟨fun l j hj => ?_, fun o ho => ?_, fun i hi => ?_, fun i hi => ?_, fun i hi => ?_⟩
  · rw [wI_ne (by decide)]; exact l j hj
  · rw [wI_ne]; intro e; subst e; revert ho; decide
  · rw [wI_ne (by decide)]
  · rw [wI_ne (by decide)]
  · rw [wI_self, upd_ne]; intro e; subst e; exact hj hi
theorem RH.keep {hd : Nat → Int} {h h' : AH} (R : RH hd h) (K : RKeep h h') : RH hd h' := by
  obtain ⟨a1, a2, a3, a4, a5, a6, a7, a8, a9, a10⟩ := R
  refine ⟨fun j hj => ?_, ?_, ?_, ?_, ?_, ?_, fun j hj => ?_, fun j hj => ?_, fun j hj => ?_, fun j hj => ?_⟩
  · rw [K.2.1 85 (by decide)]; exact a1 j hj
  · rw [K.2.2.2.2 30 (by decide)]; exact a2
  · rw [K.2.2.2.2 31 (by decide)]; exact a3
  · rw [K.2.2.2.2 32 (by decide)]; exact a4
  · rw [K.2.2.2.2 33 (by decide)]; exact a5
  · rw [K.2.2.2.2 34 (by decide)]; exact a6
  · rw [K.2.1 87 (by decide)]; exact a7 j hj
  · rw [K.2.1 89 (by decide)]; exact a8 j hj
  · rw [K.2.1 91 (by decide)]; exact a9 j hj
  · rw [K.2.1 93 (by decide)]; exact a10 j hj
theorem RWa.keep {wa : WA} {h h' : AH} (R : RWa wa h) (hn : wa.length ≤ 4) (hl : ∀ i, i < wa.length → (wa.getD i []).length ≤ 64) (K : RKeep h h') : RWa wa h' := by
  refine ⟨by rw [K.2.2.2.2 39 (by decide)]; exact R.1, fun i hi => ⟨by rw [K.2.2.2.1 i (by omega)]; exact (R.2 i hi).1, fun j hj => ?_⟩⟩
  have := hl i hi
  rw [K.2.2.1 _ (by omega), K.2.2.1 _ (by omega)]
  exact (R.2 i hi).2 j hj
/-- what holds of a state by itself -/
def VS (S : ST) : Prop := okB (sB S) ∧ HS (sH S) ∧ DW (sH S) (sD S) ∧ ((sA S).length ≤ 40 ∧ ∀ x ∈ sA S, DW (sH S) x) ∧ (∀ x, sI S = some x → DW (sH S) x) ∧
  ((sE S).length ≤ 12 ∧ ∀ x ∈ sE S, (x.1 : Int) < (sH S) 7 ∧ (x.2.1 : Int) < cellsM (sH S)) ∧ ((sL S).length ≤ 4 ∧ ∀ x ∈ sL S, okB x) ∧ (-1 ≤ sO S ∧ sO S < (sL S).length) ∧ ((sW S).length ≤ 4 ∧ ∀ x ∈ sW S, x.length ≤ 64 ∧ ∀ q ∈ x, q.1 ≤ 9 ∧ q.2 ≤ 3)
theorem getD_mem {α : Type} {l : List α} {i : Nat} (a : α) (h : i < l.length) : l.getD i a ∈ l := by
  rw [List.getD_eq_getElem?_getD, List.getElem?_eq_getElem h]
  exact List.getElem_mem h
theorem RRep.keep {S : ST} {h h' : AH} (R : RRep S h) (V : VS S) (K : RKeep h h') : RRep S h' := by
  obtain ⟨a1, a2, a3, a4, a5, a6, a7, a8, a9⟩ := R
  refine ⟨⟨by rw [K.2.2.2.2 6 (by decide)]; exact a1.1, fun j hj => by rw [K.2.1 81 (by decide)]; exact a1.2 j hj⟩, a2.keep K, fun j hj => by rw [K.2.1 97 (by decide)]; exact a3 j hj, ⟨by rw [K.2.2.2.2 45 (by decide)]; exact a4.1, fun i hi j hj => by rw [K.2.1 99 (by decide)]; exact a4.2 i hi j hj⟩, ?_, ⟨by rw [K.2.2.2.2 52 (by decide)]; exact a6.1, fun i hi => by rw [K.2.1 100 (by decide), K.2.1 101 (by decide), K.2.1 102 (by decide)]; exact a6.2 i hi⟩, ⟨by rw [K.2.2.2.2 7 (by decide)]; exact a7.1, by rw [K.2.2.2.2 43 (by decide)]; exact a7.2.1, fun i hi => ⟨by rw [K.2.1 83 (by decide)]; exact (a7.2.2 i hi).1, fun j hj => by rw [K.2.1 82 (by decide)]; exact (a7.2.2 i hi).2 j hj⟩⟩, a8.keep V.2.2.2.2.2.2.2.2.1 (fun i hi => (V.2.2.2.2.2.2.2.2.2 _ (getD_mem [] hi)).1) K, K.1 a9⟩
  unfold RIm at a5 ⊢
  split at a5
  · rw [K.2.2.2.2 55 (by decide)]; exact a5
  · exact ⟨by rw [K.2.2.2.2 55 (by decide)]; exact a5.1, fun j hj => by rw [K.2.1 104 (by decide)]; exact a5.2 j hj⟩
/-- the reference leaves the class's cells -/
def KC (h h' : AH) : Prop := (∀ o, o < 80 → h'.1 o = h.1 o) ∧ ∀ o, o < 80 → h'.2.2 o = h.2.2 o
/-- the class leaves the reference's cells -/
def KR (h h' : AH) : Prop := (∀ o, 80 ≤ o → h'.1 o = h.1 o) ∧ (∀ o, 80 ≤ o → h'.2.2 o = h.2.2 o) ∧ h'.2.1 = h.2.1
theorem KC.rf (h : AH) : KC h h := ⟨fun _ _ => rfl, fun _ _ => rfl⟩
theorem KC.tr {h h' h'' : AH} (a : KC h h') (b : KC h' h'') : KC h h'' := ⟨fun o ho => (b.1 o ho).trans (a.1 o ho), fun o ho => (b.2 o ho).trans (a.2 o ho)⟩
theorem KC.wI {h : AH} {o j : Nat} {v : Int32} (ho : 80 ≤ o) : KC h (wI h o j v) := ⟨fun o' h' => wI_ne (by omega), fun _ _ => rfl⟩
theorem KC.ag {S : List Nat} {h h' : AH} (a : Ag S h h') (hs : ∀ o ∈ S, 80 ≤ o) : KC h h' := ⟨fun o ho => a.1 o (fun z => by have := hs o z; omega), fun o _ => by rw [a.2]⟩
theorem KR.rf (h : AH) : KR h h := ⟨fun _ _ => rfl, fun _ _ => rfl, rfl⟩
theorem KR.tr {h h' h'' : AH} (a : KR h h') (b : KR h' h'') : KR h h'' := ⟨fun o ho => (b.1 o ho).trans (a.1 o ho), fun o ho => (b.2.1 o ho).trans (a.2.1 o ho), b.2.2.trans a.2.2⟩
theorem KR.ag {S : List Nat} {h h' : AH} (a : Ag S h h') (hs : ∀ o ∈ S, o < 80) : KR h h' := ⟨fun o ho => a.1 o (fun z => by have := hs o z; omega), fun o _ => by rw [a.2], by rw [a.2]⟩
theorem RRep.kr {S : ST} {h h' : AH} (R : RRep S h) (V : VS S) (K : KR h h') : RRep S h' :=
  R.keep V ⟨fun l j hj => by rw [K.1 84 (by omega)]; exact l j hj, fun o ho => K.1 o (by simp only [List.mem_cons, List.not_mem_nil, or_false] at ho; omega), fun j _ => by rw [K.1 95 (by omega)], fun j _ => by rw [K.1 96 (by omega)], fun j _ => by rw [K.1 80 (by omega)]⟩
