/-! the reference reads and reckons: clauses, the whole -/
theorem tp_app_nil (x : Int32) : tpS [x] = x := rfl
section GW
variable {bs : List Int} {T b0 : Nat} {L : Nat → Int32}
theorem wr_run {C : List Int} (h : ∀ x ∈ C, -16 ≤ x ∧ x ≤ 9999) (R : List Int) : ∀ s, wrthF L (C ++ R) false s = wrthF L R false (rnM L C s) := by
  induction C with
  | nil => intro s; rfl
  | cons x C ih =>
    intro s
    have hx := h x (List.mem_cons_self ..)
    rw [List.cons_append, wr_c, if_neg (by omega), if_neg (by omega), if_neg (by decide), ih (fun y hy => h y (List.mem_cons_of_mem _ hy))]
    rfl
theorem wr_skp {C : List Int} (h : ∀ x ∈ C, -16 ≤ x ∧ x ≤ 9999) (R : List Int) : ∀ s, wrthF L (C ++ R) true s = wrthF L R true s := by
  induction C with
  | nil => intro s; rfl
  | cons x C ih =>
    intro s
    have hx := h x (List.mem_cons_self ..)
    rw [List.cons_append, wr_c, if_neg (by omega), if_neg (by omega), if_pos rfl, ih (fun y hy => h y (List.mem_cons_of_mem _ hy))]
/-- what a clause's code comes to -/
def ClS (L : Nat → Int32) (D : List Int) (res : Option Int32) : Prop := ∀ R, wrthF L (D ++ -18 :: R) false [] = match res with
  | some v => v
  | none => wrthF L R false []
theorem cls_p {D : List Int} {K : Nat} {v : Int} (hS : Sem L K D v) (hK : K ≤ 64) : ClS L D (some (ii v)) := by
  intro R
  rw [wr_run hS.2.2, hS.1 [] (by simpa using hK), wr_c, if_pos rfl, if_neg (by decide)]
  rfl
theorem cls_c {C1 C2 : List Int} {K1 K2 : Nat} {b : Bool} {v : Int} (h1 : Sem L K1 C1 (if b then 1 else 0)) (h2 : Sem L K2 C2 v) (k1 : K1 ≤ 64) (k2 : K2 ≤ 64) : ClS L (C1 ++ [-17] ++ C2) (if b then some (ii v) else none) := by
  intro R
  rw [List.append_assoc, List.append_assoc, wr_run h1.2.2, h1.1 [] (by simpa using k1), List.cons_append, wr_c, if_neg (by decide), if_pos rfl, List.nil_append, List.nil_append, tp_app_nil]
  cases b with
  | true =>
    rw [if_pos rfl, if_pos rfl]
    have : decide (ii 1 = ii 0) = false := by decide
    rw [this, wr_run h2.2.2]
    show wrthF L (-18 :: R) false (rnM L C2 []) = _
    rw [h2.1 [] (by simpa using k2), wr_c, if_pos rfl, if_neg (by decide)]
    rfl
  | false =>
    rw [if_neg (by decide), if_neg (by decide)]
    have : decide (ii 0 = ii 0) = true := by decide
    rw [this, wr_skp h2.2.2, wr_c, if_pos rfl, if_pos rfl]
    rfl
def setF (g : AH) (v : Int32) : AH := wI (wI g 80 17 (ii 1)) 80 14 v
/-- with what was found, or not -/
def gF (g : AH) (fo : Option Int32) : AH := match fo with
  | none => g
  | some v => setF g v
variable {gs : AH}
theorem GH_fnd {p : Nat} {ft dp : Int} {v : Int32} : wI (wI (GH gs p ft dp) 80 17 (ii 1)) 80 14 v = GH (setF gs v) p ft dp := by
  apply heap_ext
  · intro x
    by_cases e : x = 80
    · subst e
      funext j
      rw [wI_self, wI_self, GH_80]
      unfold setF
      rw [wI_self, wI_self]
      unfold upd
      rw [GH_80]
      by_cases e1 : j = 14
      · subst e1; rfl
      · by_cases e2 : j = 17
        · subst e2; rfl
        · simp only [e1, e2, if_false]
    · rw [wI_ne e, wI_ne e, GH_n e, GH_n e]
      unfold setF
      rw [wI_ne e, wI_ne e]
  · rfl
theorem GX_f (X : GX bs T b0 gs) (fo : Option Int32) : GX bs T b0 (gF gs fo) := by
  cases fo with
  | none => exact X
  | some v =>
    obtain ⟨x1, x2, x3, x4, x5, x6, x7, x8, x9⟩ := X
    refine ⟨x1, ?_, ?_, x4, x5, fun j hj => ?_, x7, x8, x9⟩
    · show (setF gs v).1 80 8 = _
      unfold setF; rw [wI_self, upd_ne (by decide), wI_self, upd_ne (by decide)]; exact x2
    · show (setF gs v).1 80 9 = _
      unfold setF; rw [wI_self, upd_ne (by decide), wI_self, upd_ne (by decide)]; exact x3
    · show (setF gs v).1 T _ = _
      unfold setF; rw [wI_ne x5, wI_ne x5]; exact x6 j hj
theorem LTR_f (hL : LTR gs L) (fo : Option Int32) : LTR (gF gs fo) L := by
  cases fo with
  | none => exact hL
  | some v =>
    have e : (gF gs (some v)).1 84 = gs.1 84 := by
      show (setF gs v).1 84 = _
      unfold setF; rw [wI_ne (by decide), wI_ne (by decide)]
    unfold LTR
    rw [e]; exact hL
/-- fresh: nothing found, label y -/
def GN (gs : AH) : Prop := gs.1 80 13 = ii 121 ∧ gs.1 80 17 = ii 0
theorem G_end (hN : GN gs) (fo res : Option Int32) {q : Nat} {own v : Int32} (ho : own = ii 121) {b : Bool} (hres : res = if b then some v else none) : (if (GH (gF gs fo) q (-1) 0).1 80 17 = ii 0 then (if own = (GH (gF gs fo) q (-1) 0).1 80 13 then (if bI b = ii 0 then some (GH (gF gs fo) q (-1) 0) else some (wI (wI (GH (gF gs fo) q (-1) 0) 80 17 (ii 1)) 80 14 v)) else some (GH (gF gs fo) q (-1) 0)) else some (GH (gF gs fo) q (-1) 0)) = some (GH (gF gs (fo.or res)) q (-1) 0) := by
  cases fo with
  | none =>
    have e17 : (GH (gF gs none) q (-1) 0).1 80 17 = ii 0 := hN.2
    have e13 : (GH (gF gs none) q (-1) 0).1 80 13 = ii 121 := hN.1
    rw [e17, e13, if_pos rfl, if_pos ho]
    cases b with
    | true =>
      rw [if_neg (by decide), hres, GH_fnd]; rfl
    | false =>
      rw [if_pos (by decide), hres]; rfl
  | some w =>
    have e17 : (GH (gF gs (some w)) q (-1) 0).1 80 17 = ii 1 := by
      show (setF gs w).1 80 17 = ii 1
      unfold setF; rw [wI_self, upd_ne (by decide), wI_self, upd_self]
    rw [e17, if_neg j10]
    rfl
end GW
