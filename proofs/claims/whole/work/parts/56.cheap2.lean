/-! the cheapest wells: both searches -/
theorem fo_s {f : Nat → BST → BST} {s k : Nat} (h : s ≤ k) (st : BST) : fo f s (k + 1 - s) st = f k (fo f s (k - s) st) := by
  rw [show k + 1 - s = (k - s) + 1 by omega, fo, show s + (k - s) = k by omega]
theorem fo_0 {f : Nat → BST → BST} {s : Nat} (st : BST) : fo f s (s - s) st = st := by rw [Nat.sub_self]; rfl
noncomputable def cnD (hd : Nat → Int) (d : DY) (n : Int) (st : BST) (S : Int32) (p k : Int) : BST := cns st S p k (yM hd d S (cellsM hd).toNat) n
noncomputable def l3M (hd : Nat → Int) (d : DY) (n : Int) (S : Int32) (p : Int) (b : Nat) (st : BST) : BST := fo (fun c st => if opB hd d c = true then cnD hd d n st (S ||| bitI c) (p + prM hd c) 3 else st) (b + 1) ((cellsM hd).toNat - (b + 1)) st
noncomputable def l2M (hd : Nat → Int) (d : DY) (n : Int) (S : Int32) (p : Int) (a : Nat) (st : BST) : BST := fo (fun b st => if opB hd d b = true then l3M hd d n (S ||| bitI b) (p + prM hd b) b (cnD hd d n st (S ||| bitI b) (p + prM hd b) 2) else st) (a + 1) ((cellsM hd).toNat - (a + 1)) st
noncomputable def l1M (hd : Nat → Int) (d : DY) (n : Int) (st : BST) : BST := fo (fun a st => if opB hd d a = true then l2M hd d n (bitI a) (prM hd a) a (cnD hd d n st (bitI a) (prM hd a) 1) else st) 0 ((cellsM hd).toNat - 0) st
section P2
variable {hd : Nat → Int} {d : DY} {o wr : Nat} {h g : AH}
theorem op_h {x : AH} {n : Int} (P : PP hd d n x) (W : HW hd) {c : Nat} (hc : (c : Int) < cellsM hd) : p_HF_holds (x.1 39 5) (ii c) = if opB hd d c = true then ii 1 else ii 0 := by
  have hcl := W.cells
  rw [P.2.2.1, C_holds _ (by omega), tb_mk _ (by omega)]
  have : decide (c < (cellsM hd).toNat) = true := by simp; omega
  rw [this, Bool.true_and]
theorem b30 {a : Nat} (ha : a < 30) {i : Nat} (hi : 30 ≤ i) : tb (bitI a) i = false := by rw [tb_bit (by omega)]; simp; omega
theorem C_l3 {n p : Int} {a b : Nat} {st : BST} {x : AH} {v1 v2 : Int32} (W : HW hd) (n0 : 1 ≤ n) (n1 : n ≤ 40) (p0 : 0 ≤ p) (p1 : p ≤ 3000) (hab : a < b) (hb : (b : Int) < cellsM hd) (G : CG hd d n st h x) : ∃ x', Plan_searchBeyond_L70 FU v1 v2 (bitI a ||| bitI b) (ii p) (ii (b + 1 : Nat)) x = some x' ∧ CG hd d n (l3M hd d n (bitI a ||| bitI b) p b st) h x' := by
  have hcl := W.cells
  refine lup (fun m k (y : AH) => Plan_searchBeyond_L70 m v1 v2 (bitI a ||| bitI b) (ii p) (ii k) y) (cellsM hd).toNat (fun k y => b + 1 ≤ k ∧ CG hd d n (fo (fun c st => if opB hd d c = true then cnD hd d n st ((bitI a ||| bitI b) ||| bitI c) (p + prM hd c) 3 else st) (b + 1) (k - (b + 1)) st) h y) (fun y => ∃ x', y = some x' ∧ CG hd d n (l3M hd d n (bitI a ||| bitI b) p b st) h x') ?_ ?_ ((cellsM hd).toNat - (b + 1)) (b + 1) FU x (by omega) (by unfold FU; omega) ⟨Nat.le_refl _, by rw [fo_0]; exact G⟩
  · rintro m y ⟨r1, r2⟩
    simp (disch := omega) only [Option.bind_some, if_true, if_false, not_true_eq_false, not_false_eq_true, z0, ii_add, ii_sub, ii_mul, ifLeT, ifLeF, ifLtT, ifLtF, ifEqT, ifEqF, ifNeT, ifNeF, ifIn, nixZ, ii_i64, o0, o1, isInT, isInF, tn14, tn12, tn2, tn21, tn47, tn48, tn49, tn471, tn472, Int.reduceToNat, Int.toNat_natCast, Int.reduceAdd, Int.reduceSub, Int.reduceMul, Int.reduceNeg, Nat.reduceAdd, Nat.reduceSub, Nat.reduceMul, Plan_searchBeyond_L70, Plan_searchBeyond_L70_b, r2.2.1.1]
    exact ⟨_, rfl, r2⟩
  · rintro m k y hk ⟨r1, r2⟩
    right
    have eh := op_h r2.2.1 W (c := k) (by omega)
    by_cases t : opB hd d k = true
    · rw [if_pos t] at eh
      have hp := prM_lo W t
      have e41 := (r2.2.1.2.2.2.2 k (by omega)).2.1 (op_wet t)
      obtain ⟨y', ey, Gy⟩ := C_cons W n0 n1 r2 (s := (bitI a ||| bitI b) ||| bitI k) (p := p + prM hd k) (k := 3) (by omega) (by omega) (by omega) (by omega) (pc_3 k (by omega) b (by omega) a hab) (fun i hi => by rw [tb_or, tb_or, b30 (by omega) hi, b30 (by omega) hi, b30 (by omega) hi]; rfl)
      have ey' : f_Plan_consider ((bitI a ||| bitI b) ||| p_HF_bit (ii k)) (ii (p + prM hd k)) (ii 3) y = some y' := ey
      simp (disch := omega) only [Option.bind_some, if_true, if_false, not_true_eq_false, not_false_eq_true, z0, ii_add, ii_sub, ii_mul, ifLeT, ifLeF, ifLtT, ifLtF, ifEqT, ifEqF, ifNeT, ifNeF, ifIn, nixZ, ii_i64, o0, o1, isInT, isInF, tn14, tn12, tn2, tn21, tn47, tn48, tn49, tn471, tn472, Int.reduceToNat, Int.toNat_natCast, Int.reduceAdd, Int.reduceSub, Int.reduceMul, Int.reduceNeg, Nat.reduceAdd, Nat.reduceSub, Nat.reduceMul, Plan_searchBeyond_L70, Plan_searchBeyond_L70_b, r2.2.1.1, eh, e41, ey']
      refine ⟨_, rfl, by omega, ?_⟩
      rw [fo_s r1, if_pos t]
      exact Gy
    · rw [if_neg t] at eh
      simp (disch := omega) only [Option.bind_some, if_true, if_false, not_true_eq_false, not_false_eq_true, z0, ii_add, ii_sub, ii_mul, ifLeT, ifLeF, ifLtT, ifLtF, ifEqT, ifEqF, ifNeT, ifNeF, ifIn, nixZ, ii_i64, o0, o1, isInT, isInF, tn14, tn12, tn2, tn21, tn47, tn48, tn49, tn471, tn472, Int.reduceToNat, Int.toNat_natCast, Int.reduceAdd, Int.reduceSub, Int.reduceMul, Int.reduceNeg, Nat.reduceAdd, Nat.reduceSub, Nat.reduceMul, Plan_searchBeyond_L70, Plan_searchBeyond_L70_b, r2.2.1.1, eh]
      refine ⟨_, rfl, by omega, ?_⟩
      rw [fo_s r1, if_neg t]
      exact r2
theorem C_l2 {n : Int} {a : Nat} {st : BST} {x : AH} (W : HW hd) (n0 : 1 ≤ n) (n1 : n ≤ 40) (ha : (a : Int) < cellsM hd) (ta : opB hd d a = true) (G : CG hd d n st h x) : ∃ x', f_Plan_searchBeyond (ii a) x = some x' ∧ CG hd d n (l2M hd d n (bitI a) (prM hd a) a st) h x' := by
  have hcl := W.cells
  have hpa := prM_lo W ta
  unfold f_Plan_searchBeyond
  rw [ii_add]
  refine lup (fun m k (y : AH) => Plan_searchBeyond_L4 m (ii a) (ii k) y) (cellsM hd).toNat (fun k y => a + 1 ≤ k ∧ CG hd d n (fo (fun b st => if opB hd d b = true then l3M hd d n (bitI a ||| bitI b) (prM hd a + prM hd b) b (cnD hd d n st (bitI a ||| bitI b) (prM hd a + prM hd b) 2) else st) (a + 1) (k - (a + 1)) st) h y) (fun y => ∃ x', y = some x' ∧ CG hd d n (l2M hd d n (bitI a) (prM hd a) a st) h x') ?_ ?_ ((cellsM hd).toNat - (a + 1)) (a + 1) FU x (by omega) (by unfold FU; omega) ⟨Nat.le_refl _, by rw [fo_0]; exact G⟩
  · rintro m y ⟨r1, r2⟩
    simp (disch := omega) only [Option.bind_some, if_true, if_false, not_true_eq_false, not_false_eq_true, z0, ii_add, ii_sub, ii_mul, ifLeT, ifLeF, ifLtT, ifLtF, ifEqT, ifEqF, ifNeT, ifNeF, ifIn, nixZ, ii_i64, o0, o1, isInT, isInF, tn14, tn12, tn2, tn21, tn47, tn48, tn49, tn471, tn472, Int.reduceToNat, Int.toNat_natCast, Int.reduceAdd, Int.reduceSub, Int.reduceMul, Int.reduceNeg, Nat.reduceAdd, Nat.reduceSub, Nat.reduceMul, Plan_searchBeyond_L4, Plan_searchBeyond_L4_b, r2.2.1.1]
    exact ⟨_, rfl, r2⟩
  · rintro m k y hk ⟨r1, r2⟩
    right
    have eh := op_h r2.2.1 W (c := k) (by omega)
    by_cases t : opB hd d k = true
    · rw [if_pos t] at eh
      have hp := prM_lo W t
      have e41 := (r2.2.1.2.2.2.2 k (by omega)).2.1 (op_wet t)
      have e41a := (r2.2.1.2.2.2.2 a ha).2.1 (op_wet ta)
      obtain ⟨y', ey, Gy⟩ := C_cons W n0 n1 r2 (s := bitI a ||| bitI k) (p := prM hd a + prM hd k) (k := 2) (by omega) (by omega) (by omega) (by omega) (pc_2 k (by omega) a (by omega)) (fun i hi => by rw [tb_or, b30 (by omega) hi, b30 (by omega) hi]; rfl)
      obtain ⟨y'', ey2, Gy2⟩ := C_l3 (a := a) (b := k) (p := prM hd a + prM hd k) (v1 := ii a) (v2 := ii k) W n0 n1 (by omega) (by omega) (by omega) (by omega) Gy
      have ey' : f_Plan_consider (p_HF_bit (ii a) ||| p_HF_bit (ii k)) (ii (prM hd a + prM hd k)) (ii 2) y = some y' := ey
      have ey2' : Plan_searchBeyond_L70 FU (ii a) (ii k) (p_HF_bit (ii a) ||| p_HF_bit (ii k)) (ii (prM hd a + prM hd k)) (ii ((k : Int) + 1)) y' = some y'' := ey2
      simp (disch := omega) only [Option.bind_some, if_true, if_false, not_true_eq_false, not_false_eq_true, z0, ii_add, ii_sub, ii_mul, ifLeT, ifLeF, ifLtT, ifLtF, ifEqT, ifEqF, ifNeT, ifNeF, ifIn, nixZ, ii_i64, o0, o1, isInT, isInF, tn14, tn12, tn2, tn21, tn47, tn48, tn49, tn471, tn472, Int.reduceToNat, Int.toNat_natCast, Int.reduceAdd, Int.reduceSub, Int.reduceMul, Int.reduceNeg, Nat.reduceAdd, Nat.reduceSub, Nat.reduceMul, Plan_searchBeyond_L4, Plan_searchBeyond_L4_b, r2.2.1.1, eh, e41, e41a, ey', ey2']
      refine ⟨_, rfl, by omega, ?_⟩
      rw [fo_s r1, if_pos t]
      exact Gy2
    · rw [if_neg t] at eh
      simp (disch := omega) only [Option.bind_some, if_true, if_false, not_true_eq_false, not_false_eq_true, z0, ii_add, ii_sub, ii_mul, ifLeT, ifLeF, ifLtT, ifLtF, ifEqT, ifEqF, ifNeT, ifNeF, ifIn, nixZ, ii_i64, o0, o1, isInT, isInF, tn14, tn12, tn2, tn21, tn47, tn48, tn49, tn471, tn472, Int.reduceToNat, Int.toNat_natCast, Int.reduceAdd, Int.reduceSub, Int.reduceMul, Int.reduceNeg, Nat.reduceAdd, Nat.reduceSub, Nat.reduceMul, Plan_searchBeyond_L4, Plan_searchBeyond_L4_b, r2.2.1.1, eh]
      refine ⟨_, rfl, by omega, ?_⟩
      rw [fo_s r1, if_neg t]
      exact r2
theorem C_l1 {n : Int} {x : AH} (W : HW hd) (n0 : 1 ≤ n) (n1 : n ≤ 40) (G : CG hd d n none h x) : ∃ x', f_Plan_search x = some x' ∧ CG hd d n (l1M hd d n (cnD hd d n none (ii 0) 0 0)) h x' := by
  have hcl := W.cells
  unfold f_Plan_search
  obtain ⟨y, ey, Gy⟩ := C_cons W n0 n1 G (s := ii 0) (p := 0) (k := 0) (by omega) (by omega) (by omega) (by omega) pc_0 (fun i _ => tb_0 i)
  rw [bind_eq ey]
  refine lup (fun m k (y : AH) => Plan_search_L9 m (ii k) y) (cellsM hd).toNat (fun k y => CG hd d n (fo (fun a st => if opB hd d a = true then l2M hd d n (bitI a) (prM hd a) a (cnD hd d n st (bitI a) (prM hd a) 1) else st) 0 (k - 0) (cnD hd d n none (ii 0) 0 0)) h y) (fun y => ∃ x', y = some x' ∧ CG hd d n (l1M hd d n (cnD hd d n none (ii 0) 0 0)) h x') ?_ ?_ (cellsM hd).toNat 0 FU y (by omega) (by unfold FU; omega) Gy
  · rintro m y r2
    simp (disch := omega) only [Option.bind_some, if_true, if_false, not_true_eq_false, not_false_eq_true, z0, ii_add, ii_sub, ii_mul, ifLeT, ifLeF, ifLtT, ifLtF, ifEqT, ifEqF, ifNeT, ifNeF, ifIn, nixZ, ii_i64, o0, o1, isInT, isInF, tn14, tn12, tn2, tn21, tn47, tn48, tn49, tn471, tn472, Int.reduceToNat, Int.toNat_natCast, Int.reduceAdd, Int.reduceSub, Int.reduceMul, Int.reduceNeg, Nat.reduceAdd, Nat.reduceSub, Nat.reduceMul, Plan_search_L9, Plan_search_L9_b, r2.2.1.1]
    exact ⟨_, rfl, r2⟩
  · rintro m k y hk r2
    right
    have eh := op_h r2.2.1 W (c := k) (by omega)
    by_cases t : opB hd d k = true
    · rw [if_pos t] at eh
      have hp := prM_lo W t
      have e41 := (r2.2.1.2.2.2.2 k (by omega)).2.1 (op_wet t)
      obtain ⟨y', ey, Gy⟩ := C_cons W n0 n1 r2 (s := bitI k) (p := prM hd k) (k := 1) (by omega) (by omega) (by omega) (by omega) (pc_1 k (by omega)) (fun i hi => by rw [b30 (by omega) hi])
      obtain ⟨y'', ey2, Gy2⟩ := C_l2 (a := k) W n0 n1 (by omega) t Gy
      have ey' : f_Plan_consider (p_HF_bit (ii k)) (ii (prM hd k)) (ii 1) y = some y' := ey
      simp (disch := omega) only [Option.bind_some, if_true, if_false, not_true_eq_false, not_false_eq_true, z0, ii_add, ii_sub, ii_mul, ifLeT, ifLeF, ifLtT, ifLtF, ifEqT, ifEqF, ifNeT, ifNeF, ifIn, nixZ, ii_i64, o0, o1, isInT, isInF, tn14, tn12, tn2, tn21, tn47, tn48, tn49, tn471, tn472, Int.reduceToNat, Int.toNat_natCast, Int.reduceAdd, Int.reduceSub, Int.reduceMul, Int.reduceNeg, Nat.reduceAdd, Nat.reduceSub, Nat.reduceMul, Plan_search_L9, Plan_search_L9_b, r2.2.1.1, eh, e41, ey', ey2]
      refine ⟨_, rfl, ?_⟩
      rw [fo_s (Nat.zero_le k), if_pos t]
      exact Gy2
    · rw [if_neg t] at eh
      simp (disch := omega) only [Option.bind_some, if_true, if_false, not_true_eq_false, not_false_eq_true, z0, ii_add, ii_sub, ii_mul, ifLeT, ifLeF, ifLtT, ifLtF, ifEqT, ifEqF, ifNeT, ifNeF, ifIn, nixZ, ii_i64, o0, o1, isInT, isInF, tn14, tn12, tn2, tn21, tn47, tn48, tn49, tn471, tn472, Int.reduceToNat, Int.toNat_natCast, Int.reduceAdd, Int.reduceSub, Int.reduceMul, Int.reduceNeg, Nat.reduceAdd, Nat.reduceSub, Nat.reduceMul, Plan_search_L9, Plan_search_L9_b, r2.2.1.1, eh]
      refine ⟨_, rfl, ?_⟩
      rw [fo_s (Nat.zero_le k), if_neg t]
      exact r2
/-! the reference -/
def YS (g y : AH) : Prop := (∀ o, o ≠ 98 → o ≠ 80 → y.1 o = g.1 o) ∧ (∀ j, j ≠ 47 → j ≠ 48 → y.1 80 j = g.1 80 j) ∧ y.2 = g.2
theorem YS.rh {y : AH} (R : RH hd g) (Y : YS g y) : RH hd y := by
  obtain ⟨a1, a2, a3, a4, a5, a6, a7, a8, a9, a10⟩ := R
  refine ⟨fun j hj => ?_, ?_, ?_, ?_, ?_, ?_, fun j hj => ?_, fun j hj => ?_, fun j hj => ?_, fun j hj => ?_⟩
  · rw [Y.1 85 (by decide) (by decide)]; exact a1 j hj
  · rw [Y.2.1 30 (by decide) (by decide)]; exact a2
  · rw [Y.2.1 31 (by decide) (by decide)]; exact a3
  · rw [Y.2.1 32 (by decide) (by decide)]; exact a4
  · rw [Y.2.1 33 (by decide) (by decide)]; exact a5
  · rw [Y.2.1 34 (by decide) (by decide)]; exact a6
  · rw [Y.1 87 (by decide) (by decide)]; exact a7 j hj
  · rw [Y.1 89 (by decide) (by decide)]; exact a8 j hj
  · rw [Y.1 91 (by decide) (by decide)]; exact a9 j hj
  · rw [Y.1 93 (by decide) (by decide)]; exact a10 j hj
theorem YS.t98 {y : AH} (Y : YS g y) {j : Nat} {v : Int32} : YS g (wI y 98 j v) := ⟨fun o h1 h2 => by rw [wI_ne h1]; exact Y.1 o h1 h2, fun j h1 h2 => by rw [wI_ne (by decide)]; exact Y.2.1 j h1 h2, Y.2.2⟩
theorem YS.f2 {y : AH} (Y : YS g y) {v w : Int32} : YS g (wI (wI y 80 47 v) 80 48 w) := ⟨fun o h1 h2 => by rw [wI_ne h2, wI_ne h2]; exact Y.1 o h1 h2, fun j h1 h2 => by rw [wI_self, upd_ne h2, wI_self, upd_ne h1]; exact Y.2.1 j h1 h2, Y.2.2⟩
def Rst (st : BST) (y : AH) : Prop := match st with
  | none => y.1 80 47 = ii (-1)
  | some (bs, bp, _) => y.1 80 47 = bs ∧ y.1 80 48 = ii bp
def RG (g : AH) (st : BST) (dS : DY) (y : AH) : Prop := YS g y ∧ RDy dS y 98 ∧ Rst st y ∧ okS2 st
def TD (hd : Nat → Int) (d : DY) (S : Int32) (dS : DY) : Prop := (∀ c, c < 30 → dS (14 + c) = if tb S c = true then ii (watM hd c 2) else d (14 + c)) ∧ (∀ c, tb S c = true → (c : Int) < cellsM hd ∧ opB hd d c = true) ∧ DW hd dS
theorem wat_pos (W : HW hd) {c : Int} (h : watM hd c 2 ≠ -1) : 1 ≤ watM hd c 2 := by
  have hw := W.1
  have hl := depM_lo W c
  unfold watM cap99 addM at *
  by_cases q : depM hd c = -1
  · rw [if_pos q] at h; exact absurd rfl h
  · rw [if_neg q] at h ⊢
    simp only [show ¬ (2 : Int) = 0 by omega, if_false, if_true] at h ⊢
    split <;> omega
theorem TD.stp (W : HW hd) {S : Int32} {dS : DY} (T : TD hd d S dS) {c : Nat} (hc : (c : Int) < cellsM hd) (t : opB hd d c = true) (hs : tb S c = false) : TD hd d (S ||| bitI c) (upd dS (14 + c) (ii (watM hd c 2))) := by
  have hcl := W.cells
  have hop := t
  unfold opB at hop
  rw [decide_eq_true_eq] at hop
  have hp := wat_pos W hop.2.1
  refine ⟨fun k hk => ?_, fun k hk => ?_, T.2.2.set (by omega) hc (by omega) hop.2.2 (Or.inr W)⟩
  · by_cases e : k = c
    · subst e
      rw [upd_self, if_pos (by rw [tb_or, tb_bit (by omega)]; simp)]
    · rw [upd_ne (by omega), T.1 k hk]
      have : tb (S ||| bitI c) k = tb S k := by rw [tb_or, tb_bit (by omega)]; simp [e]
      rw [this]
  · rw [tb_or, Bool.or_eq_true, tb_bit (by omega), decide_eq_true_eq] at hk
    rcases hk with hk | hk
    · exact T.2.1 k hk
    · subst hk; exact ⟨hc, t⟩
theorem TD.wl (W : HW hd) (V : DW hd d) {S : Int32} {dS : DY} (T : TD hd d S dS) : wlM dS = wlM d ||| S := by
  have hcl := W.cells
  apply tb_ext
  intro i hi
  rw [tb_or]
  by_cases q : i < 30
  · rw [wl_tb T.2.2 q, wl_tb V q, T.1 i q]
    by_cases t : tb S i = true
    · have hop := (T.2.1 i t).2
      unfold opB at hop
      rw [decide_eq_true_eq] at hop
      have hp := wat_pos W hop.2.1
      rw [if_pos t, t, ii_vI rfl (by omega) (by omega)]
      simp; omega
    · rw [if_neg t]
      simp only [Bool.not_eq_true] at t
      rw [t, Bool.or_false]
  · have hS : tb S i = false := by
      cases ht : tb S i
      · rfl
      · have := (T.2.1 i ht).1; omega
    rw [wl_tb2 T.2.2 (Or.inr W) (by omega), wl_tb2 V (Or.inr W) (by omega), hS]; rfl
theorem TD.yield (W : HW hd) (V : DW hd d) {S : Int32} {dS : DY} (T : TD hd d S dS) : ∀ n : Nat, n ≤ 30 → alM hd (wlM dS) 2 dS n = yM hd d S n
  | 0, _ => rfl
  | n + 1, hn => by
    have ih := TD.yield W V T n (by omega)
    have hw := T.wl W V
    have ha := adjM_lo (hd := hd) (wlM d ||| S) n
    have hwl := wl_tb T.2.2 (n := n) (by omega)
    rw [hw] at hwl
    have e1 : alM hd (wlM dS) 2 dS (n + 1) = alM hd (wlM dS) 2 dS n + (if vI (dS (14 + n)) = 0 then 0 else brM hd (vI (dS (14 + n))) (wlM dS) n 2) := rfl
    have e2 : yM hd d S (n + 1) = yM hd d S n + (if tb (wlM d ||| S) n = true then max0M (ylM hd d n - adjM hd (wlM d ||| S) n) else 0) := rfl
    rw [e1, e2, ih, hw]
    congr 1
    by_cases z : vI (dS (14 + n)) = 0
    · have : tb (wlM d ||| S) n = false := by rw [hwl]; simp [z]
      rw [if_pos z, if_neg (by rw [this]; decide)]
    · have ht : tb (wlM d ||| S) n = true := by rw [hwl]; simp [z]
      rw [if_neg z, if_pos ht]
      unfold brM max0M
      by_cases t : tb S n = true
      · have hop := (T.2.1 n t).2
        have hop2 := hop
        unfold opB at hop2
        rw [decide_eq_true_eq] at hop2
        have hp := wat_pos W hop2.2.1
        have ez : vI (dS (14 + n)) = watM hd n 2 := by rw [T.1 n (by omega), if_pos t, ii_vI rfl (by omega) (by omega)]
        rw [ez, if_neg (by omega), ylM_T (op_wet hop)]
      · have ed : dS (14 + n) = d (14 + n) := by rw [T.1 n (by omega), if_neg t]
        rw [ed] at z ⊢
        by_cases w : wetP hd d n
        · have w2 := w
          unfold wetP at w2
          rw [if_neg z] at w2
          rw [if_neg (by omega), ylM_T w]
        · rw [ylM_F w]
          unfold wetP at w
          rw [if_neg z] at w
          rw [if_pos (by omega)]
          split <;> omega
theorem R_go1 {rc : Nat → Int32 → Int32 → Int32 → Int32 → AH → Option AH} (R : RH hd g) (W : HW hd) (V : DW hd d) {st : BST} {S : Int32} {dS : DY} {y : AH} {n p k : Int} {fr : Int32} (G : RG g st dS y) (T : TD hd d S dS) (n0 : 1 ≤ n) (n1 : n ≤ 40) (p0 : 0 ≤ p) (p1 : p ≤ 100000) (k0 : 0 ≤ k) (k1 : k ≤ 3) (hpc : p_Int_bitCount S = ii k) (hs : ∀ i, 30 ≤ i → tb S i = false) : ∃ y', RG g (cnD hd d n st S p k) dS y' ∧ u_R_goCheapest rc (ii n) fr S (ii p) y = if k = 3 then some y' else R_goCheapest_L112 rc FU (ii n) S (ii p) fr y' := by
  obtain ⟨g1, g2, g3, g4'⟩ := G
  have hcl := W.cells
  have Ry := YS.rh R g1
  have hba := R_bringsAll Ry g2 T.2.2 W (s := 2) (by omega) (by omega)
  rw [T.yield W V (cellsM hd).toNat (by omega)] at hba
  have hy := yM_lo W (d := d) S (cellsM hd).toNat
  have fin : ∀ y', (if ii k = ii 3 then some y' else R_goCheapest_L112 rc FU (ii n) S (ii p) fr y') = if k = 3 then some y' else R_goCheapest_L112 rc FU (ii n) S (ii p) fr y' := by
    intro y'
    by_cases q : k = 3
    · rw [if_pos q, if_pos (by rw [q])]
    · rw [if_neg q, if_neg (by rw [ii_eq (by omega) (by omega) (by omega) (by omega)]; exact q)]
  unfold u_R_goCheapest cnD
  rw [bind_eq hba, hpc]
  by_cases q : n ≤ yM hd d S (cellsM hd).toNat
  · rw [if_neg (by rw [ii_lt (by omega) (by omega) (by omega) (by omega)]; omega)]
    have take : RG g (some (S, p, k)) dS (wI (wI y 80 47 S) 80 48 (ii p)) := ⟨g1.f2, fun j hj => by rw [wI_ne (by decide), wI_ne (by decide)]; exact g2 j hj, ⟨by rw [wI_self, upd_ne (by decide), wI_self, upd_self], by rw [wI_self, upd_self]⟩, ⟨p0, p1⟩, ⟨k0, k1⟩, hpc, hs⟩
    cases st with
    | none =>
      have e47 : y.1 80 47 = ii (-1) := g3
      refine ⟨_, by rw [cns_T (st := none) (s := S) (p := p) (k := k) (show bet none S p k from trivial) q]; exact take, ?_⟩
      rw [e47, if_pos rfl, if_neg (by decide), Option.bind_some]
      exact fin _
    | some v =>
      obtain ⟨bs, bp, bk⟩ := v
      obtain ⟨e47, e48⟩ := g3
      obtain ⟨o1', o2, o3, o4⟩ := g4'
      have hm1 : ¬ bs = ii (-1) := by
        intro z
        have := o4 31 (by omega)
        rw [z] at this
        exact absurd this (by decide)
      rw [e47, e48, o3]
      by_cases b : bet (some (bs, bp, bk)) S p k
      · refine ⟨_, by rw [cns_T b q]; exact take, ?_⟩
        rcases b with b | ⟨b1, b2 | ⟨b2, b3⟩⟩
        · simp (disch := omega) only [Option.bind_some, if_true, if_false, not_true_eq_false, not_false_eq_true, z0, ii_add, ii_sub, ii_mul, ifLeT, ifLeF, ifLtT, ifLtF, ifEqT, ifEqF, ifNeT, ifNeF, ifIn, nixZ, ii_i64, o0, o1, isInT, isInF, tn14, tn12, tn2, tn21, tn47, tn48, tn49, tn471, tn472, Int.reduceToNat, Int.toNat_natCast, Int.reduceAdd, Int.reduceSub, Int.reduceMul, Int.reduceNeg, Nat.reduceAdd, Nat.reduceSub, Nat.reduceMul, hm1, fin]
        · simp (disch := omega) only [Option.bind_some, if_true, if_false, not_true_eq_false, not_false_eq_true, z0, ii_add, ii_sub, ii_mul, ifLeT, ifLeF, ifLtT, ifLtF, ifEqT, ifEqF, ifNeT, ifNeF, ifIn, nixZ, ii_i64, o0, o1, isInT, isInF, tn14, tn12, tn2, tn21, tn47, tn48, tn49, tn471, tn472, Int.reduceToNat, Int.toNat_natCast, Int.reduceAdd, Int.reduceSub, Int.reduceMul, Int.reduceNeg, Nat.reduceAdd, Nat.reduceSub, Nat.reduceMul, hm1, fin]
        · simp (disch := omega) only [Option.bind_some, if_true, if_false, not_true_eq_false, not_false_eq_true, z0, ii_add, ii_sub, ii_mul, ifLeT, ifLeF, ifLtT, ifLtF, ifEqT, ifEqF, ifNeT, ifNeF, ifIn, nixZ, ii_i64, o0, o1, isInT, isInF, tn14, tn12, tn2, tn21, tn47, tn48, tn49, tn471, tn472, Int.reduceToNat, Int.toNat_natCast, Int.reduceAdd, Int.reduceSub, Int.reduceMul, Int.reduceNeg, Nat.reduceAdd, Nat.reduceSub, Nat.reduceMul, hm1, fin, b3]
      · refine ⟨y, by rw [cns_F (Or.inl b)]; exact ⟨g1, g2, ⟨e47, e48⟩, o1', o2, o3, o4⟩, ?_⟩
        have nb1 : ¬ p < bp := fun z => b (Or.inl z)
        by_cases q1 : p = bp
        · have nb2 : ¬ k < bk := fun z => b (Or.inr ⟨q1, Or.inl z⟩)
          by_cases q2 : k = bk
          · have nb3 : bs ≤ S := Classical.byContradiction (fun z => b (Or.inr ⟨q1, Or.inr ⟨q2, z⟩⟩))
            simp (disch := omega) only [Option.bind_some, if_true, if_false, not_true_eq_false, not_false_eq_true, z0, ii_add, ii_sub, ii_mul, ifLeT, ifLeF, ifLtT, ifLtF, ifEqT, ifEqF, ifNeT, ifNeF, ifIn, nixZ, ii_i64, o0, o1, isInT, isInF, tn14, tn12, tn2, tn21, tn47, tn48, tn49, tn471, tn472, Int.reduceToNat, Int.toNat_natCast, Int.reduceAdd, Int.reduceSub, Int.reduceMul, Int.reduceNeg, Nat.reduceAdd, Nat.reduceSub, Nat.reduceMul, hm1, fin, nb3]
          · simp (disch := omega) only [Option.bind_some, if_true, if_false, not_true_eq_false, not_false_eq_true, z0, ii_add, ii_sub, ii_mul, ifLeT, ifLeF, ifLtT, ifLtF, ifEqT, ifEqF, ifNeT, ifNeF, ifIn, nixZ, ii_i64, o0, o1, isInT, isInF, tn14, tn12, tn2, tn21, tn47, tn48, tn49, tn471, tn472, Int.reduceToNat, Int.toNat_natCast, Int.reduceAdd, Int.reduceSub, Int.reduceMul, Int.reduceNeg, Nat.reduceAdd, Nat.reduceSub, Nat.reduceMul, hm1, fin]
        · simp (disch := omega) only [Option.bind_some, if_true, if_false, not_true_eq_false, not_false_eq_true, z0, ii_add, ii_sub, ii_mul, ifLeT, ifLeF, ifLtT, ifLtF, ifEqT, ifEqF, ifNeT, ifNeF, ifIn, nixZ, ii_i64, o0, o1, isInT, isInF, tn14, tn12, tn2, tn21, tn47, tn48, tn49, tn471, tn472, Int.reduceToNat, Int.toNat_natCast, Int.reduceAdd, Int.reduceSub, Int.reduceMul, Int.reduceNeg, Nat.reduceAdd, Nat.reduceSub, Nat.reduceMul, hm1, fin]
  · refine ⟨y, by rw [cns_F (Or.inr (by omega))]; exact ⟨g1, g2, g3, g4'⟩, ?_⟩
    rw [if_pos (by rw [ii_lt (by omega) (by omega) (by omega) (by omega)]; omega), Option.bind_some]
    exact fin _
theorem R_lp {rc : Nat → Int32 → Int32 → Int32 → Int32 → AH → Option AH} {F : Nat → BST → BST} (R : RH hd g) (D : RDy d g 97) (W : HW hd) (V : DW hd d) {st : BST} {S : Int32} {dS : DY} {y : AH} {n p : Int} {s : Nat} (hsN : s ≤ (cellsM hd).toNat) (G : RG g st dS y) (T : TD hd d S dS) (hS : ∀ c, s ≤ c → tb S c = false)
    (hrc : ∀ (c : Nat) (st : BST) (y : AH), s ≤ c → (c : Int) < cellsM hd → opB hd d c = true → RG g st (upd dS (14 + c) (ii (watM hd c 2))) y → ∃ y', rc 0 (ii n) (ii (c + 1 : Nat)) (S ||| bitI c) (ii (p + prM hd c)) y = some y' ∧ RG g (F c st) (upd dS (14 + c) (ii (watM hd c 2))) y') :
    ∃ y', R_goCheapest_L112 rc FU (ii n) S (ii p) (ii s) y = some y' ∧ RG g (fo (fun c st => if opB hd d c = true then F c st else st) s ((cellsM hd).toNat - s) st) dS y' := by
  have hcl := W.cells
  refine lup (fun m k (y : AH) => R_goCheapest_L112 rc m (ii n) S (ii p) (ii k) y) (cellsM hd).toNat (fun k y => s ≤ k ∧ RG g (fo (fun c st => if opB hd d c = true then F c st else st) s (k - s) st) dS y) (fun z => ∃ y', z = some y' ∧ RG g (fo (fun c st => if opB hd d c = true then F c st else st) s ((cellsM hd).toNat - s) st) dS y') ?_ ?_ ((cellsM hd).toNat - s) s FU y (by omega) (by unfold FU; omega) ⟨Nat.le_refl _, by rw [fo_0]; exact G⟩
  · rintro m y ⟨r1, r2⟩
    have Ry := YS.rh R r2.1
    simp (disch := omega) only [Option.bind_some, if_true, if_false, not_true_eq_false, not_false_eq_true, z0, ii_add, ii_sub, ii_mul, ifLeT, ifLeF, ifLtT, ifLtF, ifEqT, ifEqF, ifNeT, ifNeF, ifIn, nixZ, ii_i64, o0, o1, isInT, isInF, tn14, tn12, tn2, tn21, tn47, tn48, tn49, tn471, tn472, Int.reduceToNat, Int.toNat_natCast, Int.reduceAdd, Int.reduceSub, Int.reduceMul, Int.reduceNeg, Nat.reduceAdd, Nat.reduceSub, Nat.reduceMul, R_goCheapest_L112, R_goCheapest_L112_b, Ry.2.2.2.2.2.1]
    exact ⟨_, rfl, r2⟩
  · rintro m k y hk ⟨r1, r2⟩
    right
    have Ry := YS.rh R r2.1
    have hl := watM_lo W k 2
    have hwl := V.wel (c := k) (by omega)
    have e97 : y.1 97 (14 + k) = ii (vI (d (14 + k))) := by rw [r2.1.1 97 (by decide) (by decide)]; exact D.i (by omega)
    by_cases t : opB hd d k = true
    · have hop := t
      unfold opB at hop
      rw [decide_eq_true_eq] at hop
      have hwd : wdM hd k 2 = watM hd k 2 := by unfold wdM; rw [if_neg (by omega)]
      have hck := R_costOf (YS.rh R (r2.1.t98 (j := 14 + k) (v := ii (watM hd k 2)))) W (c := k) (s := 2) (by omega) (by omega) (by omega) (by omega)
      rw [hwd] at hck
      have hck' : f_R_costOf (ii k) (ii 2) (wI y 98 (14 + k) (ii (watM hd k 2))) = some (ii (prM hd k)) := hck
      obtain ⟨y', ey, Gy⟩ := hrc k _ (wI y 98 (14 + k) (ii (watM hd k 2))) r1 (by omega) t ⟨r2.1.t98, fun j hj => by
        rw [wI_self]
        by_cases e : j = 14 + k
        · rw [e, upd_self, upd_self]
        · rw [upd_ne e, upd_ne e]; exact r2.2.1 j hj, by
        have h3 := r2.2.2.1
        revert h3
        cases (fo (fun c st => if opB hd d c = true then F c st else st) s (k - s) st) with
        | none => intro h3; show (wI y 98 (14 + k) (ii (watM hd k 2))).1 80 47 = _; rw [wI_ne (by decide)]; exact h3
        | some v => intro h3; show (wI y 98 (14 + k) (ii (watM hd k 2))).1 80 47 = _ ∧ (wI y 98 (14 + k) (ii (watM hd k 2))).1 80 48 = _; rw [wI_ne (by decide)]; exact h3, r2.2.2.2⟩
      have ey' : rc 0 (ii n) (ii ((k : Int) + 1)) (S ||| shlI (ii 1) (ii k)) (ii (p + prM hd k)) (wI y 98 (14 + k) (ii (watM hd k 2))) = some y' := ey
      simp (disch := omega) only [Option.bind_some, if_true, if_false, not_true_eq_false, not_false_eq_true, z0, ii_add, ii_sub, ii_mul, ifLeT, ifLeF, ifLtT, ifLtF, ifEqT, ifEqF, ifNeT, ifNeF, ifIn, nixZ, ii_i64, o0, o1, isInT, isInF, tn14, tn12, tn2, tn21, tn47, tn48, tn49, tn471, tn472, Int.reduceToNat, Int.toNat_natCast, Int.reduceAdd, Int.reduceSub, Int.reduceMul, Int.reduceNeg, Nat.reduceAdd, Nat.reduceSub, Nat.reduceMul, R_goCheapest_L112, R_goCheapest_L112_b, Ry.2.2.2.2.2.1, R_depthOf Ry W, e97, hck', ey']
      refine ⟨_, rfl, by omega, ?_⟩
      rw [fo_s r1, if_pos t]
      refine ⟨Gy.1.t98, fun j hj => ?_, ?_, Gy.2.2.2⟩
      · rw [wI_self]
        by_cases e : j = 14 + k
        · rw [e, upd_self, T.1 k (by omega), if_neg (by rw [hS k r1]; decide), vI_ii (d (14 + k)), hop.1]
        · rw [upd_ne e, Gy.2.1 j hj, upd_ne e]
      · have h3 := Gy.2.2.1
        revert h3
        cases F k (fo (fun c st => if opB hd d c = true then F c st else st) s (k - s) st) with
        | none => intro h3; show (wI y' 98 (14 + k) (ii 0)).1 80 47 = _; rw [wI_ne (by decide)]; exact h3
        | some v => intro h3; show (wI y' 98 (14 + k) (ii 0)).1 80 47 = _ ∧ (wI y' 98 (14 + k) (ii 0)).1 80 48 = _; rw [wI_ne (by decide)]; exact h3
    · have hno : ¬ (vI (d (14 + k)) = 0 ∧ watM hd k 2 ≠ -1 ∧ watM hd k 2 ≤ 60) := fun z => t (by unfold opB; rw [decide_eq_true_eq]; exact z)
      have gofin : s ≤ k + 1 ∧ RG g (fo (fun c st => if opB hd d c = true then F c st else st) s (k + 1 - s) st) dS y := ⟨by omega, by rw [fo_s r1, if_neg t]; exact r2⟩
      by_cases z1 : vI (d (14 + k)) = 0
      · by_cases z2 : watM hd k 2 = -1
        · simp (disch := omega) only [Option.bind_some, if_true, if_false, not_true_eq_false, not_false_eq_true, z0, ii_add, ii_sub, ii_mul, ifLeT, ifLeF, ifLtT, ifLtF, ifEqT, ifEqF, ifNeT, ifNeF, ifIn, nixZ, ii_i64, o0, o1, isInT, isInF, tn14, tn12, tn2, tn21, tn47, tn48, tn49, tn471, tn472, Int.reduceToNat, Int.toNat_natCast, Int.reduceAdd, Int.reduceSub, Int.reduceMul, Int.reduceNeg, Nat.reduceAdd, Nat.reduceSub, Nat.reduceMul, R_goCheapest_L112, R_goCheapest_L112_b, Ry.2.2.2.2.2.1, R_depthOf Ry W, e97]
          exact ⟨_, rfl, gofin⟩
        · simp (disch := omega) only [Option.bind_some, if_true, if_false, not_true_eq_false, not_false_eq_true, z0, ii_add, ii_sub, ii_mul, ifLeT, ifLeF, ifLtT, ifLtF, ifEqT, ifEqF, ifNeT, ifNeF, ifIn, nixZ, ii_i64, o0, o1, isInT, isInF, tn14, tn12, tn2, tn21, tn47, tn48, tn49, tn471, tn472, Int.reduceToNat, Int.toNat_natCast, Int.reduceAdd, Int.reduceSub, Int.reduceMul, Int.reduceNeg, Nat.reduceAdd, Nat.reduceSub, Nat.reduceMul, R_goCheapest_L112, R_goCheapest_L112_b, Ry.2.2.2.2.2.1, R_depthOf Ry W, e97]
          exact ⟨_, rfl, gofin⟩
      · simp (disch := omega) only [Option.bind_some, if_true, if_false, not_true_eq_false, not_false_eq_true, z0, ii_add, ii_sub, ii_mul, ifLeT, ifLeF, ifLtT, ifLtF, ifEqT, ifEqF, ifNeT, ifNeF, ifIn, nixZ, ii_i64, o0, o1, isInT, isInF, tn14, tn12, tn2, tn21, tn47, tn48, tn49, tn471, tn472, Int.reduceToNat, Int.toNat_natCast, Int.reduceAdd, Int.reduceSub, Int.reduceMul, Int.reduceNeg, Nat.reduceAdd, Nat.reduceSub, Nat.reduceMul, R_goCheapest_L112, R_goCheapest_L112_b, Ry.2.2.2.2.2.1, R_depthOf Ry W, e97]
        exact ⟨_, rfl, gofin⟩
end P2
