/-! the reference: a step, acts kept and undone -/
def RF (a : Nat) (g g1 : AH) : Prop := (LR g → LR g1) ∧ (∀ x, x ≠ 80 → x ≠ 84 → x ≠ a → g1.1 x = g.1 x) ∧ (∀ j, j ∈ [6, 7, 30, 31, 32, 33, 34, 39, 43, 45, 52, 55] → g1.1 80 j = g.1 80 j) ∧ KC g g1 ∧ g1.2.1 = g.2.1
section RT
variable {hd : Nat → Int} {d : DY} {a : Nat} {g : AH} {la : List (List Int)} {ho : Int}
theorem RF.rf (a : Nat) (g : AH) : RF a g g := ⟨fun l => l, fun _ _ _ _ => rfl, fun _ _ => rfl, KC.rf g, rfl⟩
theorem RF.tr {g1 g2 : AH} (x : RF a g g1) (y : RF a g1 g2) : RF a g g2 := ⟨fun l => y.1 (x.1 l), fun o h1 h2 h3 => (y.2.1 o h1 h2 h3).trans (x.2.1 o h1 h2 h3), fun j hj => (y.2.2.1 j hj).trans (x.2.2.1 j hj), x.2.2.2.1.tr y.2.2.2.1, y.2.2.2.2.trans x.2.2.2.2⟩
theorem RF.ag {g1 : AH} (ha : a = 97 ∨ a = 98) (A : Ag [a] g g1) : RF a g g1 := by
  have n80 : (80 : Nat) ∉ [a] := by simp; omega
  have n84 : (84 : Nat) ∉ [a] := by simp; omega
  exact ⟨fun l j hj => by rw [A.1 84 n84]; exact l j hj, fun x _ _ h3 => A.1 x (by simpa using h3), fun j _ => by rw [A.1 80 n80], KC.ag A (by intro o h; simp at h; omega), by rw [A.2]⟩
theorem RF.rs {g1 : AH} (S : RS g g1) (h : g1.2.1 = g.2.1 ∧ ∀ x, x ≠ 80 → x ≠ 84 → g1.1 x = g.1 x) : RF a g g1 := ⟨S.1.1, fun x h1 h2 _ => h.2 x h1 h2, S.1.2.2.2.2, S.2, h.1⟩
theorem RF.rh {g1 : AH} (ha : a = 97 ∨ a = 98) (F : RF a g g1) (R : RH hd g) : RH hd g1 := by
  obtain ⟨a1, a2, a3, a4, a5, a6, a7, a8, a9, a10⟩ := R
  have e : ∀ x, x ∈ [85, 87, 89, 91, 93] → g1.1 x = g.1 x := fun x hx => F.2.1 x (by intro z; subst z; revert hx; decide) (by intro z; subst z; revert hx; decide) (by intro z; subst z; rcases ha with e | e <;> subst e <;> revert hx <;> decide)
  refine ⟨fun j hj => ?_, ?_, ?_, ?_, ?_, ?_, fun j hj => ?_, fun j hj => ?_, fun j hj => ?_, fun j hj => ?_⟩
  · rw [e 85 (by decide)]; exact a1 j hj
  · rw [F.2.2.1 30 (by decide)]; exact a2
  · rw [F.2.2.1 31 (by decide)]; exact a3
  · rw [F.2.2.1 32 (by decide)]; exact a4
  · rw [F.2.2.1 33 (by decide)]; exact a5
  · rw [F.2.2.1 34 (by decide)]; exact a6
  · rw [e 87 (by decide)]; exact a7 j hj
  · rw [e 89 (by decide)]; exact a8 j hj
  · rw [e 91 (by decide)]; exact a9 j hj
  · rw [e 93 (by decide)]; exact a10 j hj
theorem RF.rl {g1 : AH} (ha : a = 97 ∨ a = 98) (F : RF a g g1) (R : RLa la ho g) : RLa la ho g1 := by
  have e : ∀ x, x ∈ [82, 83] → g1.1 x = g.1 x := fun x hx => F.2.1 x (by intro z; subst z; revert hx; decide) (by intro z; subst z; revert hx; decide) (by intro z; subst z; rcases ha with e | e <;> subst e <;> revert hx <;> decide)
  exact ⟨by rw [F.2.2.1 7 (by decide)]; exact R.1, by rw [F.2.2.1 43 (by decide)]; exact R.2.1, fun i hi => ⟨by rw [e 83 (by decide)]; exact (R.2.2 i hi).1, fun j hj => by rw [e 82 (by decide)]; exact (R.2.2 i hi).2 j hj⟩⟩
/-- the laws, as far as twitches want them -/
def LWs (la : List (List Int)) (ho : Int) : Prop := la.length ≤ 4 ∧ (∀ x ∈ la, okB x) ∧ (∀ x ∈ la, ∃ C, pLaw x = .inr C) ∧ -1 ≤ ho ∧ ho < la.length
/-- what a step makes of a row -/
def stT (hd : Nat → Int) (d : DY) (la : List (List Int)) (ho : Int) (f c : Nat) : Int := twX hd (mvD d f c (fkM hd f 5).toNat) la ho f c
def stD (hd : Nat → Int) (d : DY) (f c : Nat) (t : Int) : DY := wrD (mvD d f c (fkM hd f 5).toNat) (ii f) (ii c) (ii t)
theorem DW.st (V : DW hd d) (W : HW hd) {f c : Nat} (hf : (f : Int) < hd 7) (hc : (c : Int) < cellsM hd) {t : Int} (t0 : 0 ≤ t) (t1 : t ≤ 99) : DW hd (stD hd d f c t) := by
  have hfk := W.2.2.2.2 f hf
  exact (V.mv W hf (gu := (fkM hd f 5).toNat) (by omega) (c := c) (by omega) hc).wr W (by omega) hf (by omega) hc t0 t1
theorem R_goes (ha : a = 97 ∨ a = 98) (R : RH hd g) (D : RDy d g a) (V : DW hd d) (W : HW hd) (RL : RLa la ho g) (LRg : LR g) (Lw : LWs la ho) {f c : Nat} {way : Int} (hf : (f : Int) < hd 7) (y0 : -2147483648 ≤ way) (y1 : way ≤ 2147483647) (hg : goM hd d f way = c) : ∃ g1, f_R_goes 227 a (ii f) (ii way) g = some (ii (stT hd d la ho f c), g1) ∧ RDy (stD hd d f c (stT hd d la ho f c)) g1 a ∧ RF a g g1 := by
  have hw := W.1
  have hcl := W.cells
  have hfk := W.2.2.2.2 f hf
  have hc : (c : Int) < cellsM hd := by
    have := goM_lo W (d := d) f way
    rw [hg] at this; omega
  have hgu : (fkM hd f 5).toNat < 2 := by omega
  have e12 : (12 + fkM hd f 5).toNat = 12 + (fkM hd f 5).toNat := by omega
  have A1 : Ag [a] g (wI g a (2 * f) (ii c)) := (Ag.rf _ _).pI (by simp)
  have R1 := RF.rh ha (RF.ag ha A1) R
  have D1 : RDy (upd d (2 * f) (ii c)) (wI g a (2 * f) (ii c)) a := D.w
  have e12v : (wI g a (2 * f) (ii c)).1 a (12 + (fkM hd f 5).toNat) = d (12 + (fkM hd f 5).toNat) := by rw [wI_self, upd_ne (by omega)]; exact D _ (by omega)
  have A2 : Ag [a] g (wI (wI g a (2 * f) (ii c)) a (12 + (fkM hd f 5).toNat) (d (12 + (fkM hd f 5).toNat) ||| bitI c)) := A1.pI (by simp)
  have D2 : RDy (mvD d f c (fkM hd f 5).toNat) (wI (wI g a (2 * f) (ii c)) a (12 + (fkM hd f 5).toNat) (d (12 + (fkM hd f 5).toNat) ||| bitI c)) a := D1.w
  have F2 := RF.ag ha A2
  have V2 := V.mv W hf (gu := (fkM hd f 5).toNat) hgu (c := c) (by omega) hc
  obtain ⟨g3, e3, S3, X3⟩ := R_twitch (RF.rh ha F2 R) ha D2 V2 W (RF.rl ha F2 RL) (F2.1 LRg) Lw.1 Lw.2.1 Lw.2.2.1 Lw.2.2.2.1 Lw.2.2.2.2 hf hc
  have D3 : RDy (mvD d f c (fkM hd f 5).toNat) g3 a := fun j hj => by rw [X3.2 a (by omega) (by omega)]; exact D2 j hj
  obtain ⟨g4, e4, D4, A4⟩ := R_writes D3 V2 (ii f) (ii c) (ii (stT hd d la ho f c))
  have e3' : f_R_twitchOf 227 a (ii f) (ii c) (wI (wI g a (2 * f) (ii c)) a (12 + (fkM hd f 5).toNat) (d (12 + (fkM hd f 5).toNat) ||| shlI (ii 1) (ii c))) = some (ii (stT hd d la ho f c), g3) := e3
  have hwh := R_where R D V W hf y0 y1
  rw [hg] at hwh
  unfold f_R_goes
  simp (disch := omega) only [Option.bind_some, if_true, if_false, not_true_eq_false, not_false_eq_true, z0, ii_add, ii_sub, ii_mul, ifLeT, ifLeF, ifLtT, ifLtF, ifEqT, ifEqF, ifNeT, ifNeF, ifIn, nixZ, ii_i64, o0, o1, isInT, isInF, tn14, tn12, tn2, tn21, tn47, tn48, tn49, tn471, tn472, Int.reduceToNat, Int.toNat_natCast, Int.reduceAdd, Int.reduceSub, Int.reduceMul, Int.reduceNeg, Nat.reduceAdd, Nat.reduceSub, Nat.reduceMul, hwh, R_t5 R1, e12, e12v, e3', e4]
  exact ⟨_, rfl, D4, (F2.tr (RF.rs S3 X3)).tr (RF.ag ha A4)⟩
/-! acts -/
def pu40 (ac : List DY) (d : DY) : List DY := (if ac.length = 40 then ac.tail else ac) ++ [d]
theorem pu40_len {ac : List DY} {d : DY} (h : ac.length ≤ 40) : (pu40 ac d).length = min (ac.length + 1) 40 := by
  unfold pu40
  by_cases q : ac.length = 40
  · rw [if_pos q]; simp; omega
  · rw [if_neg q]; simp; omega
/-- all but the acts' row and number -/
def RAf (g g1 : AH) : Prop := (∀ x, x ≠ 99 → x ≠ 80 → g1.1 x = g.1 x) ∧ (∀ j, j ≠ 45 → g1.1 80 j = g.1 80 j) ∧ g1.2 = g.2
theorem RAf.rf (g : AH) : RAf g g := ⟨fun _ _ _ => rfl, fun _ _ => rfl, rfl⟩
theorem RAf.tr {g1 g2 : AH} (x : RAf g g1) (y : RAf g1 g2) : RAf g g2 := ⟨fun o h1 h2 => (y.1 o h1 h2).trans (x.1 o h1 h2), fun j hj => (y.2.1 j hj).trans (x.2.1 j hj), y.2.2.trans x.2.2⟩
theorem RAf.w99 {j : Nat} {v : Int32} : RAf g (wI g 99 j v) := ⟨fun x h1 _ => wI_ne h1, fun j _ => by rw [wI_ne (by decide)], rfl⟩
theorem RAf.w45 {v : Int32} : RAf g (wI g 80 45 v) := ⟨fun x _ h2 => wI_ne h2, fun j hj => by rw [wI_self, upd_ne hj], rfl⟩
theorem R_rem1 (g : AH) : ∃ g1, R_remember_L11 FU (ii 0) g = some g1 ∧ RAf g g1 ∧ g1.1 80 = g.1 80 ∧ ∀ j, j < 8853 → g1.1 99 j = g.1 99 (j + 227) := by
  refine lup (fun m k (x : AH) => R_remember_L11 m (ii k) x) 8853 (fun k x => RAf g x ∧ x.1 80 = g.1 80 ∧ (∀ j, j < k → x.1 99 j = g.1 99 (j + 227)) ∧ ∀ j, k ≤ j → x.1 99 j = g.1 99 j) (fun x => ∃ g1, x = some g1 ∧ RAf g g1 ∧ g1.1 80 = g.1 80 ∧ ∀ j, j < 8853 → g1.1 99 j = g.1 99 (j + 227)) ?_ ?_ 8853 0 FU g (by omega) (by unfold FU; omega) ⟨RAf.rf g, rfl, fun j hj => by omega, fun j _ => rfl⟩
  · rintro m x ⟨r1, r2, r3, r4⟩
    simp (disch := omega) only [Option.bind_some, if_true, if_false, not_true_eq_false, not_false_eq_true, z0, ii_add, ii_sub, ii_mul, ifLeT, ifLeF, ifLtT, ifLtF, ifEqT, ifEqF, ifNeT, ifNeF, ifIn, nixZ, ii_i64, o0, o1, isInT, isInF, tn14, tn12, tn2, tn21, tn47, tn48, tn49, tn471, tn472, Int.reduceToNat, Int.toNat_natCast, Int.reduceAdd, Int.reduceSub, Int.reduceMul, Int.reduceNeg, Nat.reduceAdd, Nat.reduceSub, Nat.reduceMul, R_remember_L11, R_remember_L11_b, Int.cast_ofNat_Int]
    exact ⟨_, rfl, r1, r2, r3⟩
  · rintro m k x hk ⟨r1, r2, r3, r4⟩
    right
    have t1 : ((k : Int) + 227).toNat = k + 227 := by omega
    simp (disch := omega) only [Option.bind_some, if_true, if_false, not_true_eq_false, not_false_eq_true, z0, ii_add, ii_sub, ii_mul, ifLeT, ifLeF, ifLtT, ifLtF, ifEqT, ifEqF, ifNeT, ifNeF, ifIn, nixZ, ii_i64, o0, o1, isInT, isInF, tn14, tn12, tn2, tn21, tn47, tn48, tn49, tn471, tn472, Int.reduceToNat, Int.toNat_natCast, Int.reduceAdd, Int.reduceSub, Int.reduceMul, Int.reduceNeg, Nat.reduceAdd, Nat.reduceSub, Nat.reduceMul, R_remember_L11, R_remember_L11_b, t1]
    refine ⟨_, rfl, r1.tr RAf.w99, by rw [wI_ne (by decide)]; exact r2, fun j hj => ?_, fun j hj => by rw [wI_self, upd_ne (by omega)]; exact r4 j (by omega)⟩
    rw [wI_self]
    by_cases e : j = k
    · rw [e, upd_self, r4 _ (by omega)]
    · rw [upd_ne e]; exact r3 j (by omega)
theorem R_rem2 {n : Nat} (hn : n < 40) (e45 : g.1 80 45 = ii n) : ∃ g1, R_remember_L52 FU (ii 0) g = some g1 ∧ RAf g g1 ∧ g1.1 80 45 = ii (n + 1 : Nat) ∧ (∀ j, j < 227 → g1.1 99 (227 * n + j) = g.1 97 j) ∧ ∀ j, j < 227 * n → g1.1 99 j = g.1 99 j := by
  refine lup (fun m k (x : AH) => R_remember_L52 m (ii k) x) 227 (fun k x => RAf g x ∧ x.1 80 = g.1 80 ∧ (∀ j, j < k → x.1 99 (227 * n + j) = g.1 97 j) ∧ ∀ j, j < 227 * n → x.1 99 j = g.1 99 j) (fun x => ∃ g1, x = some g1 ∧ RAf g g1 ∧ g1.1 80 45 = ii (n + 1 : Nat) ∧ (∀ j, j < 227 → g1.1 99 (227 * n + j) = g.1 97 j) ∧ ∀ j, j < 227 * n → g1.1 99 j = g.1 99 j) ?_ ?_ 227 0 FU g (by omega) (by unfold FU; omega) ⟨RAf.rf g, rfl, fun j hj => by omega, fun j _ => rfl⟩
  · rintro m x ⟨r1, r2, r3, r4⟩
    have ex : x.1 80 45 = ii n := by rw [r2]; exact e45
    simp (disch := omega) only [Option.bind_some, if_true, if_false, not_true_eq_false, not_false_eq_true, z0, ii_add, ii_sub, ii_mul, ifLeT, ifLeF, ifLtT, ifLtF, ifEqT, ifEqF, ifNeT, ifNeF, ifIn, nixZ, ii_i64, o0, o1, isInT, isInF, tn14, tn12, tn2, tn21, tn47, tn48, tn49, tn471, tn472, Int.reduceToNat, Int.toNat_natCast, Int.reduceAdd, Int.reduceSub, Int.reduceMul, Int.reduceNeg, Nat.reduceAdd, Nat.reduceSub, Nat.reduceMul, R_remember_L52, R_remember_L52_b, Int.cast_ofNat_Int, ex]
    exact ⟨_, rfl, r1.tr RAf.w45, by rw [wI_self, upd_self]; rfl, fun j hj => by rw [wI_ne (by decide)]; exact r3 j hj, fun j hj => by rw [wI_ne (by decide)]; exact r4 j hj⟩
  · rintro m k x hk ⟨r1, r2, r3, r4⟩
    right
    have ex : x.1 80 45 = ii n := by rw [r2]; exact e45
    have t1 : (227 * (n : Int) + k).toNat = 227 * n + k := by omega
    have e97 : x.1 97 k = g.1 97 k := by rw [r1.1 97 (by decide) (by decide)]
    simp (disch := omega) only [Option.bind_some, if_true, if_false, not_true_eq_false, not_false_eq_true, z0, ii_add, ii_sub, ii_mul, ifLeT, ifLeF, ifLtT, ifLtF, ifEqT, ifEqF, ifNeT, ifNeF, ifIn, nixZ, ii_i64, o0, o1, isInT, isInF, tn14, tn12, tn2, tn21, tn47, tn48, tn49, tn471, tn472, Int.reduceToNat, Int.toNat_natCast, Int.reduceAdd, Int.reduceSub, Int.reduceMul, Int.reduceNeg, Nat.reduceAdd, Nat.reduceSub, Nat.reduceMul, R_remember_L52, R_remember_L52_b, ex, t1, e97]
    refine ⟨_, rfl, r1.tr RAf.w99, by rw [wI_ne (by decide)]; exact r2, fun j hj => ?_, fun j hj => by rw [wI_self, upd_ne (by omega)]; exact r4 j hj⟩
    rw [wI_self]
    by_cases e : j = k
    · rw [e, upd_self]
    · rw [upd_ne (by omega)]; exact r3 j (by omega)
theorem R_rem {ac : List DY} (A : RAc ac g) (D : RDy d g 97) (h40 : ac.length ≤ 40) : ∃ g1, f_R_remember g = some g1 ∧ RAc (pu40 ac d) g1 ∧ RAf g g1 := by
  obtain ⟨a1, a2⟩ := A
  unfold f_R_remember pu40
  by_cases q : ac.length = 40
  · obtain ⟨x, ex, F1, x80, x99⟩ := R_rem1 g
    have e45 : x.1 80 45 = ii 40 := by rw [x80, a1, q]; rfl
    have F2 : RAf x (wI x 80 45 (ii 39)) := RAf.w45
    obtain ⟨y, ey, F3, y45, y1, y2⟩ := R_rem2 (g := wI x 80 45 (ii 39)) (n := 39) (by omega) (by rw [wI_self, upd_self]; rfl)
    rw [if_pos (by rw [a1, q]; rfl), bind_eq ex, Option.bind_some, e45, ii_sub]
    have ey' : R_remember_L52 FU (ii 0) (wI x 80 45 (ii (40 - 1))) = some y := ey
    rw [if_pos q]
    refine ⟨y, ey', ⟨?_, fun i hi j hj => ?_⟩, (F1.tr F2).tr F3⟩
    · rw [y45]; simp [q]
    · have hlen : (ac.tail ++ [d]).length = 40 := by simp [q]
      rw [hlen] at hi
      by_cases e : i = 39
      · subst e
        rw [y1 j hj, wI_ne (by decide), F1.1 97 (by decide) (by decide), D j hj, List.getD_eq_getElem?_getD, List.getElem?_append_right (by simp [q])]
        simp [q]
      · rw [y2 _ (by omega), wI_ne (by decide), x99 _ (by omega), show 227 * i + j + 227 = 227 * (i + 1) + j by omega, a2 (i + 1) (by omega) j hj]
        have hget : (ac.tail ++ [d]).getD i (fun _ => 0) = ac.getD (i + 1) (fun _ => 0) := by
          rw [List.getD_eq_getElem?_getD, List.getD_eq_getElem?_getD, List.getElem?_append_left (by simp [q]; omega), List.getElem?_tail]
        rw [hget]
  · obtain ⟨y, ey, F3, y45, y1, y2⟩ := R_rem2 (g := g) (n := ac.length) (by omega) a1
    rw [if_neg (by rw [a1, ii_eq (by omega) (by omega) (by omega) (by omega)]; omega), Option.bind_some, if_neg q]
    refine ⟨y, ey, ⟨?_, fun i hi j hj => ?_⟩, F3⟩
    · rw [y45]; simp
    · simp only [List.length_append, List.length_cons, List.length_nil] at hi
      by_cases e : i = ac.length
      · subst e
        rw [y1 j hj, D j hj, List.getD_eq_getElem?_getD, List.getElem?_append_right (Nat.le_refl _)]
        simp
      · rw [y2 _ (by omega), a2 i (by omega) j hj, List.getD_eq_getElem?_getD, List.getD_eq_getElem?_getD, List.getElem?_append_left (by omega)]
end RT
