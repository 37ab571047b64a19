/-! a step: what it makes of the row; the reference's part -/
/-- a fork has gone -/
def mvD (d : DY) (f : Nat) (c : Int) (gu : Nat) : DY := upd (upd d (2 * f) (ii c)) (12 + gu) (d (12 + gu) ||| bitI c)
/-- one more in the book -/
def wrD (d : DY) (f c t : Int32) : DY := fun j => if bL d = 60 then (if 47 ≤ j ∧ j < 224 then d (j + 3) else if j = 224 then f else if j = 225 then c else if j = 226 then t else d j) else (if j = 47 + 3 * bL d then f else if j = 48 + 3 * bL d then c else if j = 49 + 3 * bL d then t else if j = 46 then ii (bL d + 1 : Nat) else d j)
section ST
variable {hd : Nat → Int} {d : DY} {a : Nat} {g : AH}
theorem mvD_hi {f gu j : Nat} {c : Int} (hf : f < 6) (hg : gu < 2) (hj : 14 ≤ j) : mvD d f c gu j = d j := by unfold mvD; rw [upd_ne (by omega), upd_ne (by omega)]
theorem mvD_bL {f gu : Nat} {c : Int} (hf : f < 6) (hg : gu < 2) : bL (mvD d f c gu) = bL d := by unfold bL; rw [mvD_hi hf hg (by omega)]
theorem DW.mv (V : DW hd d) (W : HW hd) {f gu : Nat} {c : Int} (hf : (f : Int) < hd 7) (hg : gu < 2) (c0 : 0 ≤ c) (c1 : c < cellsM hd) : DW hd (mvD d f c gu) := by
  have hw := W.1
  have hf6 : f < 6 := by omega
  obtain ⟨v1, v2, v3, v4, v5⟩ := V
  have eb := mvD_bL (d := d) (c := c) hf6 hg
  refine ⟨by rw [mvD_hi hf6 hg (by omega)]; exact v1, fun k hk => ?_, fun k hk => by rw [mvD_hi hf6 hg (by omega)]; exact v3 k hk, by rw [eb, mvD_hi hf6 hg (by omega)]; exact v4, fun j hj => ?_⟩
  · by_cases e : k = f
    · subst e
      refine ⟨c, c0, c1, ?_⟩
      unfold mvD
      rw [upd_ne (by omega), upd_self]
    · have : mvD d f c gu (2 * k) = d (2 * k) := by unfold mvD; rw [upd_ne (by omega), upd_ne (by omega)]
      rw [this]; exact v2 k hk
  · rw [eb] at hj
    rw [mvD_hi hf6 hg (by omega), mvD_hi hf6 hg (by omega), mvD_hi hf6 hg (by omega)]
    exact v5 j hj
theorem wrD_lo {f c t : Int32} {j : Nat} (hb : bL d ≤ 60) (hj : j < 46) : wrD d f c t j = d j := by
  unfold wrD
  by_cases q : bL d = 60
  · rw [if_pos q, if_neg (by omega), if_neg (by omega), if_neg (by omega), if_neg (by omega)]
  · rw [if_neg q, if_neg (by omega), if_neg (by omega), if_neg (by omega), if_neg (by omega)]
theorem wrD_46 {f c t : Int32} (V : DW hd d) : wrD d f c t 46 = ii (min (bL d + 1) 60 : Nat) := by
  have hb := V.2.2.2.1
  unfold wrD
  by_cases q : bL d = 60
  · rw [if_pos q, if_neg (by omega), if_neg (by omega), if_neg (by omega), if_neg (by omega), hb.1, q]; rfl
  · rw [if_neg q, if_neg (by omega), if_neg (by omega), if_neg (by omega), if_pos rfl, show min (bL d + 1) 60 = bL d + 1 by omega]
theorem wrD_bL {f c t : Int32} (V : DW hd d) : bL (wrD d f c t) = min (bL d + 1) 60 := by
  have : bL (wrD d f c t) = (wrD d f c t 46).toInt.toNat := rfl
  rw [this, wrD_46 V, ii_toInt (by omega) (by omega)]
  omega
/-- the entries behind: the same, one further back; and the new one -/
theorem wrD_e {f c t : Int32} (V : DW hd d) {j k : Nat} (hj : j + 1 < min (bL d + 1) 60) (hk : k < 3) : wrD d f c t (47 + 3 * j + k) = d (47 + 3 * (bL d - (min (bL d + 1) 60 - 1) + j) + k) := by
  have hb := V.2.2.2.1.2
  unfold wrD
  by_cases q : bL d = 60
  · rw [if_pos q, if_pos (by omega)]
    congr 1; omega
  · rw [if_neg q, if_neg (by omega), if_neg (by omega), if_neg (by omega), if_neg (by omega)]
    congr 1; omega
theorem wrD_n {f c t : Int32} (V : DW hd d) : wrD d f c t (47 + 3 * (min (bL d + 1) 60 - 1)) = f ∧ wrD d f c t (48 + 3 * (min (bL d + 1) 60 - 1)) = c ∧ wrD d f c t (49 + 3 * (min (bL d + 1) 60 - 1)) = t := by
  have hb := V.2.2.2.1.2
  unfold wrD
  by_cases q : bL d = 60
  · rw [if_pos q, if_pos q, if_pos q]
    refine ⟨?_, ?_, ?_⟩
    · rw [if_neg (by omega), if_pos (by omega)]
    · rw [if_neg (by omega), if_neg (by omega), if_pos (by omega)]
    · rw [if_neg (by omega), if_neg (by omega), if_neg (by omega), if_pos (by omega)]
  · rw [if_neg q, if_neg q, if_neg q]
    refine ⟨?_, ?_, ?_⟩
    · rw [if_pos (by omega)]
    · rw [if_neg (by omega), if_pos (by omega)]
    · rw [if_neg (by omega), if_neg (by omega), if_pos (by omega)]
theorem DW.wr (V : DW hd d) (W : HW hd) {f c t : Int} (hf0 : 0 ≤ f) (hf1 : f < hd 7) (c0 : 0 ≤ c) (c1 : c < cellsM hd) (t0 : 0 ≤ t) (t1 : t ≤ 99) : DW hd (wrD d (ii f) (ii c) (ii t)) := by
  have hb := V.2.2.2.1.2
  have hw := W.1
  have hlo := fun j (hj : j < 46) => wrD_lo (d := d) (f := ii f) (c := ii c) (t := ii t) hb hj
  refine ⟨by rw [hlo 45 (by omega)]; exact V.1, fun k hk => by rw [hlo _ (by omega)]; exact V.2.1 k hk, fun k hk => by rw [hlo _ (by omega)]; exact V.2.2.1 k hk, ⟨by rw [wrD_bL V, wrD_46 V], by rw [wrD_bL V]; omega⟩, fun j hj => ?_⟩
  rw [wrD_bL V] at hj
  by_cases e : j + 1 < min (bL d + 1) 60
  · have e1 := wrD_e (f := ii f) (c := ii c) (t := ii t) V (j := j) (k := 0) e (by omega)
    have e2 := wrD_e (f := ii f) (c := ii c) (t := ii t) V (j := j) (k := 1) e (by omega)
    have e3 := wrD_e (f := ii f) (c := ii c) (t := ii t) V (j := j) (k := 2) e (by omega)
    obtain ⟨f', c', t', h1, h2, h3, h4⟩ := V.2.2.2.2 (bL d - (min (bL d + 1) 60 - 1) + j) (by omega)
    refine ⟨f', c', t', h1, ?_, ?_, ?_⟩
    · rw [show 47 + 3 * j = 47 + 3 * j + 0 by omega, e1]; exact h2
    · rw [show 48 + 3 * j = 47 + 3 * j + 1 by omega, e2, ← h3]; congr 1; omega
    · rw [show 49 + 3 * j = 47 + 3 * j + 2 by omega, e3, ← h4]; congr 1; omega
  · obtain ⟨n1, n2, n3⟩ := wrD_n (f := ii f) (c := ii c) (t := ii t) V
    have ej : j = min (bL d + 1) 60 - 1 := by omega
    rw [ej]
    exact ⟨f, c, t, ⟨hf0, hf1, c0, c1, t0, t1⟩, n1, n2, n3⟩
/-! the reference writes -/
theorem RDy.w {j : Nat} {v : Int32} (D : RDy d g a) : RDy (upd d j v) (wI g a j v) a := by
  intro k hk
  rw [wI_self]
  by_cases e : k = j
  · rw [e, upd_self, upd_self]
  · rw [upd_ne e, upd_ne e]; exact D k hk
theorem RDy.ext {d' : DY} (D : RDy d g a) (h : ∀ j, j < 227 → d j = d' j) : RDy d' g a := fun j hj => by rw [D j hj, h j hj]
theorem R_writes (D : RDy d g a) (V : DW hd d) (f c t : Int32) : ∃ g1, f_R_writes 227 a f c t g = some g1 ∧ RDy (wrD d f c t) g1 a ∧ Ag [a] g g1 := by
  obtain ⟨hb1, hb2⟩ := V.bl
  have e46 := D.i (j := 46) (by omega)
  rw [hb1] at e46
  unfold f_R_writes
  rw [if_pos (by decide), show (ii 46).toNatClampNeg = 46 from rfl, e46]
  by_cases q : bL d = 60
  · rw [if_pos (by rw [q]; rfl)]
    refine lup (fun m k (x : AH) => R_writes_L12 m 227 a f c t (ii (k + 1 : Nat)) x) 177 (fun k x => Ag [a] g x ∧ (∀ j, j < 227 → x.1 a j = if 47 ≤ j ∧ j < 47 + k then d (j + 3) else d j)) (fun x => ∃ g1, x = some g1 ∧ RDy (wrD d f c t) g1 a ∧ Ag [a] g g1) ?_ ?_ 177 0 FU g (by omega) (by unfold FU; omega) ⟨Ag.rf _ _, fun j hj => by rw [if_neg (by omega)]; exact D j hj⟩
    · rintro m x ⟨r1, r2⟩
      have x46 : x.1 a 46 = ii 60 := by rw [r2 46 (by omega), if_neg (by omega), ← D 46 (by omega), e46, q]; rfl
      simp (disch := omega) only [Option.bind_some, if_true, if_false, not_true_eq_false, not_false_eq_true, z0, ii_add, ii_sub, ii_mul, ifLeT, ifLeF, ifLtT, ifLtF, ifEqT, ifEqF, ifNeT, ifNeF, ifIn, nixZ, ii_i64, o0, o1, isInT, isInF, tn14, tn12, tn2, tn21, tn47, tn48, tn49, tn471, tn472, Int.reduceToNat, Int.toNat_natCast, Int.reduceAdd, Int.reduceSub, Int.reduceMul, Int.reduceNeg, Nat.reduceAdd, Nat.reduceSub, Nat.reduceMul, R_writes_L12, R_writes_L12_b, Int.cast_ofNat_Int, wI_self, upd_self, x46]
      refine ⟨_, rfl, fun j hj => ?_, (((((r1.pI (by simp)).pI (by simp)).pI (by simp)).pI (by simp))).pI (by simp)⟩
      simp only [wI_self, upd]
      unfold wrD
      rw [if_pos q]
      by_cases j1 : j = 46
      · subst j1
        simp only [if_true]
        rw [if_neg (by omega), if_neg (by omega), if_neg (by omega), if_neg (by omega), ← D 46 (by omega), e46, q]
        rfl
      · rw [if_neg j1]
        by_cases j2 : j = 226
        · subst j2; rfl
        · rw [if_neg j2]
          by_cases j3 : j = 225
          · subst j3; rfl
          · rw [if_neg j3]
            by_cases j4 : j = 224
            · subst j4; rfl
            · rw [if_neg j4, if_neg j1, r2 j hj]
              by_cases j5 : 47 ≤ j ∧ j < 224
              · rw [if_pos (by omega), if_pos j5]
              · rw [if_neg (by omega), if_neg j5, if_neg j4, if_neg j3, if_neg j2]
    · rintro m k x hk ⟨r1, r2⟩
      right
      have ek : ((k + 1 : Nat) : Int) = (k : Int) + 1 := by omega
      have t1 : (46 + ((k : Int) + 1) + 3).toNat = 50 + k := by omega
      have t2 : (46 + ((k : Int) + 1)).toNat = 47 + k := by omega
      have x50 : x.1 a (50 + k) = d (50 + k) := by rw [r2 _ (by omega), if_neg (by omega)]
      simp (disch := omega) only [Option.bind_some, if_true, if_false, not_true_eq_false, not_false_eq_true, z0, ii_add, ii_sub, ii_mul, ifLeT, ifLeF, ifLtT, ifLtF, ifEqT, ifEqF, ifNeT, ifNeF, ifIn, nixZ, ii_i64, o0, o1, isInT, isInF, tn14, tn12, tn2, tn21, tn47, tn48, tn49, tn471, tn472, Int.reduceToNat, Int.toNat_natCast, Int.reduceAdd, Int.reduceSub, Int.reduceMul, Int.reduceNeg, Nat.reduceAdd, Nat.reduceSub, Nat.reduceMul, R_writes_L12, R_writes_L12_b, ek, t1, t2, x50]
      refine ⟨_, rfl, r1.pI (by simp), fun j hj => ?_⟩
      rw [wI_self]
      by_cases e : j = 47 + k
      · rw [e, upd_self, if_pos (by omega)]; congr 1; omega
      · rw [upd_ne e, r2 j hj]
        by_cases z : 47 ≤ j ∧ j < 47 + k
        · rw [if_pos z, if_pos (by omega)]
        · rw [if_neg z, if_neg (by omega)]
  · have t1 : (47 + 3 * (bL d : Int) + 2).toNat = 49 + 3 * bL d := by omega
    simp (disch := omega) only [Option.bind_some, if_true, if_false, not_true_eq_false, not_false_eq_true, z0, ii_add, ii_sub, ii_mul, ifLeT, ifLeF, ifLtT, ifLtF, ifEqT, ifEqF, ifNeT, ifNeF, ifIn, nixZ, ii_i64, o0, o1, isInT, isInF, tn14, tn12, tn2, tn21, tn47, tn48, tn49, tn471, tn472, Int.reduceToNat, Int.toNat_natCast, Int.reduceAdd, Int.reduceSub, Int.reduceMul, Int.reduceNeg, Nat.reduceAdd, Nat.reduceSub, Nat.reduceMul, e46]
    refine ⟨_, rfl, fun j hj => ?_, ((((Ag.rf _ _).pI (by simp)).pI (by simp)).pI (by simp)).pI (by simp)⟩
    simp only [wI_self, upd]
    unfold wrD
    rw [if_neg q]
    by_cases j1 : j = 46
    · subst j1
      simp only [if_true]
      rw [if_neg (by omega), if_neg (by omega), if_neg (by omega), if_neg (by omega), if_neg (by omega), if_neg (by omega), e46, ii_add]
      rfl
    · rw [if_neg j1]
      by_cases j2 : j = 49 + 3 * bL d
      · rw [if_pos j2, if_neg (by omega), if_neg (by omega), if_pos j2]
      · rw [if_neg j2]
        by_cases j3 : j = 48 + 3 * bL d
        · rw [if_pos j3, if_neg (by omega), if_pos j3]
        · rw [if_neg j3]
          by_cases j4 : j = 47 + 3 * bL d
          · rw [if_pos j4, if_pos j4]
          · rw [if_neg j4, if_neg j4, if_neg j3, if_neg j2, if_neg j1]
            exact D j hj
end ST
