/-! reads: stuck, reach -/
section Q8
variable {hd : Nat → Int} {d : DY} {o wr : Nat} {h g : AH}
/-- the cells that are not of a trail -/
def freM (hd : Nat → Int) (t : Int32) : Int32 := (bitI (cellsM hd) - ii 1) &&& (t ^^^ ii (-1))
theorem fre_tb (W : HS hd) (t : Int32) {i : Nat} (hi : i < 32) : tb (freM hd t) i = (decide ((i : Int) < cellsM hd) && !(tb t i)) := by
  have hc := W.cells
  unfold freM
  obtain ⟨n, hn⟩ := Int.eq_ofNat_of_zero_le hc.1
  rw [hn, tb_and, tb_all (by omega), tb_not _ hi]
  congr 1
  exact decide_eq_decide.mpr ⟨fun z => by omega, fun z => by omega⟩
theorem sel_tb {w hh c way : Int} (hw : 0 < w) (h30 : w * hh ≤ 30) (i : Nat) : tb (if nb w hh c way = -1 then ii 0 else bitI (nb w hh c way)) i = decide (nb w hh c way = i) := by
  by_cases q : nb w hh c way = -1
  · rw [if_pos q, tb_0, q]; symm; rw [decide_eq_false_iff_not]; omega
  · rw [if_neg q]
    have hn := nb_in hw q
    rw [bit_tb hn.1 (by omega)]
    exact decide_eq_decide.mpr ⟨fun z => z.symm, fun z => z.symm⟩
theorem bes_tb (W : HW hd) (c : Int) (i : Nat) : tb (besM hd c) i = (((decide (nb (hd 0) (hd 1) c 0 = i) || decide (nb (hd 0) (hd 1) c 1 = i)) || decide (nb (hd 0) (hd 1) c 2 = i)) || decide (nb (hd 0) (hd 1) c 3 = i)) := by
  have hw := W.1
  have h30 : hd 0 * hd 1 ≤ 30 := W.cells.2
  unfold besM
  rw [tb_or, tb_or, tb_or, tb_or, tb_0, sel_tb (by omega) h30, sel_tb (by omega) h30, sel_tb (by omega) h30, sel_tb (by omega) h30, Bool.false_or]
def canM (hd : Nat → Int) (d : DY) (f : Nat) : Nat → Bool
  | 0 => false
  | k + 1 => canM hd d f k || decide (goM hd d f k ≠ -1)
theorem R_can (R : RH hd g) (D : RDy d g 97) (V : DW hd d) (W : HW hd) {f : Nat} (hf : (f : Int) < hd 7) {v : Int32} : R_stuck_L31 FU v (ii f) (ii 0) (ii 0) g = some (bI (canM hd d f 4)) := by
  refine lup (fun n k (a : Bool) => R_stuck_L31 n v (ii f) (bI a) (ii k) g) 4 (fun k a => a = canM hd d f k) (fun y => y = some (bI (canM hd d f 4))) ?_ ?_ 4 0 FU false (by omega) (by unfold FU; omega) rfl
  · rintro n b r
    subst r
    simp (disch := omega) only [Option.bind_some, if_true, if_false, not_true_eq_false, not_false_eq_true, z0, ii_add, ii_sub, ii_mul, ifLeT, ifLeF, ifLtT, ifLtF, ifEqT, ifEqF, ifNeT, ifNeF, ifIn, nixZ, ii_i64, o0, o1, isInT, isInF, tn14, tn12, tn2, tn21, tn47, tn48, tn49, tn471, tn472, Int.reduceToNat, Int.toNat_natCast, Int.reduceAdd, Int.reduceSub, Int.reduceMul, Int.reduceNeg, Nat.reduceAdd, Nat.reduceSub, Nat.reduceMul, R_stuck_L31, R_stuck_L31_b, Int.cast_ofNat_Int]
  · rintro n k b hk r
    right
    have et : canM hd d f (k + 1) = (canM hd d f k || decide (goM hd d f k ≠ -1)) := rfl
    have hg := goM_lo W (d := d) f k
    have hcl := W.cells
    rw [et, ← r]
    cases b
    · by_cases q : goM hd d f k = -1
      · have e0 : bI false = ii 0 := rfl
        simp (disch := omega) only [Option.bind_some, if_true, if_false, not_true_eq_false, not_false_eq_true, z0, ii_add, ii_sub, ii_mul, ifLeT, ifLeF, ifLtT, ifLtF, ifEqT, ifEqF, ifNeT, ifNeF, ifIn, nixZ, ii_i64, o0, o1, isInT, isInF, tn14, tn12, tn2, tn21, tn47, tn48, tn49, tn471, tn472, Int.reduceToNat, Int.toNat_natCast, Int.reduceAdd, Int.reduceSub, Int.reduceMul, Int.reduceNeg, Nat.reduceAdd, Nat.reduceSub, Nat.reduceMul, R_stuck_L31, R_stuck_L31_b, e0, R_where R D V W hf]
        exact ⟨false, rfl, by simp [q]⟩
      · have e0 : bI false = ii 0 := rfl
        simp (disch := omega) only [Option.bind_some, if_true, if_false, not_true_eq_false, not_false_eq_true, z0, ii_add, ii_sub, ii_mul, ifLeT, ifLeF, ifLtT, ifLtF, ifEqT, ifEqF, ifNeT, ifNeF, ifIn, nixZ, ii_i64, o0, o1, isInT, isInF, tn14, tn12, tn2, tn21, tn47, tn48, tn49, tn471, tn472, Int.reduceToNat, Int.toNat_natCast, Int.reduceAdd, Int.reduceSub, Int.reduceMul, Int.reduceNeg, Nat.reduceAdd, Nat.reduceSub, Nat.reduceMul, R_stuck_L31, R_stuck_L31_b, e0, R_where R D V W hf]
        exact ⟨true, rfl, by simp [q]⟩
    · have e0 : bI true = ii 1 := rfl
      simp (disch := omega) only [Option.bind_some, if_true, if_false, not_true_eq_false, not_false_eq_true, z0, ii_add, ii_sub, ii_mul, ifLeT, ifLeF, ifLtT, ifLtF, ifEqT, ifEqF, ifNeT, ifNeF, ifIn, nixZ, ii_i64, o0, o1, isInT, isInF, tn14, tn12, tn2, tn21, tn47, tn48, tn49, tn471, tn472, Int.reduceToNat, Int.toNat_natCast, Int.reduceAdd, Int.reduceSub, Int.reduceMul, Int.reduceNeg, Nat.reduceAdd, Nat.reduceSub, Nat.reduceMul, R_stuck_L31, R_stuck_L31_b, e0]
      exact ⟨true, rfl, by simp⟩
theorem free_go (W : HW hd) (V : DW hd d) {f : Nat} (hf : (f : Int) < hd 7) : (besM hd (vI (d (2 * f))) &&& freM hd (d (13 - (fkM hd f 5).toNat)) = ii 0) ↔ canM hd d f 4 = false := by
  have hw := W.1
  have hcl := W.cells
  have hc30 : hd 0 * hd 1 ≤ 30 := hcl.2
  have hcm : cellsM hd = hd 0 * hd 1 := rfl
  have key : ∀ way : Int, 0 ≤ way → way ≤ 3 → (goM hd d f way = -1 ↔ ∀ i : Nat, i < 32 → nb (hd 0) (hd 1) (vI (d (2 * f))) way = i → tb (freM hd (d (13 - (fkM hd f 5).toNat))) i = false) := by
    intro way y0 y1
    unfold goM
    rw [if_pos ⟨y0, y1⟩]
    by_cases q : nb (hd 0) (hd 1) (vI (d (2 * f))) way = -1
    · rw [if_pos q]
      exact ⟨fun _ i _ e => by omega, fun _ => rfl⟩
    · rw [if_neg q]
      have hn := nb_in (by omega) q
      obtain ⟨u, hu⟩ := Int.eq_ofNat_of_zero_le hn.1
      rw [hu, Int.toNat_natCast]
      by_cases t : tb (d (13 - (fkM hd f 5).toNat)) u = true
      · rw [if_pos t]
        refine ⟨fun _ i hi e => ?_, fun _ => rfl⟩
        have : i = u := by omega
        subst this
        rw [fre_tb (Or.inr W) _ hi, t]; simp
      · rw [if_neg t]
        refine ⟨fun z => by omega, fun z => ?_⟩
        have := z u (by omega) rfl
        rw [fre_tb (Or.inr W) _ (by omega)] at this
        simp only [Bool.and_eq_false_iff, decide_eq_false_iff_not, Bool.not_eq_false'] at this
        rcases this with z | z
        · omega
        · exact absurd z t
  have ez : (besM hd (vI (d (2 * f))) &&& freM hd (d (13 - (fkM hd f 5).toNat)) = ii 0) ↔ ∀ i : Nat, i < 32 → (tb (besM hd (vI (d (2 * f)))) i && tb (freM hd (d (13 - (fkM hd f 5).toNat))) i) = false := by
    constructor
    · intro z i _
      rw [← tb_and, z, tb_0]
    · intro z
      apply tb_ext
      intro i hi
      rw [tb_and, z i hi, tb_0]
  have ec : canM hd d f 4 = false ↔ goM hd d f 0 = -1 ∧ goM hd d f 1 = -1 ∧ goM hd d f 2 = -1 ∧ goM hd d f 3 = -1 := by
    show ((((false || decide (goM hd d f 0 ≠ -1)) || decide (goM hd d f 1 ≠ -1)) || decide (goM hd d f 2 ≠ -1)) || decide (goM hd d f 3 ≠ -1)) = false ↔ _
    simp only [Bool.false_or, Bool.or_eq_false_iff, decide_eq_false_iff_not, ne_eq, Decidable.not_not, and_assoc]
  rw [ez, ec, key 0 (by omega) (by omega), key 1 (by omega) (by omega), key 2 (by omega) (by omega), key 3 (by omega) (by omega)]
  constructor
  · intro z
    refine ⟨fun i hi e => ?_, fun i hi e => ?_, fun i hi e => ?_, fun i hi e => ?_⟩ <;>
    · have := z i hi
      rw [bes_tb W] at this
      simpa [e] using this
  · rintro ⟨z1, z2, z3, z4⟩ i hi
    rw [bes_tb W]
    by_cases e1 : nb (hd 0) (hd 1) (vI (d (2 * f))) 0 = i
    · rw [z1 i hi e1, Bool.and_false]
    · by_cases e2 : nb (hd 0) (hd 1) (vI (d (2 * f))) 1 = i
      · rw [z2 i hi e2, Bool.and_false]
      · by_cases e3 : nb (hd 0) (hd 1) (vI (d (2 * f))) 2 = i
        · rw [z3 i hi e3, Bool.and_false]
        · by_cases e4 : nb (hd 0) (hd 1) (vI (d (2 * f))) 3 = i
          · rw [z4 i hi e4, Bool.and_false]
          · simp [e1, e2, e3, e4]
theorem C_free (E : h.2.2 0 13 = o) (C : CH hd o h) (M : MR hd d wr (mvO h 13)) {gu : Int} (hg : gu = 0 ∨ gu = 1) : f_HF_freeOf (ii gu) h = some (freM hd (d (13 - gu.toNat))) := C_freeOf E C M hg
theorem q_stuck (X : RX hd d o wr h (wI g 80 0 (ii 0))) : ∃ x, f_HF_stuck h = some x ∧ f_R_stuck g = some (x, wI g 80 0 (ii 0)) := by
  obtain ⟨E, C, M, R, D, W, V⟩ := X
  have hc := W.cells
  unfold f_R_stuck f_HF_stuck
  generalize wI g 80 0 (ii 0) = g at *
  by_cases q : cellsM hd = 0
  · simp (disch := omega) only [Option.bind_some, if_true, if_false, not_true_eq_false, not_false_eq_true, z0, ii_add, ii_sub, ii_mul, ifLeT, ifLeF, ifLtT, ifLtF, ifEqT, ifEqF, ifNeT, ifNeF, ifIn, nixZ, ii_i64, o0, o1, isInT, isInF, tn14, tn12, tn2, tn21, tn47, tn48, tn49, tn471, tn472, Int.reduceToNat, Int.toNat_natCast, Int.reduceAdd, Int.reduceSub, Int.reduceMul, Int.reduceNeg, Nat.reduceAdd, Nat.reduceSub, Nat.reduceMul, C_hhF E C, R.2.2.2.2.2.1]
    exact ⟨_, rfl, rfl⟩
  · have HWd := W.hw (c := 0) (by omega) (by omega)
    have hw := HWd.1
    simp (disch := omega) only [Option.bind_some, if_true, if_false, not_true_eq_false, not_false_eq_true, z0, ii_add, ii_sub, ii_mul, ifLeT, ifLeF, ifLtT, ifLtF, ifEqT, ifEqF, ifNeT, ifNeF, ifIn, nixZ, ii_i64, o0, o1, isInT, isInF, tn14, tn12, tn2, tn21, tn47, tn48, tn49, tn471, tn472, Int.reduceToNat, Int.toNat_natCast, Int.reduceAdd, Int.reduceSub, Int.reduceMul, Int.reduceNeg, Nat.reduceAdd, Nat.reduceSub, Nat.reduceMul, C_hhT E C W, R.2.2.2.2.2.1]
    refine lrel (fun n k (a : Int32) => HF_stuck_L13 n a (ii k) h) (fun n k (b : Int32) => R_stuck_L18 n b (ii k) g) (hd 7).toNat (fun k a b => a = b) (fun x y => ∃ z, x = some z ∧ y = some (z, g)) ?_ ?_ (hd 7).toNat 0 FU FU (ii 0) (ii 0) (by omega) (by unfold FU; omega) (by unfold FU; omega) rfl
    · rintro n m a b r1
      subst r1
      simp (disch := omega) only [Option.bind_some, if_true, if_false, not_true_eq_false, not_false_eq_true, z0, ii_add, ii_sub, ii_mul, ifLeT, ifLeF, ifLtT, ifLtF, ifEqT, ifEqF, ifNeT, ifNeF, ifIn, nixZ, ii_i64, o0, o1, isInT, isInF, tn14, tn12, tn2, tn21, tn47, tn48, tn49, tn471, tn472, Int.reduceToNat, Int.toNat_natCast, Int.reduceAdd, Int.reduceSub, Int.reduceMul, Int.reduceNeg, Nat.reduceAdd, Nat.reduceSub, Nat.reduceMul, HF_stuck_L13, HF_stuck_L13_b, R_stuck_L18, R_stuck_L18_b, E, C.2.2.2.2.2.1, R.2.2.2.2.1]
      exact ⟨_, rfl, rfl⟩
    · rintro n m k a b hk r1
      subst r1
      right
      have hkf : (k : Int) < hd 7 := by omega
      have hp := V.plc W hkf
      have ep := C_placeOf M HWd hkf
      rw [vI_ii (d (2 * k))] at ep
      have hfk := HWd.2.2.2.2 k hkf
      have hg5 : fkM hd k 5 = 0 ∨ fkM hd k 5 = 1 := by omega
      have fg := free_go HWd V hkf
      cases hcan : canM hd d k 4
      · have hz := fg.mpr hcan
        have e0 : bI false = ii 0 := rfl
        simp (disch := omega) only [Option.bind_some, if_true, if_false, not_true_eq_false, not_false_eq_true, z0, ii_add, ii_sub, ii_mul, ifLeT, ifLeF, ifLtT, ifLtF, ifEqT, ifEqF, ifNeT, ifNeF, ifIn, nixZ, ii_i64, o0, o1, isInT, isInF, tn14, tn12, tn2, tn21, tn47, tn48, tn49, tn471, tn472, Int.reduceToNat, Int.toNat_natCast, Int.reduceAdd, Int.reduceSub, Int.reduceMul, Int.reduceNeg, Nat.reduceAdd, Nat.reduceSub, Nat.reduceMul, HF_stuck_L13, HF_stuck_L13_b, R_stuck_L18, R_stuck_L18_b, E, C.2.2.2.2.2.1, R.2.2.2.2.1, C_t5 C HWd hkf, C_free E C M hg5, ep, C_besideOf C HWd, hz, R_can R D V HWd hkf, hcan, e0]
        exact ⟨_, _, rfl, rfl, rfl⟩
      · have hz : ¬ (besM hd (vI (d (2 * k))) &&& freM hd (d (13 - (fkM hd k 5).toNat)) = ii 0) := fun z => by rw [fg.mp z] at hcan; exact absurd hcan (by decide)
        have e0 : bI true = ii 1 := rfl
        simp (disch := omega) only [Option.bind_some, if_true, if_false, not_true_eq_false, not_false_eq_true, z0, ii_add, ii_sub, ii_mul, ifLeT, ifLeF, ifLtT, ifLtF, ifEqT, ifEqF, ifNeT, ifNeF, ifIn, nixZ, ii_i64, o0, o1, isInT, isInF, tn14, tn12, tn2, tn21, tn47, tn48, tn49, tn471, tn472, Int.reduceToNat, Int.toNat_natCast, Int.reduceAdd, Int.reduceSub, Int.reduceMul, Int.reduceNeg, Nat.reduceAdd, Nat.reduceSub, Nat.reduceMul, HF_stuck_L13, HF_stuck_L13_b, R_stuck_L18, R_stuck_L18_b, E, C.2.2.2.2.2.1, R.2.2.2.2.1, C_t5 C HWd hkf, C_free E C M hg5, ep, C_besideOf C HWd, hz, R_can R D V HWd hkf, hcan, e0, or_0]
        exact ⟨_, _, rfl, rfl, rfl⟩
/-! reach -/
def basM (hd : Nat → Int) (v : Int32) : Nat → Int32
  | 0 => ii 0
  | k + 1 => if tb v k then basM hd v k ||| besM hd k else basM hd v k
/-- the free cells beside one, by the first n ways -/
def frbM (hd : Nat → Int) (t : Int32) (c : Int) : Nat → Int32
  | 0 => ii 0
  | w + 1 => if nb (hd 0) (hd 1) c w = -1 then frbM hd t c w else if inS t (nb (hd 0) (hd 1) c w) then frbM hd t c w else frbM hd t c w ||| bitI (nb (hd 0) (hd 1) c w)
def ralM (hd : Nat → Int) (t v : Int32) : Nat → Int32
  | 0 => ii 0
  | k + 1 => if tb v k then ralM hd t v k ||| frbM hd t k 4 else ralM hd t v k
theorem C_besAll (C : CH hd o h) (W : HW hd) (v : Int32) : f_Heath_besideAll o v h = some (basM hd v (cellsM hd).toNat) := by
  have hcl := W.cells
  unfold f_Heath_besideAll
  refine lup (fun n k (a : Int32) => Heath_besideAll_L4 n o v a (ii k) h) (cellsM hd).toNat (fun k a => a = basM hd v k) (fun y => y = some (basM hd v (cellsM hd).toNat)) ?_ ?_ (cellsM hd).toNat 0 FU (ii 0) (by omega) (by unfold FU; omega) rfl
  · rintro n b r
    subst r
    simp (disch := omega) only [Option.bind_some, if_true, if_false, not_true_eq_false, not_false_eq_true, z0, ii_add, ii_sub, ii_mul, ifLeT, ifLeF, ifLtT, ifLtF, ifEqT, ifEqF, ifNeT, ifNeF, ifIn, nixZ, ii_i64, o0, o1, isInT, isInF, tn14, tn12, tn2, tn21, tn47, tn48, tn49, tn471, tn472, Int.reduceToNat, Int.toNat_natCast, Int.reduceAdd, Int.reduceSub, Int.reduceMul, Int.reduceNeg, Nat.reduceAdd, Nat.reduceSub, Nat.reduceMul, Heath_besideAll_L4, Heath_besideAll_L4_b, C.2.2.2.2.1]
  · rintro n k b hk r
    subst r
    right
    have et : basM hd v (k + 1) = if tb v k then basM hd v k ||| besM hd k else basM hd v k := rfl
    have eh := C_holds v (n := k) (by omega)
    rw [et]
    by_cases t : tb v k = true
    · rw [if_pos t] at eh ⊢
      simp (disch := omega) only [Option.bind_some, if_true, if_false, not_true_eq_false, not_false_eq_true, z0, ii_add, ii_sub, ii_mul, ifLeT, ifLeF, ifLtT, ifLtF, ifEqT, ifEqF, ifNeT, ifNeF, ifIn, nixZ, ii_i64, o0, o1, isInT, isInF, tn14, tn12, tn2, tn21, tn47, tn48, tn49, tn471, tn472, Int.reduceToNat, Int.toNat_natCast, Int.reduceAdd, Int.reduceSub, Int.reduceMul, Int.reduceNeg, Nat.reduceAdd, Nat.reduceSub, Nat.reduceMul, Heath_besideAll_L4, Heath_besideAll_L4_b, C.2.2.2.2.1, eh, C_besideOf C W]
      exact ⟨_, rfl, rfl⟩
    · rw [if_neg t] at eh ⊢
      simp (disch := omega) only [Option.bind_some, if_true, if_false, not_true_eq_false, not_false_eq_true, z0, ii_add, ii_sub, ii_mul, ifLeT, ifLeF, ifLtT, ifLtF, ifEqT, ifEqF, ifNeT, ifNeF, ifIn, nixZ, ii_i64, o0, o1, isInT, isInF, tn14, tn12, tn2, tn21, tn47, tn48, tn49, tn471, tn472, Int.reduceToNat, Int.toNat_natCast, Int.reduceAdd, Int.reduceSub, Int.reduceMul, Int.reduceNeg, Nat.reduceAdd, Nat.reduceSub, Nat.reduceMul, Heath_besideAll_L4, Heath_besideAll_L4_b, C.2.2.2.2.1, eh]
      exact ⟨_, rfl, rfl⟩
theorem R_frb (R : RH hd g) (D : RDy d g 97) (W : HW hd) {f c : Nat} (hf : (f : Int) < hd 7) (hc : (c : Int) < cellsM hd) {v v5 x y : Int32} (t : tb v c = true) : R_reach_L65 FU (ii f) x v y v5 (ii c) (ii 0) g = some (v5 ||| frbM hd (d (13 - (fkM hd f 5).toNat)) c 4) := by
  have hcl := W.cells
  have hw := W.1
  have hfk := W.2.2.2.2 f hf
  have eh := R_has v (n := c) (by omega)
  rw [if_pos t] at eh
  refine lup (fun n k (a : Int32) => R_reach_L65 n (ii f) x v y a (ii c) (ii k) g) 4 (fun k a => a = v5 ||| frbM hd (d (13 - (fkM hd f 5).toNat)) c k) (fun y => y = some (v5 ||| frbM hd (d (13 - (fkM hd f 5).toNat)) c 4)) ?_ ?_ 4 0 FU v5 (by omega) (by unfold FU; omega) (or_0 v5).symm
  · rintro n b r
    subst r
    simp (disch := omega) only [Option.bind_some, if_true, if_false, not_true_eq_false, not_false_eq_true, z0, ii_add, ii_sub, ii_mul, ifLeT, ifLeF, ifLtT, ifLtF, ifEqT, ifEqF, ifNeT, ifNeF, ifIn, nixZ, ii_i64, o0, o1, isInT, isInF, tn14, tn12, tn2, tn21, tn47, tn48, tn49, tn471, tn472, Int.reduceToNat, Int.toNat_natCast, Int.reduceAdd, Int.reduceSub, Int.reduceMul, Int.reduceNeg, Nat.reduceAdd, Nat.reduceSub, Nat.reduceMul, R_reach_L65, R_reach_L65_b, Int.cast_ofNat_Int]
  · rintro n k b hk r
    subst r
    right
    have et : frbM hd (d (13 - (fkM hd f 5).toNat)) c (k + 1) = if nb (hd 0) (hd 1) c k = -1 then frbM hd (d (13 - (fkM hd f 5).toNat)) c k else if inS (d (13 - (fkM hd f 5).toNat)) (nb (hd 0) (hd 1) c k) then frbM hd (d (13 - (fkM hd f 5).toNat)) c k else frbM hd (d (13 - (fkM hd f 5).toNat)) c k ||| bitI (nb (hd 0) (hd 1) c k) := rfl
    rw [et]
    by_cases q : nb (hd 0) (hd 1) c k = -1
    · rw [if_pos q]
      simp (disch := omega) only [Option.bind_some, if_true, if_false, not_true_eq_false, not_false_eq_true, z0, ii_add, ii_sub, ii_mul, ifLeT, ifLeF, ifLtT, ifLtF, ifEqT, ifEqF, ifNeT, ifNeF, ifIn, nixZ, ii_i64, o0, o1, isInT, isInF, tn14, tn12, tn2, tn21, tn47, tn48, tn49, tn471, tn472, Int.reduceToNat, Int.toNat_natCast, Int.reduceAdd, Int.reduceSub, Int.reduceMul, Int.reduceNeg, Nat.reduceAdd, Nat.reduceSub, Nat.reduceMul, R_reach_L65, R_reach_L65_b, eh, R_stepTo R W, q]
      exact ⟨_, rfl, rfl⟩
    · rw [if_neg q]
      have hn := nb_in (by omega) q
      have hn2 : nb (hd 0) (hd 1) c k < cellsM hd := hn.2
      have est := R_stepTo R W (c := (c : Int)) (way := (k : Int)) (by omega) hc (by omega) (by omega)
      obtain ⟨u, hu⟩ := Int.eq_ofNat_of_zero_le hn.1
      rw [hu] at hn2 est ⊢
      have ei : inS (d (13 - (fkM hd f 5).toNat)) (u : Int) = tb (d (13 - (fkM hd f 5).toNat)) u := rfl
      have eh2 := R_has (d (13 - (fkM hd f 5).toNat)) (n := u) (by omega)
      have hg : (13 - fkM hd f 5).toNat = 13 - (fkM hd f 5).toNat := by omega
      have e13 := D (13 - (fkM hd f 5).toNat) (by omega)
      rw [ei]
      by_cases tt : tb (d (13 - (fkM hd f 5).toNat)) u = true
      · rw [if_pos tt] at eh2 ⊢
        simp (disch := omega) only [Option.bind_some, if_true, if_false, not_true_eq_false, not_false_eq_true, z0, ii_add, ii_sub, ii_mul, ifLeT, ifLeF, ifLtT, ifLtF, ifEqT, ifEqF, ifNeT, ifNeF, ifIn, nixZ, ii_i64, o0, o1, isInT, isInF, tn14, tn12, tn2, tn21, tn47, tn48, tn49, tn471, tn472, Int.reduceToNat, Int.toNat_natCast, Int.reduceAdd, Int.reduceSub, Int.reduceMul, Int.reduceNeg, Nat.reduceAdd, Nat.reduceSub, Nat.reduceMul, R_reach_L65, R_reach_L65_b, eh, est, R_t5 R, hg, e13, eh2]
        exact ⟨_, rfl, rfl⟩
      · rw [if_neg tt] at eh2 ⊢
        simp (disch := omega) only [Option.bind_some, if_true, if_false, not_true_eq_false, not_false_eq_true, z0, ii_add, ii_sub, ii_mul, ifLeT, ifLeF, ifLtT, ifLtF, ifEqT, ifEqF, ifNeT, ifNeF, ifIn, nixZ, ii_i64, o0, o1, isInT, isInF, tn14, tn12, tn2, tn21, tn47, tn48, tn49, tn471, tn472, Int.reduceToNat, Int.toNat_natCast, Int.reduceAdd, Int.reduceSub, Int.reduceMul, Int.reduceNeg, Nat.reduceAdd, Nat.reduceSub, Nat.reduceMul, R_reach_L65, R_reach_L65_b, eh, est, R_t5 R, hg, e13, eh2]
        exact ⟨_, rfl, by rw [or_as]; rfl⟩
theorem R_frb0 {f c : Nat} (hc : c < 32) {v v5 x y : Int32} (t : ¬ tb v c = true) : R_reach_L65 FU (ii f) x v y v5 (ii c) (ii 0) g = some v5 := by
  have eh := R_has v (n := c) hc
  rw [if_neg t] at eh
  obtain ⟨N, hN⟩ : ∃ N, FU = N + 1 := ⟨99999, rfl⟩
  rw [hN]
  simp (disch := omega) only [Option.bind_some, if_true, if_false, not_true_eq_false, not_false_eq_true, z0, ii_add, ii_sub, ii_mul, ifLeT, ifLeF, ifLtT, ifLtF, ifEqT, ifEqF, ifNeT, ifNeF, ifIn, nixZ, ii_i64, o0, o1, isInT, isInF, tn14, tn12, tn2, tn21, tn47, tn48, tn49, tn471, tn472, Int.reduceToNat, Int.toNat_natCast, Int.reduceAdd, Int.reduceSub, Int.reduceMul, Int.reduceNeg, Nat.reduceAdd, Nat.reduceSub, Nat.reduceMul, R_reach_L65, R_reach_L65_b, eh]
theorem R_ral (R : RH hd g) (D : RDy d g 97) (W : HW hd) {f : Nat} (hf : (f : Int) < hd 7) {v x y : Int32} : R_reach_L53 FU (ii f) x v y v (ii 0) g = some (v ||| ralM hd (d (13 - (fkM hd f 5).toNat)) v (cellsM hd).toNat) := by
  have hcl := W.cells
  refine lup (fun n k (a : Int32) => R_reach_L53 n (ii f) x v y a (ii k) g) (cellsM hd).toNat (fun k a => a = v ||| ralM hd (d (13 - (fkM hd f 5).toNat)) v k) (fun y => y = some (v ||| ralM hd (d (13 - (fkM hd f 5).toNat)) v (cellsM hd).toNat)) ?_ ?_ (cellsM hd).toNat 0 FU v (by omega) (by unfold FU; omega) (or_0 v).symm
  · rintro n b r
    subst r
    simp (disch := omega) only [Option.bind_some, if_true, if_false, not_true_eq_false, not_false_eq_true, z0, ii_add, ii_sub, ii_mul, ifLeT, ifLeF, ifLtT, ifLtF, ifEqT, ifEqF, ifNeT, ifNeF, ifIn, nixZ, ii_i64, o0, o1, isInT, isInF, tn14, tn12, tn2, tn21, tn47, tn48, tn49, tn471, tn472, Int.reduceToNat, Int.toNat_natCast, Int.reduceAdd, Int.reduceSub, Int.reduceMul, Int.reduceNeg, Nat.reduceAdd, Nat.reduceSub, Nat.reduceMul, R_reach_L53, R_reach_L53_b, R.2.2.2.2.2.1]
  · rintro n k b hk r
    subst r
    right
    have et : ralM hd (d (13 - (fkM hd f 5).toNat)) v (k + 1) = if tb v k then ralM hd (d (13 - (fkM hd f 5).toNat)) v k ||| frbM hd (d (13 - (fkM hd f 5).toNat)) k 4 else ralM hd (d (13 - (fkM hd f 5).toNat)) v k := rfl
    rw [et]
    by_cases t : tb v k = true
    · rw [if_pos t]
      simp (disch := omega) only [Option.bind_some, if_true, if_false, not_true_eq_false, not_false_eq_true, z0, ii_add, ii_sub, ii_mul, ifLeT, ifLeF, ifLtT, ifLtF, ifEqT, ifEqF, ifNeT, ifNeF, ifIn, nixZ, ii_i64, o0, o1, isInT, isInF, tn14, tn12, tn2, tn21, tn47, tn48, tn49, tn471, tn472, Int.reduceToNat, Int.toNat_natCast, Int.reduceAdd, Int.reduceSub, Int.reduceMul, Int.reduceNeg, Nat.reduceAdd, Nat.reduceSub, Nat.reduceMul, R_reach_L53, R_reach_L53_b, R.2.2.2.2.2.1, R_frb R D W hf (c := k) (by omega) t]
      exact ⟨_, rfl, by rw [or_as]⟩
    · rw [if_neg t]
      simp (disch := omega) only [Option.bind_some, if_true, if_false, not_true_eq_false, not_false_eq_true, z0, ii_add, ii_sub, ii_mul, ifLeT, ifLeF, ifLtT, ifLtF, ifEqT, ifEqF, ifNeT, ifNeF, ifIn, nixZ, ii_i64, o0, o1, isInT, isInF, tn14, tn12, tn2, tn21, tn47, tn48, tn49, tn471, tn472, Int.reduceToNat, Int.toNat_natCast, Int.reduceAdd, Int.reduceSub, Int.reduceMul, Int.reduceNeg, Nat.reduceAdd, Nat.reduceSub, Nat.reduceMul, R_reach_L53, R_reach_L53_b, R.2.2.2.2.2.1, R_frb0 (f := f) (c := k) (show k < 32 by omega) t]
      exact ⟨_, rfl, rfl⟩
theorem frb_tb (W : HW hd) (t : Int32) (c : Int) (i : Nat) (hi : i < 32) : ∀ n : Nat, n ≤ 4 → tb (frbM hd t c n) i = (decide (∃ w : Nat, w < n ∧ nb (hd 0) (hd 1) c w = i) && !(tb t i)) := by
  have hw := W.1
  have h30 : hd 0 * hd 1 ≤ 30 := W.cells.2
  intro n
  induction n with
  | zero => intro _; unfold frbM; rw [tb_0]; simp
  | succ n ih =>
    intro hn
    have ih := ih (by omega)
    have et : frbM hd t c (n + 1) = if nb (hd 0) (hd 1) c n = -1 then frbM hd t c n else if inS t (nb (hd 0) (hd 1) c n) then frbM hd t c n else frbM hd t c n ||| bitI (nb (hd 0) (hd 1) c n) := rfl
    rw [et]
    have ex : (∃ w : Nat, w < n + 1 ∧ nb (hd 0) (hd 1) c w = i) ↔ (∃ w : Nat, w < n ∧ nb (hd 0) (hd 1) c w = i) ∨ nb (hd 0) (hd 1) c n = i := by
      constructor
      · rintro ⟨w, hw, e⟩
        by_cases q : w = n
        · right; rw [← q]; exact e
        · left; exact ⟨w, by omega, e⟩
      · rintro (⟨w, hw, e⟩ | e)
        · exact ⟨w, by omega, e⟩
        · exact ⟨n, by omega, e⟩
    rw [show decide (∃ w : Nat, w < n + 1 ∧ nb (hd 0) (hd 1) c w = i) = decide ((∃ w : Nat, w < n ∧ nb (hd 0) (hd 1) c w = i) ∨ nb (hd 0) (hd 1) c n = i) from decide_eq_decide.mpr ex]
    by_cases q : nb (hd 0) (hd 1) c n = -1
    · rw [if_pos q, ih]
      have : ¬ nb (hd 0) (hd 1) c n = i := by omega
      simp [this]
    · rw [if_neg q]
      have hn := nb_in (by omega) q
      by_cases ti : inS t (nb (hd 0) (hd 1) c n) = true
      · rw [if_pos ti, ih]
        by_cases e : nb (hd 0) (hd 1) c n = i
        · rw [e] at ti
          have : tb t i = true := ti
          simp [this]
        · simp [e]
      · rw [if_neg ti, tb_or, ih, bit_tb hn.1 (by omega)]
        by_cases e : nb (hd 0) (hd 1) c n = i
        · rw [e] at ti
          have : tb t i = false := by simpa [inS] using ti
          simp [this, e]
        · have : ¬ (i : Int) = nb (hd 0) (hd 1) c n := fun z => e z.symm
          simp [this, e]
theorem bes_fre (W : HW hd) (t : Int32) (c : Int) : besM hd c &&& freM hd t = frbM hd t c 4 := by
  have hw := W.1
  have h30 : hd 0 * hd 1 ≤ 30 := W.cells.2
  apply tb_ext
  intro i hi
  rw [tb_and, bes_tb W, fre_tb (Or.inr W) _ hi, frb_tb W t c i hi 4 (by omega)]
  have ex : (∃ w : Nat, w < 4 ∧ nb (hd 0) (hd 1) c w = i) ↔ nb (hd 0) (hd 1) c 0 = i ∨ nb (hd 0) (hd 1) c 1 = i ∨ nb (hd 0) (hd 1) c 2 = i ∨ nb (hd 0) (hd 1) c 3 = i := by
    constructor
    · rintro ⟨w, hw, e⟩
      rcases (show w = 0 ∨ w = 1 ∨ w = 2 ∨ w = 3 by omega) with q | q | q | q <;> subst q
      · exact Or.inl e
      · exact Or.inr (Or.inl e)
      · exact Or.inr (Or.inr (Or.inl e))
      · exact Or.inr (Or.inr (Or.inr e))
    · rintro (e | e | e | e)
      · exact ⟨0, by omega, e⟩
      · exact ⟨1, by omega, e⟩
      · exact ⟨2, by omega, e⟩
      · exact ⟨3, by omega, e⟩
  rw [show decide (∃ w : Nat, w < 4 ∧ nb (hd 0) (hd 1) c w = i) = decide (nb (hd 0) (hd 1) c 0 = i ∨ nb (hd 0) (hd 1) c 1 = i ∨ nb (hd 0) (hd 1) c 2 = i ∨ nb (hd 0) (hd 1) c 3 = i) from decide_eq_decide.mpr ex]
  have hin : ∀ way : Int, nb (hd 0) (hd 1) c way = i → (i : Int) < cellsM hd := by
    intro way e
    have := nb_in (hh := hd 1) (c := c) (way := way) (w := hd 0) (by omega) (by omega)
    rw [e] at this
    exact this.2
  by_cases e1 : nb (hd 0) (hd 1) c 0 = i
  · have := hin _ e1
    simp [e1, this]
  · by_cases e2 : nb (hd 0) (hd 1) c 1 = i
    · have := hin _ e2
      simp [e2, this]
    · by_cases e3 : nb (hd 0) (hd 1) c 2 = i
      · have := hin _ e3
        simp [e3, this]
      · by_cases e4 : nb (hd 0) (hd 1) c 3 = i
        · have := hin _ e4
          simp [e4, this]
        · simp [e1, e2, e3, e4]
theorem bas_ral (W : HW hd) (t v : Int32) : ∀ n : Nat, basM hd v n &&& freM hd t = ralM hd t v n
  | 0 => z_and _
  | n + 1 => by
    have ih := bas_ral W t v n
    unfold basM ralM
    by_cases q : tb v n = true
    · rw [if_pos q, if_pos q, and_or, ih, bes_fre W]
    · rw [if_neg q, if_neg q, ih]
theorem q_reach (X : RX hd d o wr h (wI g 80 0 (ii 0))) {f a : Int} (c0 : -2147483648 ≤ f) (c1 : f ≤ 2147483647) (a0 : -2147483648 ≤ a) (a1 : a ≤ 2147483647) : ∃ x, f_HF_reach (ii f) (ii a) h = some x ∧ f_R_reach (ii f) (ii a) g = some (x, wI g 80 0 (ii 0)) := by
  obtain ⟨E, C, M, R, D, W, V⟩ := X
  have hc := W.cells
  have hf := W.nf
  unfold f_R_reach f_HF_reach
  generalize wI g 80 0 (ii 0) = g at *
  rw [E, C_isFork C W c0 c1, R_isFork R W c0 c1]
  by_cases q : 0 ≤ f ∧ f < hd 7
  · rw [if_pos q]
    have HWd := W.hf q.1 q.2
    obtain ⟨u, rfl⟩ := Int.eq_ofNat_of_zero_le q.1
    by_cases q2 : 0 ≤ a ∧ a ≤ 9
    · obtain ⟨m, rfl⟩ := Int.eq_ofNat_of_zero_le q2.1
      have ep := D.i (j := 2 * u) (by omega)
      have ec := C_placeOf M HWd q.2
      rw [vI_ii (d (2 * u))] at ec
      have hfk := HWd.2.2.2.2 u q.2
      have hg5 : fkM hd u 5 = 0 ∨ fkM hd u 5 = 1 := by omega
      simp (disch := omega) only [Option.bind_some, if_true, if_false, not_true_eq_false, not_false_eq_true, z0, ii_add, ii_sub, ii_mul, ifLeT, ifLeF, ifLtT, ifLtF, ifEqT, ifEqF, ifNeT, ifNeF, ifIn, nixZ, ii_i64, o0, o1, isInT, isInF, tn14, tn12, tn2, tn21, tn47, tn48, tn49, tn471, tn472, Int.reduceToNat, Int.toNat_natCast, Int.reduceAdd, Int.reduceSub, Int.reduceMul, Int.reduceNeg, Nat.reduceAdd, Nat.reduceSub, Nat.reduceMul, ep, ec, C_t5 C HWd q.2, C_free E C M hg5]
      refine lrel (fun n k (a : Int32) => HF_reach_L53 n (ii m) (freM hd (d (13 - (fkM hd u 5).toNat))) a (ii k) h) (fun n k (b : Int32) => R_reach_L41 n (ii u) (ii m) b (ii k) g) m (fun k a b => a = b) (fun x y => ∃ z, x = some z ∧ y = some (z, g)) ?_ ?_ m 0 FU FU _ _ (by omega) (by unfold FU; omega) (by unfold FU; omega) rfl
      · rintro n m' a b r1
        subst r1
        simp (disch := omega) only [Option.bind_some, if_true, if_false, not_true_eq_false, not_false_eq_true, z0, ii_add, ii_sub, ii_mul, ifLeT, ifLeF, ifLtT, ifLtF, ifEqT, ifEqF, ifNeT, ifNeF, ifIn, nixZ, ii_i64, o0, o1, isInT, isInF, tn14, tn12, tn2, tn21, tn47, tn48, tn49, tn471, tn472, Int.reduceToNat, Int.toNat_natCast, Int.reduceAdd, Int.reduceSub, Int.reduceMul, Int.reduceNeg, Nat.reduceAdd, Nat.reduceSub, Nat.reduceMul, HF_reach_L53, HF_reach_L53_b, R_reach_L41, R_reach_L41_b]
        exact ⟨_, rfl, rfl⟩
      · rintro n m' k a b hk r1
        subst r1
        right
        simp (disch := omega) only [Option.bind_some, if_true, if_false, not_true_eq_false, not_false_eq_true, z0, ii_add, ii_sub, ii_mul, ifLeT, ifLeF, ifLtT, ifLtF, ifEqT, ifEqF, ifNeT, ifNeF, ifIn, nixZ, ii_i64, o0, o1, isInT, isInF, tn14, tn12, tn2, tn21, tn47, tn48, tn49, tn471, tn472, Int.reduceToNat, Int.toNat_natCast, Int.reduceAdd, Int.reduceSub, Int.reduceMul, Int.reduceNeg, Nat.reduceAdd, Nat.reduceSub, Nat.reduceMul, HF_reach_L53, HF_reach_L53_b, R_reach_L41, R_reach_L41_b, E, C_besAll C HWd, R_ral R D HWd q.2]
        exact ⟨_, _, rfl, rfl, by rw [bas_ral HWd]⟩
    · by_cases q3 : a < 0
      · simp (disch := omega) only [Option.bind_some, if_true, if_false, not_true_eq_false, not_false_eq_true, z0, ii_add, ii_sub, ii_mul, ifLeT, ifLeF, ifLtT, ifLtF, ifEqT, ifEqF, ifNeT, ifNeF, ifIn, nixZ, ii_i64, o0, o1, isInT, isInF, tn14, tn12, tn2, tn21, tn47, tn48, tn49, tn471, tn472, Int.reduceToNat, Int.toNat_natCast, Int.reduceAdd, Int.reduceSub, Int.reduceMul, Int.reduceNeg, Nat.reduceAdd, Nat.reduceSub, Nat.reduceMul]
        exact ⟨_, rfl, rfl⟩
      · simp (disch := omega) only [Option.bind_some, if_true, if_false, not_true_eq_false, not_false_eq_true, z0, ii_add, ii_sub, ii_mul, ifLeT, ifLeF, ifLtT, ifLtF, ifEqT, ifEqF, ifNeT, ifNeF, ifIn, nixZ, ii_i64, o0, o1, isInT, isInF, tn14, tn12, tn2, tn21, tn47, tn48, tn49, tn471, tn472, Int.reduceToNat, Int.toNat_natCast, Int.reduceAdd, Int.reduceSub, Int.reduceMul, Int.reduceNeg, Nat.reduceAdd, Nat.reduceSub, Nat.reduceMul]
        exact ⟨_, rfl, rfl⟩
  · rw [if_neg q]
    simp (disch := omega) only [Option.bind_some, if_true, if_false, not_true_eq_false, not_false_eq_true, z0, ii_add, ii_sub, ii_mul, ifLeT, ifLeF, ifLtT, ifLtF, ifEqT, ifEqF, ifNeT, ifNeF, ifIn, nixZ, ii_i64, o0, o1, isInT, isInF, tn14, tn12, tn2, tn21, tn47, tn48, tn49, tn471, tn472, Int.reduceToNat, Int.toNat_natCast, Int.reduceAdd, Int.reduceSub, Int.reduceMul, Int.reduceNeg, Nat.reduceAdd, Nat.reduceSub, Nat.reduceMul]
    exact ⟨_, rfl, rfl⟩
end Q8
