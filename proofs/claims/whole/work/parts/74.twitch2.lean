/-! twitches, both sides -/
def c99 (z : Int) : Int := if z < 0 then 0 else if 99 < z then 99 else z
theorem c99_lo (z : Int) : 0 ≤ c99 z ∧ c99 z ≤ 99 := by unfold c99; split; omega; split <;> omega
theorem C_w99 (v : Int32) : p_HF_within v.toInt64 (ii 0) (ii 99) = ii (c99 (vI v)) := by
  have hv := vI_lo v
  rw [vI_ii v, ii_vI rfl hv.1 hv.2]
  generalize vI v = x at *
  unfold p_HF_within c99
  rw [ii_i64 hv.1 hv.2, ii_i64 (by omega) (by omega), ii_i64 (by omega) (by omega)]
  by_cases q1 : x < 0
  · rw [if_pos q1, if_neg]
    intro z
    have := (lcmp_lt (x := x) (y := 0) (by omega) (by omega) (by omega) (by omega)).mpr q1
    revert z this
    generalize lg_cmp (Int64.ofInt x) (Int64.ofInt 0) = w
    intro z this
    exact absurd (Int32.lt_of_le_of_lt z this) Int32.lt_irrefl
  · rw [if_neg q1]
    have z1 : 0 ≤ lg_cmp (Int64.ofInt x) (Int64.ofInt 0) := by
      rw [lcmp_v (by omega) (by omega) (by omega) (by omega)]
      by_cases q : 0 < x
      · rw [if_pos q]; decide
      · rw [if_neg q, if_pos (by omega)]; decide
    rw [if_pos z1]
    by_cases q2 : 99 < x
    · rw [if_pos q2, if_neg]
      rw [lcmp_v (by omega) (by omega) (by omega) (by omega), if_pos q2]
      decide
    · rw [if_neg q2, if_pos]
      · exact Int64.toInt32_ofInt
      · rw [lcmp_v (by omega) (by omega) (by omega) (by omega), if_neg q2]
        by_cases q : x = 99
        · rw [if_pos q]; decide
        · rw [if_neg q]; decide
theorem R_w99 (v : Int32) : p_Math_max (ii 0) (p_Math_min (ii 99) v) = ii (c99 (vI v)) := by
  have hv := vI_lo v
  rw [vI_ii v, ii_vI rfl hv.1 hv.2]
  generalize vI v = x at *
  unfold p_Math_max p_Math_min c99
  by_cases q1 : x < 0
  · rw [if_pos q1]; simp (disch := omega) only [Option.bind_some, if_true, if_false, not_true_eq_false, not_false_eq_true, z0, ii_add, ii_sub, ii_mul, ifLeT, ifLeF, ifLtT, ifLtF, ifEqT, ifEqF, ifNeT, ifNeF, ifIn, nixZ, ii_i64, o0, o1, isInT, isInF, tn14, tn12, tn2, tn21, tn47, tn48, tn49, tn471, tn472, Int.reduceToNat, Int.toNat_natCast, Int.reduceAdd, Int.reduceSub, Int.reduceMul, Int.reduceNeg, Nat.reduceAdd, Nat.reduceSub, Nat.reduceMul]
  · rw [if_neg q1]
    by_cases q2 : 99 < x
    · rw [if_pos q2]; simp (disch := omega) only [Option.bind_some, if_true, if_false, not_true_eq_false, not_false_eq_true, z0, ii_add, ii_sub, ii_mul, ifLeT, ifLeF, ifLtT, ifLtF, ifEqT, ifEqF, ifNeT, ifNeF, ifIn, nixZ, ii_i64, o0, o1, isInT, isInF, tn14, tn12, tn2, tn21, tn47, tn48, tn49, tn471, tn472, Int.reduceToNat, Int.toNat_natCast, Int.reduceAdd, Int.reduceSub, Int.reduceMul, Int.reduceNeg, Nat.reduceAdd, Nat.reduceSub, Nat.reduceMul]
    · rw [if_neg q2]
      by_cases q3 : x = 99
      · simp (disch := omega) only [Option.bind_some, if_true, if_false, not_true_eq_false, not_false_eq_true, z0, ii_add, ii_sub, ii_mul, ifLeT, ifLeF, ifLtT, ifLtF, ifEqT, ifEqF, ifNeT, ifNeF, ifIn, nixZ, ii_i64, o0, o1, isInT, isInF, tn14, tn12, tn2, tn21, tn47, tn48, tn49, tn471, tn472, Int.reduceToNat, Int.toNat_natCast, Int.reduceAdd, Int.reduceSub, Int.reduceMul, Int.reduceNeg, Nat.reduceAdd, Nat.reduceSub, Nat.reduceMul, q3]
      · by_cases q4 : x = 0
        · simp (disch := omega) only [Option.bind_some, if_true, if_false, not_true_eq_false, not_false_eq_true, z0, ii_add, ii_sub, ii_mul, ifLeT, ifLeF, ifLtT, ifLtF, ifEqT, ifEqF, ifNeT, ifNeF, ifIn, nixZ, ii_i64, o0, o1, isInT, isInF, tn14, tn12, tn2, tn21, tn47, tn48, tn49, tn471, tn472, Int.reduceToNat, Int.toNat_natCast, Int.reduceAdd, Int.reduceSub, Int.reduceMul, Int.reduceNeg, Nat.reduceAdd, Nat.reduceSub, Nat.reduceMul, q4]
        · simp (disch := omega) only [Option.bind_some, if_true, if_false, not_true_eq_false, not_false_eq_true, z0, ii_add, ii_sub, ii_mul, ifLeT, ifLeF, ifLtT, ifLtF, ifEqT, ifEqF, ifNeT, ifNeF, ifIn, nixZ, ii_i64, o0, o1, isInT, isInF, tn14, tn12, tn2, tn21, tn47, tn48, tn49, tn471, tn472, Int.reduceToNat, Int.toNat_natCast, Int.reduceAdd, Int.reduceSub, Int.reduceMul, Int.reduceNeg, Nat.reduceAdd, Nat.reduceSub, Nat.reduceMul]
section TX
variable {hd : Nat → Int} {d : DY} {o wr p a : Nat} {h g : AH} {la : List (List Int)} {ho : Int}
/-- a twitch -/
def twX (hd : Nat → Int) (d : DY) (la : List (List Int)) (ho : Int) (f c : Nat) : Int := if ho = -1 then plM hd d f c else match pLaw (la.getD ho.toNat []) with
  | .inl _ => 0
  | .inr C => c99 (vI (wrthF (fun j => ii (ltM hd d f c j)) C false []))
theorem twX_lo (W : HW hd) {f : Nat} (hf : (f : Int) < hd 7) (c : Nat) : 0 ≤ twX hd d la ho f c ∧ twX hd d la ho f c ≤ 99 := by
  have := plM_lo W (d := d) hf c
  unfold twX
  split
  · omega
  · split
    · omega
    · exact c99_lo _
/-- what a twitch changes in the class -/
def WT (h h1 : AH) : Prop := (∀ x, x < 55 → x ≠ 12 → h1.1 x = h.1 x) ∧ CS h h1
theorem WT.rf (h : AH) : WT h h := ⟨fun _ _ _ => rfl, CS.rf h⟩
theorem C_twitch (E : h.2.2 0 13 = o) (C : CH hd o h) (ho' : o = 43 ∨ o = 49) (hp : p = 13 ∨ p = 25) (M : MR hd d wr (mvO h p)) (V : DW hd d) (W : HW hd) (CL : CLa la ho h) (hl4 : la.length ≤ 4) (h1 : -1 ≤ ho) (h2 : ho < la.length) {f c : Nat} (hf : (f : Int) < hd 7) (hc : (c : Int) < cellsM hd) : ∃ h1, f_HF_twitchIn p (ii f) (ii c) h = some (ii (twX hd d la ho f c), h1) ∧ WT h h1 := by
  obtain ⟨c1, c2, c3, c4, c5⟩ := CL
  unfold f_HF_twitchIn twX
  by_cases q : ho = -1
  · rw [if_pos q]
    simp (disch := omega) only [Option.bind_some, if_true, if_false, not_true_eq_false, not_false_eq_true, z0, ii_add, ii_sub, ii_mul, ifLeT, ifLeF, ifLtT, ifLtF, ifEqT, ifEqF, ifNeT, ifNeF, ifIn, nixZ, ii_i64, o0, o1, isInT, isInF, tn14, tn12, tn2, tn21, tn47, tn48, tn49, tn471, tn472, Int.reduceToNat, Int.toNat_natCast, Int.reduceAdd, Int.reduceSub, Int.reduceMul, Int.reduceNeg, Nat.reduceAdd, Nat.reduceSub, Nat.reduceMul, c2, C_plain E C M V W hf hc]
    exact ⟨_, rfl, WT.rf _⟩
  · rw [if_neg q]
    obtain ⟨n, rfl⟩ := Int.eq_ofNat_of_zero_le (show 0 ≤ ho by omega)
    obtain ⟨y, ey, Ay, Ly⟩ := C_tell E C ho' hp M V W hf hc
    have hlw := c3 n (by omega)
    have elw : lw h n = h.2.2 10 n := by unfold lw; rw [if_pos (by omega)]
    rw [elw] at hlw
    obtain ⟨Cd, d1, d2, d3, d4⟩ := c5 n (by omega)
    rw [elw] at d3 d4
    have e10 : y.2.2 10 n = h.2.2 10 n := by rw [Ay.2]
    obtain ⟨ol, hol⟩ : ∃ ol, ol = h.2.2 10 n := ⟨_, rfl⟩
    rw [← hol] at hlw d3 d4 e10
    have hol2 : 12 < ol ∧ ol ≠ 12 ∧ ol + 1 ≠ 12 ∧ 55 ≤ ol ∧ ol ≤ 67 := by
      simp only [List.mem_cons, List.not_mem_nil, or_false] at hlw; omega
    have e016 : y.1 0 16 = ii n := by rw [Ay.1 0 (by decide)]; exact c2
    obtain ⟨y', ey', Fy⟩ := C_worth (h := y) (o := ol) (L := fun j => ii (ltM hd d f c j)) d2 (ok_law d1) (by rw [Ay.1 ol (by simp; omega)]; exact d3) (fun j hj => by rw [Ay.1 (ol + 1) (by simp; omega)]; exact d4 j hj) (fun j hj => Ly j hj) (by omega)
    have e2n : y.2.2 10 (ii n).toNatClampNeg = ol := by rw [nix (z := (n : Int)) (j := n) rfl (by omega)]; exact e10
    have e10' : y.2.2 10 n = ol := e10
    simp (disch := omega) only [Option.bind_some, if_true, if_false, not_true_eq_false, not_false_eq_true, z0, ii_add, ii_sub, ii_mul, ifLeT, ifLeF, ifLtT, ifLtF, ifEqT, ifEqF, ifNeT, ifNeF, ifIn, nixZ, ii_i64, o0, o1, isInT, isInF, tn14, tn12, tn2, tn21, tn47, tn48, tn49, tn471, tn472, Int.reduceToNat, Int.toNat_natCast, Int.reduceAdd, Int.reduceSub, Int.reduceMul, Int.reduceNeg, Nat.reduceAdd, Nat.reduceSub, Nat.reduceMul, c2, ey, e016, e10', ey', Int.toNat_natCast]
    refine ⟨y', ?_, fun x hx hx2 => ?_, ?_, ?_⟩
    · rw [C_w99, d1]
    · rw [Fy.1 x (by omega) (by omega), Ay.1 x (by simpa using hx2)]
    · refine ⟨fun x hx hs => ?_, ?_, ?_, fun x hx => ?_, fun x hx => by rw [Fy.2.2, Ay.2]⟩
      · have n1 : x ≠ ol := by
          intro z; subst z
          simp only [List.mem_cons, List.not_mem_nil, or_false] at hlw
          rcases hlw with z | z | z | z | z <;> rw [z] at hs <;> exact absurd hs (by decide)
        have n2 : x ≠ ol + 2 := by
          intro z; subst z
          simp only [List.mem_cons, List.not_mem_nil, or_false] at hlw
          rcases hlw with z | z | z | z | z <;> rw [z] at hs <;> exact absurd hs (by decide)
        have n3 : x ≠ 12 := by intro z; subst z; exact absurd hs (by decide)
        rw [Fy.1 x n1 n2, Ay.1 x (by simpa using n3)]
      · rw [Fy.1 1 (by omega) (by omega), Ay.1 1 (by decide)]
      · rw [Fy.1 33 (by omega) (by omega), Ay.1 33 (by decide)]
      · have n3 : x ≠ 12 := by simp only [List.mem_cons, List.not_mem_nil, or_false] at hx; omega
        have n2 : x ≠ ol + 2 := by
          simp only [List.mem_cons, List.not_mem_nil, or_false] at hlw hx; omega
        by_cases e : x = ol
        · subst e; rw [Fy.2.1 2 (by decide), Ay.1 x (by simpa using n3)]
        · rw [Fy.1 x e n2, Ay.1 x (by simpa using n3)]
    · refine ⟨fun x hx => ?_, fun x hx => by rw [Fy.2.2, Ay.2], by rw [Fy.2.2, Ay.2]⟩
      rw [Fy.1 x (by omega) (by omega), Ay.1 x (by simp; omega)]
theorem RS.a84 {g1 : AH} (A : Ag [84] g g1) (hl : LR g → LR g1) : RS g g1 := by
  refine ⟨⟨hl, fun o ho => A.1 o ?_, fun j _ => by rw [A.1 95 (by decide)], fun j _ => by rw [A.1 96 (by decide)], fun j _ => by rw [A.1 80 (by decide)]⟩, KC.ag A (by decide)⟩
  intro z
  simp only [List.mem_cons, List.not_mem_nil, or_false] at z
  subst z; revert ho; decide
theorem R_plain (R : RH hd g) (D : RDy d g a) (V : DW hd d) (W : HW hd) {f c : Nat} (hf : (f : Int) < hd 7) (hc : (c : Int) < cellsM hd) : ∀ (T : Int32 → Int32 → Int32 → Int32 → Option (Int32 × AH)), (((f_R_depthOf (ii c) (g.1 a 45) g).bind fun q1 => (f_R_ironAt (ii c) g).bind fun q2 => (f_R_told (ii f) (ii 3) g).bind fun q3 => (if q1 = ii (-1) then some (ii 0) else (f_R_told (ii f) (ii 1) g).bind fun q4 => some (p_Math_max (ii 0) ((q4 - q1) + ii 1))).bind fun q5 => (if q2 = ii (-1) then some q5 else (f_R_told (ii f) (ii 2) g).bind fun q6 => if q6 < q2 then some q5 else some (p_Math_max q5 (ii 10))).bind fun q7 => T q1 q2 q3 q7)) = T (ii (watM hd c (vI (d 45)))) (ii (irM hd c)) (ii (fkM hd f 3)) (ii (pw2 hd d f c)) := by
  intro T
  have hcl := W.cells
  have hw := W.1
  have hs := V.sea
  have h1 := watM_lo W c (vI (d 45))
  have h2 := irM_lo W c
  have h4 := W.2.2.2.2 f hf
  have h5 := pw1_lo W (d := d) hf c
  rw [D.i (j := 45) (by omega), bind_eq (R_depthOf R W (c := c) (s := vI (d 45)) (by omega) (by omega) (by omega) (by omega)), bind_eq (R_ironAt R (Or.inr W) (c := c) (by omega) (by omega)), bind_eq (R_t3 R (f := f) (by omega))]
  have s1 : (if ii (watM hd c (vI (d 45))) = ii (-1) then some (ii 0) else (f_R_told (ii f) (ii 1) g).bind fun q4 => some (p_Math_max (ii 0) ((q4 - ii (watM hd c (vI (d 45)))) + ii 1))) = some (ii (pw1 hd d f c)) := by
    unfold pw1
    by_cases q : watM hd c (vI (d 45)) = -1
    · rw [if_pos q]; simp (disch := omega) only [Option.bind_some, if_true, if_false, not_true_eq_false, not_false_eq_true, z0, ii_add, ii_sub, ii_mul, ifLeT, ifLeF, ifLtT, ifLtF, ifEqT, ifEqF, ifNeT, ifNeF, ifIn, nixZ, ii_i64, o0, o1, isInT, isInF, tn14, tn12, tn2, tn21, tn47, tn48, tn49, tn471, tn472, Int.reduceToNat, Int.toNat_natCast, Int.reduceAdd, Int.reduceSub, Int.reduceMul, Int.reduceNeg, Nat.reduceAdd, Nat.reduceSub, Nat.reduceMul, q]
    · rw [if_neg q]; simp (disch := omega) only [Option.bind_some, if_true, if_false, not_true_eq_false, not_false_eq_true, z0, ii_add, ii_sub, ii_mul, ifLeT, ifLeF, ifLtT, ifLtF, ifEqT, ifEqF, ifNeT, ifNeF, ifIn, nixZ, ii_i64, o0, o1, isInT, isInF, tn14, tn12, tn2, tn21, tn47, tn48, tn49, tn471, tn472, Int.reduceToNat, Int.toNat_natCast, Int.reduceAdd, Int.reduceSub, Int.reduceMul, Int.reduceNeg, Nat.reduceAdd, Nat.reduceSub, Nat.reduceMul, R_t1 R, mx_ii]
  rw [bind_eq s1]
  have s2 : (if ii (irM hd c) = ii (-1) then some (ii (pw1 hd d f c)) else (f_R_told (ii f) (ii 2) g).bind fun q6 => if q6 < ii (irM hd c) then some (ii (pw1 hd d f c)) else some (p_Math_max (ii (pw1 hd d f c)) (ii 10))) = some (ii (pw2 hd d f c)) := by
    unfold pw2
    by_cases q : irM hd c = -1
    · rw [if_pos (Or.inl q)]; simp (disch := omega) only [Option.bind_some, if_true, if_false, not_true_eq_false, not_false_eq_true, z0, ii_add, ii_sub, ii_mul, ifLeT, ifLeF, ifLtT, ifLtF, ifEqT, ifEqF, ifNeT, ifNeF, ifIn, nixZ, ii_i64, o0, o1, isInT, isInF, tn14, tn12, tn2, tn21, tn47, tn48, tn49, tn471, tn472, Int.reduceToNat, Int.toNat_natCast, Int.reduceAdd, Int.reduceSub, Int.reduceMul, Int.reduceNeg, Nat.reduceAdd, Nat.reduceSub, Nat.reduceMul, q]
    · by_cases q2 : fkM hd f 2 < irM hd c
      · rw [if_pos (Or.inr q2)]; simp (disch := omega) only [Option.bind_some, if_true, if_false, not_true_eq_false, not_false_eq_true, z0, ii_add, ii_sub, ii_mul, ifLeT, ifLeF, ifLtT, ifLtF, ifEqT, ifEqF, ifNeT, ifNeF, ifIn, nixZ, ii_i64, o0, o1, isInT, isInF, tn14, tn12, tn2, tn21, tn47, tn48, tn49, tn471, tn472, Int.reduceToNat, Int.toNat_natCast, Int.reduceAdd, Int.reduceSub, Int.reduceMul, Int.reduceNeg, Nat.reduceAdd, Nat.reduceSub, Nat.reduceMul, R_t2 R]
      · rw [if_neg (show ¬ (irM hd c = -1 ∨ fkM hd f 2 < irM hd c) by omega)]; simp (disch := omega) only [Option.bind_some, if_true, if_false, not_true_eq_false, not_false_eq_true, z0, ii_add, ii_sub, ii_mul, ifLeT, ifLeF, ifLtT, ifLtF, ifEqT, ifEqF, ifNeT, ifNeF, ifIn, nixZ, ii_i64, o0, o1, isInT, isInF, tn14, tn12, tn2, tn21, tn47, tn48, tn49, tn471, tn472, Int.reduceToNat, Int.toNat_natCast, Int.reduceAdd, Int.reduceSub, Int.reduceMul, Int.reduceNeg, Nat.reduceAdd, Nat.reduceSub, Nat.reduceMul, R_t2 R, mx_ii]
  rw [bind_eq s2]
theorem R_twitch (R : RH hd g) (ha : a = 97 ∨ a = 98) (D : RDy d g a) (V : DW hd d) (W : HW hd) (RL : RLa la ho g) (LRg : LR g) (hl4 : la.length ≤ 4) (hok : ∀ x ∈ la, okB x) (hlw : ∀ x ∈ la, ∃ C, pLaw x = .inr C) (h1 : -1 ≤ ho) (h2 : ho < la.length) {f c : Nat} (hf : (f : Int) < hd 7) (hc : (c : Int) < cellsM hd) : ∃ g1, f_R_twitchOf 227 a (ii f) (ii c) g = some (ii (twX hd d la ho f c), g1) ∧ RS g g1 ∧ g1.2.1 = g.2.1 ∧ ∀ x, x ≠ 80 → x ≠ 84 → g1.1 x = g.1 x := by
  obtain ⟨r1, r2, r3⟩ := RL
  have hcl := W.cells
  have hw := W.1
  have hs := V.sea
  have h4 := W.2.2.2.2 f hf
  have hpl := plM_lo W (d := d) hf c
  have hp2 := pw2_lo W (d := d) hf c
  unfold f_R_twitchOf
  rw [if_pos (by decide), show (ii 45).toNatClampNeg = 45 from rfl, R_plain R D V W hf hc]
  unfold twX
  rw [r2]
  by_cases q : ho = -1
  · rw [if_pos q, if_pos (by rw [q])]
    have ev : (if (if ii (fkM hd f 3) = ii c then ii 1 else ii 0) = 0 then ii (pw2 hd d f c) else p_Math_max (ii (pw2 hd d f c)) (ii 5)) = ii (plM hd d f c) := by
      rw [plM_e]
      by_cases q2 : fkM hd f 3 = c
      · rw [if_pos q2]; simp (disch := omega) only [Option.bind_some, if_true, if_false, not_true_eq_false, not_false_eq_true, z0, ii_add, ii_sub, ii_mul, ifLeT, ifLeF, ifLtT, ifLtF, ifEqT, ifEqF, ifNeT, ifNeF, ifIn, nixZ, ii_i64, o0, o1, isInT, isInF, tn14, tn12, tn2, tn21, tn47, tn48, tn49, tn471, tn472, Int.reduceToNat, Int.toNat_natCast, Int.reduceAdd, Int.reduceSub, Int.reduceMul, Int.reduceNeg, Nat.reduceAdd, Nat.reduceSub, Nat.reduceMul, q2, mx_ii]
      · rw [if_neg q2]; simp (disch := omega) only [Option.bind_some, if_true, if_false, not_true_eq_false, not_false_eq_true, z0, ii_add, ii_sub, ii_mul, ifLeT, ifLeF, ifLtT, ifLtF, ifEqT, ifEqF, ifNeT, ifNeF, ifIn, nixZ, ii_i64, o0, o1, isInT, isInF, tn14, tn12, tn2, tn21, tn47, tn48, tn49, tn471, tn472, Int.reduceToNat, Int.toNat_natCast, Int.reduceAdd, Int.reduceSub, Int.reduceMul, Int.reduceNeg, Nat.reduceAdd, Nat.reduceSub, Nat.reduceMul]
    rw [ev, R_w99, ii_vI rfl (by omega) (by omega)]
    refine ⟨_, ?_, RS.rf _, rfl, fun _ _ _ => rfl⟩
    unfold c99
    rw [if_neg (by omega), if_neg (by omega)]
  · rw [if_neg q, if_neg (by rw [ii_eq (by omega) (by omega) (by omega) (by omega)]; exact q)]
    obtain ⟨n, rfl⟩ := Int.eq_ofNat_of_zero_le (show 0 ≤ ho by omega)
    have hlt := ltM_lo W V (c := c) hf
    have f0 : (if ii (watM hd c (vI (d 45))) = ii (-1) then ii 99 else ii (watM hd c (vI (d 45)))) = ii (ltM hd d f c 0) := by
      have := watM_lo W c (vI (d 45))
      show _ = ii (if watM hd c (vI (d 45)) = -1 then 99 else watM hd c (vI (d 45)))
      by_cases q : watM hd c (vI (d 45)) = -1
      · rw [if_pos q]; simp (disch := omega) only [Option.bind_some, if_true, if_false, not_true_eq_false, not_false_eq_true, z0, ii_add, ii_sub, ii_mul, ifLeT, ifLeF, ifLtT, ifLtF, ifEqT, ifEqF, ifNeT, ifNeF, ifIn, nixZ, ii_i64, o0, o1, isInT, isInF, tn14, tn12, tn2, tn21, tn47, tn48, tn49, tn471, tn472, Int.reduceToNat, Int.toNat_natCast, Int.reduceAdd, Int.reduceSub, Int.reduceMul, Int.reduceNeg, Nat.reduceAdd, Nat.reduceSub, Nat.reduceMul, q]
      · rw [if_neg q]; simp (disch := omega) only [Option.bind_some, if_true, if_false, not_true_eq_false, not_false_eq_true, z0, ii_add, ii_sub, ii_mul, ifLeT, ifLeF, ifLtT, ifLtF, ifEqT, ifEqF, ifNeT, ifNeF, ifIn, nixZ, ii_i64, o0, o1, isInT, isInF, tn14, tn12, tn2, tn21, tn47, tn48, tn49, tn471, tn472, Int.reduceToNat, Int.toNat_natCast, Int.reduceAdd, Int.reduceSub, Int.reduceMul, Int.reduceNeg, Nat.reduceAdd, Nat.reduceSub, Nat.reduceMul]
    have f2 : (if ii (irM hd c) = ii (-1) then ii 99 else ii (irM hd c)) = ii (ltM hd d f c 2) := by
      have := irM_lo W c
      show _ = ii (if irM hd c = -1 then 99 else irM hd c)
      by_cases q : irM hd c = -1
      · rw [if_pos q]; simp (disch := omega) only [Option.bind_some, if_true, if_false, not_true_eq_false, not_false_eq_true, z0, ii_add, ii_sub, ii_mul, ifLeT, ifLeF, ifLtT, ifLtF, ifEqT, ifEqF, ifNeT, ifNeF, ifIn, nixZ, ii_i64, o0, o1, isInT, isInF, tn14, tn12, tn2, tn21, tn47, tn48, tn49, tn471, tn472, Int.reduceToNat, Int.toNat_natCast, Int.reduceAdd, Int.reduceSub, Int.reduceMul, Int.reduceNeg, Nat.reduceAdd, Nat.reduceSub, Nat.reduceMul, q]
      · rw [if_neg q]; simp (disch := omega) only [Option.bind_some, if_true, if_false, not_true_eq_false, not_false_eq_true, z0, ii_add, ii_sub, ii_mul, ifLeT, ifLeF, ifLtT, ifLtF, ifEqT, ifEqF, ifNeT, ifNeF, ifIn, nixZ, ii_i64, o0, o1, isInT, isInF, tn14, tn12, tn2, tn21, tn47, tn48, tn49, tn471, tn472, Int.reduceToNat, Int.toNat_natCast, Int.reduceAdd, Int.reduceSub, Int.reduceMul, Int.reduceNeg, Nat.reduceAdd, Nat.reduceSub, Nat.reduceMul]
    have f3 : (if (if ii (fkM hd f 3) = ii c then ii 1 else ii 0) = 0 then ii 0 else ii 1) = ii (ltM hd d f c 3) := by
      show _ = ii (if fkM hd f 3 = c then 1 else 0)
      by_cases q : fkM hd f 3 = c
      · rw [if_pos q]; simp (disch := omega) only [Option.bind_some, if_true, if_false, not_true_eq_false, not_false_eq_true, z0, ii_add, ii_sub, ii_mul, ifLeT, ifLeF, ifLtT, ifLtF, ifEqT, ifEqF, ifNeT, ifNeF, ifIn, nixZ, ii_i64, o0, o1, isInT, isInF, tn14, tn12, tn2, tn21, tn47, tn48, tn49, tn471, tn472, Int.reduceToNat, Int.toNat_natCast, Int.reduceAdd, Int.reduceSub, Int.reduceMul, Int.reduceNeg, Nat.reduceAdd, Nat.reduceSub, Nat.reduceMul, q]
      · rw [if_neg q]; simp (disch := omega) only [Option.bind_some, if_true, if_false, not_true_eq_false, not_false_eq_true, z0, ii_add, ii_sub, ii_mul, ifLeT, ifLeF, ifLtT, ifLtF, ifEqT, ifEqF, ifNeT, ifNeF, ifIn, nixZ, ii_i64, o0, o1, isInT, isInF, tn14, tn12, tn2, tn21, tn47, tn48, tn49, tn471, tn472, Int.reduceToNat, Int.toNat_natCast, Int.reduceAdd, Int.reduceSub, Int.reduceMul, Int.reduceNeg, Nat.reduceAdd, Nat.reduceSub, Nat.reduceMul]
    rw [f0, f2, f3]
    have A1 : ∀ v, Ag [84] g (wI g 84 100 v) := fun v => (Ag.rf _ _).pI (by decide)
    have na : a ≠ 84 := by rcases ha with e | e <;> omega
    rw [if_pos (by decide), show (ii 100).toNatClampNeg = 100 from rfl, bind_eq (R_t1 (R.ag (A1 _) (by decide)) (f := f) (by omega))]
    rw [if_pos (by decide), if_pos (by decide), if_pos (by decide), if_pos (by decide), if_pos (by decide), Option.bind_some]
    rw [show (ii 109).toNatClampNeg = 109 from rfl, show (ii 105).toNatClampNeg = 105 from rfl, show (ii 120).toNatClampNeg = 120 from rfl, show (ii 115).toNatClampNeg = 115 from rfl]
    have e45 : (wI (wI (wI (wI g 84 100 (ii (ltM hd d f c 0))) 84 109 (ii (fkM hd f 1))) 84 105 (ii (ltM hd d f c 2))) 84 120 (ii (ltM hd d f c 3))).1 a 45 = ii (vI (d 45)) := by
      rw [wI_ne na, wI_ne na, wI_ne na, wI_ne na]; exact D.i (by omega)
    rw [e45]
    obtain ⟨y, hy⟩ : ∃ y, y = wI (wI (wI (wI (wI g 84 100 (ii (ltM hd d f c 0))) 84 109 (ii (fkM hd f 1))) 84 105 (ii (ltM hd d f c 2))) 84 120 (ii (ltM hd d f c 3))) 84 115 (ii (vI (d 45))) := ⟨_, rfl⟩
    rw [← hy]
    have Ay : Ag [84] g y := by rw [hy]; exact ((((A1 _).pI (by decide)).pI (by decide)).pI (by decide)).pI (by decide)
    have ry : ∀ j, y.1 84 j = if j = 115 then ii (ltM hd d f c 4) else if j = 120 then ii (ltM hd d f c 3) else if j = 105 then ii (ltM hd d f c 2) else if j = 109 then ii (ltM hd d f c 1) else if j = 100 then ii (ltM hd d f c 0) else g.1 84 j := by
      intro j; rw [hy]; simp only [wI_self, upd]; rfl
    clear hy
    have Dy : RDy d y a := D.ag Ay (by simpa using na)
    have Ry := R.ag Ay (by decide)
    have hol := othM_lo W (d := d) f c
    -- the count
    have tail : ∀ N : Int, N = 1 + othM hd d f c → ∃ g1, (if inb (ii 111) 128 = true then if inb ((wI y 84 (ii 111).toNatClampNeg (ii N)).1 80 43) 4 = true then (f_R_goThrough 960 82 ((ii 240) * ((wI y 84 (ii 111).toNatClampNeg (ii N)).1 80 43)) ((wI y 84 (ii 111).toNatClampNeg (ii N)).1 83 ((wI y 84 (ii 111).toNatClampNeg (ii N)).1 80 43).toNatClampNeg) (wI y 84 (ii 111).toNatClampNeg (ii N))).bind fun q1 => some ((p_Math_max (ii 0) (p_Math_min (ii 99) (q1.1 80 14))), q1) else none else none) = some (ii (match pLaw (la.getD n []) with
          | .inl _ => 0
          | .inr C => c99 (vI (wrthF (fun j => ii (ltM hd d f c j)) C false []))), g1) ∧ RS g g1 ∧ g1.2.1 = g.2.1 ∧ ∀ x, x ≠ 80 → x ≠ 84 → g1.1 x = g.1 x := by
      intro N hN
      rw [show (ii 111).toNatClampNeg = 111 from rfl, if_pos (by decide)]
      obtain ⟨z, hz⟩ : ∃ z, z = wI y 84 111 (ii N) := ⟨_, rfl⟩
      rw [← hz]
      have Az : Ag [84] g z := by rw [hz]; exact Ay.pI (by decide)
      have rz : ∀ j, z.1 84 j = if j = 111 then ii (ltM hd d f c 5) else y.1 84 j := by
        intro j; rw [hz, wI_self, hN]; rfl
      clear hz
      have e43 : z.1 80 43 = ii n := by rw [Az.1 80 (by decide)]; exact r2
      have e83 : z.1 83 n = ii (la.getD n []).length := by rw [Az.1 83 (by decide)]; exact (r3 n (by omega)).1
      have hmem := getD_mem (l := la) (i := n) [] (by omega)
      have okb := hok _ hmem
      have hl := okb.1
      obtain ⟨Cd, hCd⟩ := hlw _ hmem
      have e240 : (240 * (n : Int)) = ((240 * n : Nat) : Int) := by omega
      have LTz : LTR z (fun j => ii (ltM hd d f c j)) := by
        refine ⟨⟨?_, ?_, ?_, ?_, ?_, ?_⟩, fun i hi => ⟨_, by have := hlt i; omega, by have := hlt i; omega, rfl⟩⟩
        · rw [rz]; exact (ry 100).symm
        · rw [rz]; exact (ry 109).symm
        · rw [rz]; exact (ry 105).symm
        · rw [rz]; exact (ry 120).symm
        · rw [rz]; exact (ry 115).symm
        · rw [rz]; rfl
      have lrz : LR g → LR z := by
        intro l j hj
        rw [rz]
        by_cases e1 : j = 111
        · rw [if_pos e1]; exact ⟨_, by have := hlt 5; omega, by have := hlt 5; omega, rfl⟩
        · rw [if_neg e1, ry]
          by_cases e2 : j = 115
          · rw [if_pos e2]; exact ⟨_, by have := hlt 4; omega, by have := hlt 4; omega, rfl⟩
          · rw [if_neg e2]
            by_cases e3 : j = 120
            · rw [if_pos e3]; exact ⟨_, by have := hlt 3; omega, by have := hlt 3; omega, rfl⟩
            · rw [if_neg e3]
              by_cases e4 : j = 105
              · rw [if_pos e4]; exact ⟨_, by have := hlt 2; omega, by have := hlt 2; omega, rfl⟩
              · rw [if_neg e4]
                by_cases e5 : j = 109
                · rw [if_pos e5]; exact ⟨_, by have := hlt 1; omega, by have := hlt 1; omega, rfl⟩
                · rw [if_neg e5]
                  by_cases e6 : j = 100
                  · rw [if_pos e6]; exact ⟨_, by have := hlt 0; omega, by have := hlt 0; omega, rfl⟩
                  · rw [if_neg e6]; exact l j hj
      obtain ⟨g', eg, Rg, Fg, Vg⟩ := G_go (bs := la.getD n []) (g := z) (T := 82) (b0 := 240 * n) (n1 := 960) (Or.inr rfl) okb (by rw [sh81.2]; omega) (fun j hj => by rw [Az.1 82 (by decide)]; exact (r3 n (by omega)).2 j hj) LTz
      rw [hCd] at Vg ⊢
      have eg' : f_R_goThrough 960 82 (ii (240 * (n : Int))) (ii (la.getD n []).length) z = some g' := by rw [e240]; exact eg
      simp (disch := omega) only [Option.bind_some, if_true, if_false, not_true_eq_false, not_false_eq_true, z0, ii_add, ii_sub, ii_mul, ifLeT, ifLeF, ifLtT, ifLtF, ifEqT, ifEqF, ifNeT, ifNeF, ifIn, nixZ, ii_i64, o0, o1, isInT, isInF, tn14, tn12, tn2, tn21, tn47, tn48, tn49, tn471, tn472, Int.reduceToNat, Int.toNat_natCast, Int.reduceAdd, Int.reduceSub, Int.reduceMul, Int.reduceNeg, Nat.reduceAdd, Nat.reduceSub, Nat.reduceMul, e43, e83, eg', Int.toNat_natCast]
      refine ⟨g', by rw [R_w99, Vg.2], (RS.a84 Az lrz).tr Rg, by rw [Fg.1, Az.2], fun x hx hx2 => by rw [Fg.2 x hx, Az.1 x (by simpa using hx2)]⟩
    have key := lup (fun m k (x : Int) => R_twitchOf_L196 m 227 a (ii f) (ii c) (ii x) (ii k) y) (hd 7).toNat (fun k x => x = 1 + sumN (othT d f c) k) (fun x => ∃ g1, x = some (ii (match pLaw (la.getD n []) with
          | .inl _ => 0
          | .inr C => c99 (vI (wrthF (fun j => ii (ltM hd d f c j)) C false []))), g1) ∧ RS g g1 ∧ g1.2.1 = g.2.1 ∧ ∀ x, x ≠ 80 → x ≠ 84 → g1.1 x = g.1 x) ?_ ?_ (hd 7).toNat 0 FU 1 (by omega) (by unfold FU; omega) rfl
    · exact key
    · rintro m x r
      have e33 := Ry.2.2.2.2.1
      show ∃ g1, R_twitchOf_L196_b (R_twitchOf_L196 m) 227 a (ii f) (ii c) (ii x) (ii ((hd 7).toNat : Nat)) y = _ ∧ _
      unfold R_twitchOf_L196_b
      rw [e33, if_pos (by rw [ii_le (by omega) (by omega) (by omega) (by omega)]; omega)]
      exact tail x r
    · rintro m k x hk r
      subst r
      right
      have hkf : (k : Int) < hd 7 := by omega
      have hp := V.plc (Or.inr W) hkf
      have ep := Dy.i (j := 2 * k) (by omega)
      have et : sumN (othT d f c) (k + 1) = sumN (othT d f c) k + (if k ≠ f ∧ vI (d (2 * k)) = c then 1 else 0) := rfl
      rw [et]
      by_cases q1 : k = f
      · rw [if_neg (fun z => z.1 q1)]
        simp (disch := omega) only [Option.bind_some, if_true, if_false, not_true_eq_false, not_false_eq_true, z0, ii_add, ii_sub, ii_mul, ifLeT, ifLeF, ifLtT, ifLtF, ifEqT, ifEqF, ifNeT, ifNeF, ifIn, nixZ, ii_i64, o0, o1, isInT, isInF, tn14, tn12, tn2, tn21, tn47, tn48, tn49, tn471, tn472, Int.reduceToNat, Int.toNat_natCast, Int.reduceAdd, Int.reduceSub, Int.reduceMul, Int.reduceNeg, Nat.reduceAdd, Nat.reduceSub, Nat.reduceMul, R_twitchOf_L196, R_twitchOf_L196_b, Ry.2.2.2.2.1]
        exact ⟨_, rfl, by omega⟩
      · by_cases q2 : vI (d (2 * k)) = c
        · rw [if_pos ⟨q1, q2⟩]
          simp (disch := omega) only [Option.bind_some, if_true, if_false, not_true_eq_false, not_false_eq_true, z0, ii_add, ii_sub, ii_mul, ifLeT, ifLeF, ifLtT, ifLtF, ifEqT, ifEqF, ifNeT, ifNeF, ifIn, nixZ, ii_i64, o0, o1, isInT, isInF, tn14, tn12, tn2, tn21, tn47, tn48, tn49, tn471, tn472, Int.reduceToNat, Int.toNat_natCast, Int.reduceAdd, Int.reduceSub, Int.reduceMul, Int.reduceNeg, Nat.reduceAdd, Nat.reduceSub, Nat.reduceMul, R_twitchOf_L196, R_twitchOf_L196_b, Ry.2.2.2.2.1, ep]
          exact ⟨_, rfl, by omega⟩
        · rw [if_neg (fun z => q2 z.2)]
          simp (disch := omega) only [Option.bind_some, if_true, if_false, not_true_eq_false, not_false_eq_true, z0, ii_add, ii_sub, ii_mul, ifLeT, ifLeF, ifLtT, ifLtF, ifEqT, ifEqF, ifNeT, ifNeF, ifIn, nixZ, ii_i64, o0, o1, isInT, isInF, tn14, tn12, tn2, tn21, tn47, tn48, tn49, tn471, tn472, Int.reduceToNat, Int.toNat_natCast, Int.reduceAdd, Int.reduceSub, Int.reduceMul, Int.reduceNeg, Nat.reduceAdd, Nat.reduceSub, Nat.reduceMul, R_twitchOf_L196, R_twitchOf_L196_b, Ry.2.2.2.2.1, ep]
          exact ⟨_, rfl, by omega⟩
end TX
