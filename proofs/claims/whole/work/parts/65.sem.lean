/-! what a code means; sums both ways -/
def wthM (x : Int) : Int := if x < -1000000 then -1000000 else if 1000000 < x then 1000000 else x
theorem wthM_lo (x : Int) : -1000000 ≤ wthM x ∧ wthM x ≤ 1000000 := by unfold wthM; split; omega; split <;> omega
theorem wthM_id {x : Int} (h1 : -1000000 ≤ x) (h2 : x ≤ 1000000) : wthM x = x := by unfold wthM; rw [if_neg (by omega), if_neg (by omega)]
theorem C_wth {x : Int} (h1 : -4611686018427387904 ≤ x) (h2 : x ≤ 4611686018427387903) : p_HF_within (Int64.ofInt x) (ii (-1000000)) (ii 1000000) = ii (wthM x) := by
  unfold p_HF_within wthM
  rw [ii_i64 (by omega) (by omega), ii_i64 (by omega) (by omega)]
  by_cases q1 : x < -1000000
  · rw [if_pos q1, if_neg]
    intro z
    have := (lcmp_lt h1 h2 (y := -1000000) (by omega) (by omega)).mpr q1
    revert z this
    generalize lg_cmp (Int64.ofInt x) (Int64.ofInt (-1000000)) = w
    intro z this
    exact absurd (Int32.lt_of_le_of_lt z this) Int32.lt_irrefl
  · rw [if_neg q1]
    have z1 : 0 ≤ lg_cmp (Int64.ofInt x) (Int64.ofInt (-1000000)) := by
      rw [lcmp_v h1 h2 (by omega) (by omega)]
      by_cases q : -1000000 < x
      · rw [if_pos q]; decide
      · rw [if_neg q, if_pos (by omega)]; decide
    rw [if_pos z1]
    by_cases q2 : 1000000 < x
    · rw [if_pos q2, if_neg]
      rw [lcmp_v h1 h2 (by omega) (by omega), if_pos q2]
      decide
    · rw [if_neg q2, if_pos]
      · exact Int64.toInt32_ofInt
      · rw [lcmp_v h1 h2 (by omega) (by omega), if_neg q2]
        by_cases q : x = 1000000
        · rw [if_pos q]; decide
        · rw [if_neg q]; decide
theorem R_wth {x : Int} (h1 : -4611686018427387904 ≤ x) (h2 : x ≤ 4611686018427387903) : p_R_within (Int64.ofInt x) = ii (wthM x) := by
  unfold p_R_within p_Math_maxL p_Math_minL wthM
  by_cases q2 : x < 1000000
  · rw [if_pos ((i64_lt h1 h2 (by omega) (by omega)).mpr q2)]
    by_cases q1 : x < -1000000
    · rw [if_pos q1, if_pos ((i64_lt h1 h2 (by omega) (by omega)).mpr q1)]
      exact Int64.toInt32_ofInt
    · rw [if_neg q1, if_neg (fun z => q1 ((i64_lt h1 h2 (by omega) (by omega)).mp z)), if_neg (by omega)]
      exact Int64.toInt32_ofInt
  · rw [if_neg (fun z => q2 ((i64_lt h1 h2 (by omega) (by omega)).mp z)), if_neg (fun z => by have := (i64_lt (x := 1000000) (y := -1000000) (by omega) (by omega) (by omega) (by omega)).mp z; omega), if_neg (by omega)]
    by_cases q3 : 1000000 < x
    · rw [if_pos q3]; exact Int64.toInt32_ofInt
    · rw [if_neg q3, show x = 1000000 by omega]; exact Int64.toInt32_ofInt
theorem tdiv_lo {a b : Int} (h1 : -1000000 ≤ a) (h2 : a ≤ 1000000) : -1000000 ≤ a.tdiv b ∧ a.tdiv b ≤ 1000000 := by
  have h3 : (a.tdiv b).natAbs ≤ a.natAbs := by
    rw [Int.natAbs_tdiv]
    exact Nat.div_le_self _ _
  omega
theorem ii_tdiv {a b : Int} (h1 : -1000000 ≤ a) (h2 : a ≤ 1000000) (h3 : -1000000 ≤ b) (h4 : b ≤ 1000000) : ii a / ii b = ii (a.tdiv b) := by
  have := Int32.ofInt_tdiv (a := a) (b := b) (by have : Int32.minValue.toInt = -2147483648 := by decide
                                                 omega) (by have : Int32.maxValue.toInt = 2147483647 := by decide
                                                            omega) (by have : Int32.minValue.toInt = -2147483648 := by decide
                                                                       omega) (by have : Int32.maxValue.toInt = 2147483647 := by decide
                                                                                  omega)
  exact this.symm
theorem l64_tdiv {a b : Int} (h1 : -1000000 ≤ a) (h2 : a ≤ 1000000) (h3 : -1000000 ≤ b) (h4 : b ≤ 1000000) : Int64.ofInt a / Int64.ofInt b = Int64.ofInt (a.tdiv b) := by
  have := Int64.ofInt_tdiv (a := a) (b := b) (by have : Int64.minValue.toInt = -9223372036854775808 := by decide
                                                 omega) (by have : Int64.maxValue.toInt = 9223372036854775807 := by decide
                                                            omega) (by have : Int64.minValue.toInt = -9223372036854775808 := by decide
                                                                       omega) (by have : Int64.maxValue.toInt = 9223372036854775807 := by decide
                                                                                  omega)
  exact this.symm
def rnM (L : Nat → Int32) (C : List Int) (s : List Int32) : List Int32 := C.foldl (fun s op => stpM L op s) s
/-- the code C, run, puts v on the stack; it needs room for K -/
def Sem (L : Nat → Int32) (K : Nat) (C : List Int) (v : Int) : Prop := (∀ s, s.length + K ≤ 64 → rnM L C s = s ++ [ii v]) ∧ (-1000000 ≤ v ∧ v ≤ 1000000) ∧ ∀ x ∈ C, -16 ≤ x ∧ x ≤ 9999
section SE
variable {L : Nat → Int32}
theorem rn_app (C D : List Int) (s : List Int32) : rnM L (C ++ D) s = rnM L D (rnM L C s) := by unfold rnM; rw [List.foldl_append]
theorem rn_1 (x : Int) (s : List Int32) : rnM L [x] s = stpM L x s := rfl
theorem Sem.mono {K K' : Nat} {C : List Int} {v : Int} (h : Sem L K C v) (hk : K ≤ K') : Sem L K' C v := ⟨fun s hs => h.1 s (by omega), h.2⟩
theorem sem_num {v : Int} (h1 : 0 ≤ v) (h2 : v ≤ 9999) : Sem L 1 [v] v := by
  refine ⟨fun s hs => ?_, ⟨by omega, by omega⟩, fun x hx => ?_⟩
  · rw [rn_1]
    unfold stpM psh
    rw [if_pos h1, if_pos (by omega)]
  · rw [List.mem_singleton.mp hx]; omega
theorem sem_let {i : Int} (h0 : 0 ≤ i) (h5 : i ≤ 5) {v : Int} (e : L i.toNat = ii v) (h1 : -1000000 ≤ v) (h2 : v ≤ 1000000) : Sem L 1 [-1 - i] v := by
  refine ⟨fun s hs => ?_, ⟨h1, h2⟩, fun x hx => ?_⟩
  · rw [rn_1]
    unfold stpM psh
    rw [if_neg (by omega), if_pos (by omega), if_pos (by omega), show (-1 - (-1 - i)).toNat = i.toNat by omega, e]
  · rw [List.mem_singleton.mp hx]; omega
theorem tp_app (s : List Int32) (x : Int32) : tpS (s ++ [x]) = x := by unfold tpS; rw [List.getLastD_eq_getLast?, List.getLast?_append]; simp
theorem dl_app (s : List Int32) (x : Int32) : (s ++ [x]).dropLast = s := by simp
theorem sem_bin {K : Nat} {C D : List Int} {a b r op : Int} (h1 : Sem L K C a) (h2 : Sem L K D b) (o1 : -15 ≤ op) (o2 : op ≤ -7) (hj : jnI op (ii a) (ii b) = ii r) (r1 : -1000000 ≤ r) (r2 : r ≤ 1000000) : Sem L (K + 1) (C ++ D ++ [op]) r := by
  refine ⟨fun s hs => ?_, ⟨r1, r2⟩, fun x hx => ?_⟩
  · rw [rn_app, rn_app, h1.1 s (by omega), h2.1 (s ++ [ii a]) (by simp; omega), rn_1]
    unfold stpM psh
    rw [if_neg (by omega), if_neg (by omega), if_neg (by omega), tp_app, dl_app, tp_app, dl_app, hj, if_pos (by omega)]
  · rcases List.mem_append.mp hx with h | h
    · rcases List.mem_append.mp h with h | h
      · exact h1.2.2 x h
      · exact h2.2.2 x h
    · rw [List.mem_singleton.mp h]; omega
theorem sem_not {K : Nat} {C : List Int} {a : Int} (h1 : Sem L K C a) (hK : 1 ≤ K) : Sem L K (C ++ [-16]) (if a = 0 then 1 else 0) := by
  have ha := h1.2.1
  refine ⟨fun s hs => ?_, by split <;> omega, fun x hx => ?_⟩
  · rw [rn_app, h1.1 s hs, rn_1]
    unfold stpM psh
    rw [if_neg (by omega), if_neg (by omega), if_pos rfl, tp_app, dl_app, if_pos (by omega)]
    by_cases q : a = 0
    · rw [if_pos q, if_pos (by rw [q])]
    · rw [if_neg q, if_neg (by rw [ii_eq (by omega) (by omega) (by omega) (by omega)]; exact q)]
  · rcases List.mem_append.mp hx with h | h
    · exact h1.2.2 x h
    · rw [List.mem_singleton.mp h]; omega
end SE
theorem jn_add {a b : Int} (h1 : -1000000 ≤ a) (h2 : a ≤ 1000000) (h3 : -1000000 ≤ b) (h4 : b ≤ 1000000) : jnI (-7) (ii a) (ii b) = ii (wthM (a + b)) := by
  unfold jnI
  simp only [Int.reduceEq, Int.reduceNeg, if_false, if_true]
  rw [ii_i64 (by omega) (by omega), ii_i64 (by omega) (by omega), l64_add, C_wth (by omega) (by omega)]
theorem jn_sub {a b : Int} (h1 : -1000000 ≤ a) (h2 : a ≤ 1000000) (h3 : -1000000 ≤ b) (h4 : b ≤ 1000000) : jnI (-8) (ii a) (ii b) = ii (wthM (a - b)) := by
  unfold jnI
  simp only [Int.reduceEq, Int.reduceNeg, if_false, if_true]
  rw [ii_i64 (by omega) (by omega), ii_i64 (by omega) (by omega), l64_sub, C_wth (by omega) (by omega)]
theorem mul_lo {a b : Int} (h1 : -1000000 ≤ a) (h2 : a ≤ 1000000) (h3 : -1000000 ≤ b) (h4 : b ≤ 1000000) : -1000000000000 ≤ a * b ∧ a * b ≤ 1000000000000 := by
  have h5 : (a * b).natAbs ≤ 1000000 * 1000000 := by
    rw [Int.natAbs_mul]
    exact Nat.mul_le_mul (by omega) (by omega)
  omega
theorem jn_mul {a b : Int} (h1 : -1000000 ≤ a) (h2 : a ≤ 1000000) (h3 : -1000000 ≤ b) (h4 : b ≤ 1000000) : jnI (-9) (ii a) (ii b) = ii (wthM (a * b)) := by
  have := mul_lo h1 h2 h3 h4
  unfold jnI
  simp only [Int.reduceEq, Int.reduceNeg, if_false, if_true]
  rw [ii_i64 (by omega) (by omega), ii_i64 (by omega) (by omega), l64_mul, C_wth (by omega) (by omega)]
def dvM (a b : Int) : Int := if b = 0 then 0 else a.tdiv b
theorem dvM_lo {a b : Int} (h1 : -1000000 ≤ a) (h2 : a ≤ 1000000) : -1000000 ≤ dvM a b ∧ dvM a b ≤ 1000000 := by
  have := tdiv_lo (b := b) h1 h2
  unfold dvM
  split <;> omega
theorem jn_div {a b : Int} (h1 : -1000000 ≤ a) (h2 : a ≤ 1000000) (h3 : -1000000 ≤ b) (h4 : b ≤ 1000000) : jnI (-10) (ii a) (ii b) = ii (dvM a b) := by
  show (if ii b = ii 0 then ii 0 else ii a / ii b) = _
  unfold dvM
  by_cases q : b = 0
  · rw [if_pos q, if_pos (by rw [q])]
  · rw [if_neg q, if_neg (by rw [ii_eq (by omega) (by omega) (by omega) (by omega)]; exact q), ii_tdiv h1 h2 h3 h4]
def b01 (P : Prop) [Decidable P] : Int := if P then 1 else 0
theorem jn_eq {a b : Int} (h1 : -1000000 ≤ a) (h2 : a ≤ 1000000) (h3 : -1000000 ≤ b) (h4 : b ≤ 1000000) : jnI (-11) (ii a) (ii b) = ii (b01 (a = b)) := by
  show (if ii a = ii b then ii 1 else ii 0) = _
  unfold b01
  by_cases q : a = b
  · rw [if_pos q, if_pos (by rw [q])]
  · rw [if_neg q, if_neg (by rw [ii_eq (by omega) (by omega) (by omega) (by omega)]; exact q)]
theorem jn_lt {a b : Int} (h1 : -1000000 ≤ a) (h2 : a ≤ 1000000) (h3 : -1000000 ≤ b) (h4 : b ≤ 1000000) : jnI (-12) (ii a) (ii b) = ii (b01 (a < b)) := by
  show (if ii b ≤ ii a then ii 0 else ii 1) = _
  unfold b01
  by_cases q : a < b
  · rw [if_pos q, if_neg (by rw [ii_le (by omega) (by omega) (by omega) (by omega)]; omega)]
  · rw [if_neg q, if_pos (by rw [ii_le (by omega) (by omega) (by omega) (by omega)]; omega)]
theorem jn_gt {a b : Int} (h1 : -1000000 ≤ a) (h2 : a ≤ 1000000) (h3 : -1000000 ≤ b) (h4 : b ≤ 1000000) : jnI (-13) (ii a) (ii b) = ii (b01 (b < a)) := by
  show (if ii a ≤ ii b then ii 0 else ii 1) = _
  unfold b01
  by_cases q : b < a
  · rw [if_pos q, if_neg (by rw [ii_le (by omega) (by omega) (by omega) (by omega)]; omega)]
  · rw [if_neg q, if_pos (by rw [ii_le (by omega) (by omega) (by omega) (by omega)]; omega)]
theorem jn_and (a b : Bool) : jnI (-14) (ii (if a then 1 else 0)) (ii (if b then 1 else 0)) = ii (if a && b then 1 else 0) := by cases a <;> cases b <;> decide
theorem jn_or (a b : Bool) : jnI (-15) (ii (if a then 1 else 0)) (ii (if b then 1 else 0)) = ii (if a || b then 1 else 0) := by cases a <;> cases b <;> decide
/-! the reference's reader, as equations of heaps -/
def GH (g0 : AH) (p : Nat) (ft : Int) (dp : Int) : AH := (fun x => if x = 80 then (fun j => if j = 10 then ii p else if j = 11 then ii ft else if j = 12 then ii dp else g0.1 80 j) else g0.1 x, g0.2)
def GX (bs : List Int) (T b0 : Nat) (g0 : AH) : Prop := g0.2.2 80 5 = T ∧ g0.1 80 8 = ii b0 ∧ g0.1 80 9 = ii bs.length ∧ b0 + bs.length ≤ (shA T).2 ∧ T ≠ 80 ∧ (∀ j, j < bs.length → g0.1 T (b0 + j) = sb (bs.getD j 0)) ∧ okB bs ∧ b0 ≤ 1000 ∧ (shA T).2 ≤ 2000
section GR
variable {g0 : AH} {bs : List Int} {T b0 : Nat}
theorem GH_80 {p : Nat} {ft dp : Int} {j : Nat} : (GH g0 p ft dp).1 80 j = if j = 10 then ii p else if j = 11 then ii ft else if j = 12 then ii dp else g0.1 80 j := rfl
theorem GH_a {p : Nat} {ft dp : Int} : (GH g0 p ft dp).1 80 10 = ii p := rfl
theorem GH_f {p : Nat} {ft dp : Int} : (GH g0 p ft dp).1 80 11 = ii ft := rfl
theorem GH_d {p : Nat} {ft dp : Int} : (GH g0 p ft dp).1 80 12 = ii dp := rfl
theorem GH_8 {p : Nat} {ft dp : Int} : (GH g0 p ft dp).1 80 8 = g0.1 80 8 := rfl
theorem GH_9 {p : Nat} {ft dp : Int} : (GH g0 p ft dp).1 80 9 = g0.1 80 9 := rfl
theorem GH_n {p : Nat} {ft dp : Int} {x : Nat} (h : x ≠ 80) : (GH g0 p ft dp).1 x = g0.1 x := by unfold GH; simp only [h, if_false]
theorem GH_2 {p : Nat} {ft dp : Int} : (GH g0 p ft dp).2 = g0.2 := rfl
theorem GH_sa {p q : Nat} {ft dp : Int} : wI (GH g0 p ft dp) 80 10 (ii q) = GH g0 q ft dp := by
  apply heap_ext
  · intro x
    by_cases e : x = 80
    · subst e
      rw [wI_self]
      funext j
      unfold upd
      rw [GH_80, GH_80]
      by_cases e1 : j = 10
      · simp only [e1, if_true]
      · simp only [e1, if_false]
    · rw [wI_ne e, GH_n e, GH_n e]
  · rfl
theorem GH_inc {p : Nat} {ft dp : Int} : wI (GH g0 p ft dp) 80 10 (ii ((p : Int) + 1)) = GH g0 (p + 1) ft dp := GH_sa (q := p + 1)
theorem GH_sf {p : Nat} {ft ft' dp : Int} : wI (GH g0 p ft dp) 80 11 (ii ft') = GH g0 p ft' dp := by
  apply heap_ext
  · intro x
    by_cases e : x = 80
    · subst e
      rw [wI_self]
      funext j
      unfold upd
      rw [GH_80, GH_80]
      by_cases e1 : j = 11
      · subst e1; rfl
      · simp only [e1, if_false]
    · rw [wI_ne e, GH_n e, GH_n e]
  · rfl
theorem GH_sd {p : Nat} {ft dp dp' : Int} : wI (GH g0 p ft dp) 80 12 (ii dp') = GH g0 p ft dp' := by
  apply heap_ext
  · intro x
    by_cases e : x = 80
    · subst e
      rw [wI_self]
      funext j
      unfold upd
      rw [GH_80, GH_80]
      by_cases e1 : j = 12
      · subst e1; rfl
      · simp only [e1, if_false]
    · rw [wI_ne e, GH_n e, GH_n e]
  · rfl
theorem sb_32 : ∀ b : Nat, b < 256 → (sb b = ii 32 ↔ b = 32) := by decide +kernel
theorem sb_dgt : ∀ b : Nat, b < 256 → ((sb b < ii 48) ↔ (b < 48 ∨ 128 ≤ b)) ∧ ((ii 57 < sb b) ↔ (57 < b ∧ b < 128)) := by decide +kernel
theorem G_rd (X : GX bs T b0 g0) {p : Nat} (hp : p < bs.length) : ∃ b : Nat, 1 ≤ b ∧ b ≤ 255 ∧ ch bs p = b ∧ ∀ q ft dp, (GH g0 q ft dp).1 ((GH g0 q ft dp).2.2 80 5) (b0 + p) = sb b := by
  obtain ⟨x1, x2, x3, x4, x5, x6, x7, x8, x9⟩ := X
  have hc := ch_ok x7 hp
  obtain ⟨b, hb⟩ := Int.eq_ofNat_of_zero_le (show 0 ≤ ch bs p by omega)
  refine ⟨b, by omega, by omega, hb, fun q ft dp => ?_⟩
  rw [show (GH g0 q ft dp).2.2 80 5 = T from x1, GH_n x5, x6 p hp, ← hb]
  unfold ch
  rw [if_pos hp]
theorem G_look (X : GX bs T b0 g0) {ft dp : Int} : ∀ (m p n : Nat), p + m = bs.length → m < n → R_look_L0 n (GH g0 p ft dp) = some (ii (ch bs (sk bs p)), GH g0 (sk bs p) ft dp) := by
  have x1 := X.1
  have x2 := X.2.1
  have x3 := X.2.2.1
  have x4 := X.2.2.2.1
  have x7 := X.2.2.2.2.2.2.1
  have x8 := X.2.2.2.2.2.2.2
  have hl := x7.1
  intro m
  induction m with
  | zero =>
    intro p n hp hn
    obtain ⟨n, rfl⟩ : ∃ z, n = z + 1 := ⟨n - 1, by omega⟩
    have hs : sk bs p = p := sk_id (by rw [ch_ge (by omega)]; omega)
    have hc : ch bs p = -1 := ch_ge (by omega)
    simp (disch := omega) only [Option.bind_some, if_true, if_false, not_true_eq_false, not_false_eq_true, z0, ii_add, ii_sub, ii_mul, ifLeT, ifLeF, ifLtT, ifLtF, ifEqT, ifEqF, ifNeT, ifNeF, ifIn, nixZ, ii_i64, o0, o1, isInT, isInF, tn14, tn12, tn2, tn21, tn47, tn48, tn49, tn471, tn472, Int.reduceToNat, Int.toNat_natCast, Int.reduceAdd, Int.reduceSub, Int.reduceMul, Int.reduceNeg, Nat.reduceAdd, Nat.reduceSub, Nat.reduceMul, R_look_L0, R_look_L0_b, GH_a, GH_9, x3, hs, hc]
  | succ m ih =>
    intro p n hp hn
    obtain ⟨n, rfl⟩ : ∃ z, n = z + 1 := ⟨n - 1, by omega⟩
    obtain ⟨b, b1, b2, b3, b4⟩ := G_rd X (p := p) (by omega)
    have e5 : (GH g0 p ft dp).2.2 80 5 = T := x1
    have ei : ((b0 : Int) + p).toNat = b0 + p := by omega
    have b4' := b4 p ft dp
    rw [e5] at b4'
    have h32 := sb_32 b (by omega)
    by_cases q : ch bs p = 32
    · have hb : b = 32 := by omega
      have e32 : sb b = ii 32 := h32.mpr hb
      simp (disch := omega) only [Option.bind_some, if_true, if_false, not_true_eq_false, not_false_eq_true, z0, ii_add, ii_sub, ii_mul, ifLeT, ifLeF, ifLtT, ifLtF, ifEqT, ifEqF, ifNeT, ifNeF, ifIn, nixZ, ii_i64, o0, o1, isInT, isInF, tn14, tn12, tn2, tn21, tn47, tn48, tn49, tn471, tn472, Int.reduceToNat, Int.toNat_natCast, Int.reduceAdd, Int.reduceSub, Int.reduceMul, Int.reduceNeg, Nat.reduceAdd, Nat.reduceSub, Nat.reduceMul, R_look_L0, R_look_L0_b, GH_a, GH_9, GH_8, x3, x2, e5, ei, b4', e32, GH_inc, ih (p + 1) n (by omega) (by omega), sk_32 q]
    · have e32 : ¬ sb b = ii 32 := fun z => by have := h32.mp z; omega
      have hs : sk bs p = p := sk_id q
      have ea : sb b &&& ii 255 = ii b := sb_and (x := b) (by omega) (by omega)
      simp (disch := omega) only [Option.bind_some, if_true, if_false, not_true_eq_false, not_false_eq_true, z0, ii_add, ii_sub, ii_mul, ifLeT, ifLeF, ifLtT, ifLtF, ifEqT, ifEqF, ifNeT, ifNeF, ifIn, nixZ, ii_i64, o0, o1, isInT, isInF, tn14, tn12, tn2, tn21, tn47, tn48, tn49, tn471, tn472, Int.reduceToNat, Int.toNat_natCast, Int.reduceAdd, Int.reduceSub, Int.reduceMul, Int.reduceNeg, Nat.reduceAdd, Nat.reduceSub, Nat.reduceMul, R_look_L0, R_look_L0_b, GH_a, GH_9, GH_8, x3, x2, e5, ei, b4', e32, hs, ea, b3]
theorem G_lk (X : GX bs T b0 g0) {ft dp : Int} {p : Nat} (hp : p ≤ bs.length) : f_R_look (GH g0 p ft dp) = some (ii (ch bs (sk bs p)), GH g0 (sk bs p) ft dp) := G_look X (bs.length - p) p FU (by omega) (by unfold FU; have := X.2.2.2.2.2.2.1.1; omega)
theorem G_dgT (X : GX bs T b0 g0) {ft dp : Int} {p : Nat} (h1 : 48 ≤ ch bs p) (h2 : ch bs p ≤ 57) : f_R_isDigit (GH g0 p ft dp) = some (ii 1) ∧ (GH g0 p ft dp).1 ((GH g0 p ft dp).2.2 80 5) (b0 + p) = ii (ch bs p) := by
  have hp := ch_lt (bs := bs) (p := p) (by omega)
  obtain ⟨b, b1, b2, b3, b4⟩ := G_rd X hp
  have b4' := b4 p ft dp
  have x1 := X.1
  have x2 := X.2.1
  have x3 := X.2.2.1
  have x4 := X.2.2.2.1
  have hl := X.2.2.2.2.2.2.1.1
  have x8 := X.2.2.2.2.2.2.2
  have e5 : (GH g0 p ft dp).2.2 80 5 = T := x1
  have ei : ((b0 : Int) + p).toNat = b0 + p := by omega
  have kk : ∀ b : Nat, b < 256 → 48 ≤ b → b ≤ 57 → sb b = ii b := by decide +kernel
  have eb := kk b (by omega) (by omega) (by omega)
  rw [eb] at b4'
  refine ⟨?_, by rw [b4', b3]⟩
  rw [e5] at b4'
  unfold f_R_isDigit
  simp (disch := omega) only [Option.bind_some, if_true, if_false, not_true_eq_false, not_false_eq_true, z0, ii_add, ii_sub, ii_mul, ifLeT, ifLeF, ifLtT, ifLtF, ifEqT, ifEqF, ifNeT, ifNeF, ifIn, nixZ, ii_i64, o0, o1, isInT, isInF, tn14, tn12, tn2, tn21, tn47, tn48, tn49, tn471, tn472, Int.reduceToNat, Int.toNat_natCast, Int.reduceAdd, Int.reduceSub, Int.reduceMul, Int.reduceNeg, Nat.reduceAdd, Nat.reduceSub, Nat.reduceMul, GH_a, GH_9, GH_8, x3, x2, e5, ei, b4']
theorem G_dgF (X : GX bs T b0 g0) {ft dp : Int} {p : Nat} (hp : p ≤ bs.length) (h : ¬ (48 ≤ ch bs p ∧ ch bs p ≤ 57)) : f_R_isDigit (GH g0 p ft dp) = some (ii 0) := by
  have x1 := X.1
  have x2 := X.2.1
  have x3 := X.2.2.1
  have x4 := X.2.2.2.1
  have hl := X.2.2.2.2.2.2.1.1
  have x8 := X.2.2.2.2.2.2.2
  have e5 : (GH g0 p ft dp).2.2 80 5 = T := x1
  unfold f_R_isDigit
  by_cases q : p < bs.length
  · obtain ⟨b, b1, b2, b3, b4⟩ := G_rd X q
    have b4' := b4 p ft dp
    rw [e5] at b4'
    have ei : ((b0 : Int) + p).toNat = b0 + p := by omega
    obtain ⟨d1, d2⟩ := sb_dgt b (by omega)
    by_cases z : b < 48 ∨ 128 ≤ b
    · have z1 := d1.mpr z
      simp (disch := omega) only [Option.bind_some, if_true, if_false, not_true_eq_false, not_false_eq_true, z0, ii_add, ii_sub, ii_mul, ifLeT, ifLeF, ifLtT, ifLtF, ifEqT, ifEqF, ifNeT, ifNeF, ifIn, nixZ, ii_i64, o0, o1, isInT, isInF, tn14, tn12, tn2, tn21, tn47, tn48, tn49, tn471, tn472, Int.reduceToNat, Int.toNat_natCast, Int.reduceAdd, Int.reduceSub, Int.reduceMul, Int.reduceNeg, Nat.reduceAdd, Nat.reduceSub, Nat.reduceMul, GH_a, GH_9, GH_8, x3, x2, e5, ei, b4', z1]
    · have z1 : ¬ sb b < ii 48 := fun y => z (d1.mp y)
      have z2 : ii 57 < sb b := d2.mpr (by omega)
      simp (disch := omega) only [Option.bind_some, if_true, if_false, not_true_eq_false, not_false_eq_true, z0, ii_add, ii_sub, ii_mul, ifLeT, ifLeF, ifLtT, ifLtF, ifEqT, ifEqF, ifNeT, ifNeF, ifIn, nixZ, ii_i64, o0, o1, isInT, isInF, tn14, tn12, tn2, tn21, tn47, tn48, tn49, tn471, tn472, Int.reduceToNat, Int.toNat_natCast, Int.reduceAdd, Int.reduceSub, Int.reduceMul, Int.reduceNeg, Nat.reduceAdd, Nat.reduceSub, Nat.reduceMul, GH_a, GH_9, GH_8, x3, x2, e5, ei, b4', z1, z2]
  · simp (disch := omega) only [Option.bind_some, if_true, if_false, not_true_eq_false, not_false_eq_true, z0, ii_add, ii_sub, ii_mul, ifLeT, ifLeF, ifLtT, ifLtF, ifEqT, ifEqF, ifNeT, ifNeF, ifIn, nixZ, ii_i64, o0, o1, isInT, isInF, tn14, tn12, tn2, tn21, tn47, tn48, tn49, tn471, tn472, Int.reduceToNat, Int.toNat_natCast, Int.reduceAdd, Int.reduceSub, Int.reduceMul, Int.reduceNeg, Nat.reduceAdd, Nat.reduceSub, Nat.reduceMul, GH_a, GH_9, x3]
theorem G_fl {p : Nat} {dp : Int} : f_R_fails (GH g0 p (-1) dp) = some (ii 0, GH g0 p p dp) := by
  unfold f_R_fails
  simp (disch := omega) only [Option.bind_some, if_true, if_false, not_true_eq_false, not_false_eq_true, z0, ii_add, ii_sub, ii_mul, ifLeT, ifLeF, ifLtT, ifLtF, ifEqT, ifEqF, ifNeT, ifNeF, ifIn, nixZ, ii_i64, o0, o1, isInT, isInF, tn14, tn12, tn2, tn21, tn47, tn48, tn49, tn471, tn472, Int.reduceToNat, Int.toNat_natCast, Int.reduceAdd, Int.reduceSub, Int.reduceMul, Int.reduceNeg, Nat.reduceAdd, Nat.reduceSub, Nat.reduceMul, GH_f, GH_a, GH_sf]
theorem G_fl2 {p e : Nat} {dp : Int} (he : e ≤ 1000) : f_R_fails (GH g0 p e dp) = some (ii 0, GH g0 p e dp) := by
  unfold f_R_fails
  rw [GH_f, if_neg (by rw [ii_eq (by omega) (by omega) (by omega) (by omega)]; omega)]
  rfl
theorem G_tkT (X : GX bs T b0 g0) {dp : Int} {p : Nat} (hp : p ≤ bs.length) {c : Int} (e : ch bs (sk bs p) = c) : f_R_takes (ii c) (GH g0 p (-1) dp) = some (ii 1, GH g0 (sk bs p + 1) (-1) dp) := by
  unfold f_R_takes
  simp (disch := omega) only [Option.bind_some, if_true, if_false, not_true_eq_false, not_false_eq_true, z0, ii_add, ii_sub, ii_mul, ifLeT, ifLeF, ifLtT, ifLtF, ifEqT, ifEqF, ifNeT, ifNeF, ifIn, nixZ, ii_i64, o0, o1, isInT, isInF, tn14, tn12, tn2, tn21, tn47, tn48, tn49, tn471, tn472, Int.reduceToNat, Int.toNat_natCast, Int.reduceAdd, Int.reduceSub, Int.reduceMul, Int.reduceNeg, Nat.reduceAdd, Nat.reduceSub, Nat.reduceMul, GH_f, G_lk X hp, e, GH_a, GH_inc]
theorem G_tkF (X : GX bs T b0 g0) {dp : Int} {p : Nat} (hp : p ≤ bs.length) {c : Int} (c0 : -1 ≤ c) (c1 : c ≤ 255) (e : ch bs (sk bs p) ≠ c) : f_R_takes (ii c) (GH g0 p (-1) dp) = some (ii 0, GH g0 (sk bs p) (sk bs p) dp) := by
  have hc := ch_lo X.2.2.2.2.2.2.1 (sk bs p)
  unfold f_R_takes
  simp (disch := omega) only [Option.bind_some, if_true, if_false, not_true_eq_false, not_false_eq_true, z0, ii_add, ii_sub, ii_mul, ifLeT, ifLeF, ifLtT, ifLtF, ifEqT, ifEqF, ifNeT, ifNeF, ifIn, nixZ, ii_i64, o0, o1, isInT, isInF, tn14, tn12, tn2, tn21, tn47, tn48, tn49, tn471, tn472, Int.reduceToNat, Int.toNat_natCast, Int.reduceAdd, Int.reduceSub, Int.reduceMul, Int.reduceNeg, Nat.reduceAdd, Nat.reduceSub, Nat.reduceMul, GH_f, G_lk X hp, G_fl]
  rw [if_pos (Or.inl trivial)]
theorem G_tk2 {p e : Nat} {dp : Int} (he : e ≤ 1000) {c : Int32} : f_R_takes c (GH g0 p e dp) = some (ii 0, GH g0 p e dp) := by
  unfold f_R_takes
  simp (disch := omega) only [Option.bind_some, if_true, if_false, not_true_eq_false, not_false_eq_true, z0, ii_add, ii_sub, ii_mul, ifLeT, ifLeF, ifLtT, ifLtF, ifEqT, ifEqF, ifNeT, ifNeF, ifIn, nixZ, ii_i64, o0, o1, isInT, isInF, tn14, tn12, tn2, tn21, tn47, tn48, tn49, tn471, tn472, Int.reduceToNat, Int.toNat_natCast, Int.reduceAdd, Int.reduceSub, Int.reduceMul, Int.reduceNeg, Nat.reduceAdd, Nat.reduceSub, Nat.reduceMul, GH_f, G_fl2 he]
  rw [if_pos (Or.inl trivial)]
end GR
