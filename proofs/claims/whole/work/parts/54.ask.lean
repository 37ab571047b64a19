/-! ask -/
section H4
variable {hd : Nat → Int} {he : HE} {d : DY} {o wr : Nat} {h g : AH}
def LSk (hd : Nat → Int) (l : FL) (g0 a : AH) : Prop := Ag [103] g0 a ∧ ∀ k : Nat, (k : Int) < cellsM hd → a.1 103 k = ii (2 * cntM l k - l.length)
theorem RHe.ag {g g1 : AH} {S : List Nat} (RE : RHe he g) (A : Ag S g g1) (h0 : 80 ∉ S) (h1 : 100 ∉ S) (h2 : 101 ∉ S) (h3 : 102 ∉ S) : RHe he g1 := ⟨by rw [A.1 80 h0]; exact RE.1, fun i hi => by rw [A.1 100 h1, A.1 101 h2, A.1 102 h3]; exact RE.2 i hi⟩
theorem RH.ag {g g1 : AH} {S : List Nat} (R : RH hd g) (A : Ag S g g1) (hs : ∀ o, o ∈ [80, 85, 87, 89, 91, 93] → o ∉ S) : RH hd g1 := by
  unfold RH
  rw [A.1 80 (hs 80 (by decide)), A.1 85 (hs 85 (by decide)), A.1 87 (hs 87 (by decide)), A.1 89 (hs 89 (by decide)), A.1 91 (hs 91 (by decide)), A.1 93 (hs 93 (by decide))]
  exact R
theorem R_lean (R : RH hd g) (W : HW hd) {l : FL} {a : AH} (L : LSk hd l g a) (code : Nat) (b : Int32) {x y z : Int32} : ∃ a', R_ask_L98 FU x y z b (ii 0) a = some a' ∧ LSk hd (l ++ [(code, b)]) g a' := by
  have hcl := W.cells
  refine lup (fun n k (s : AH) => R_ask_L98 n x y z b (ii k) s) (cellsM hd).toNat (fun k s => Ag [103] g s ∧ (∀ c : Nat, c < k → s.1 103 c = ii (2 * cntM (l ++ [(code, b)]) c - (l.length + 1 : Nat))) ∧ ∀ c : Nat, k ≤ c → (c : Int) < cellsM hd → s.1 103 c = ii (2 * cntM l c - l.length)) (fun s => ∃ a', s = some a' ∧ LSk hd (l ++ [(code, b)]) g a') ?_ ?_ (cellsM hd).toNat 0 FU a (by omega) (by unfold FU; omega) ⟨L.1, fun c hc => by omega, fun c _ hc => L.2 c hc⟩
  · rintro n s ⟨r1, r2, r3⟩
    have Rs := R.ag r1 (by decide)
    simp (disch := omega) only [Option.bind_some, if_true, if_false, not_true_eq_false, not_false_eq_true, z0, ii_add, ii_sub, ii_mul, ifLeT, ifLeF, ifLtT, ifLtF, ifEqT, ifEqF, ifNeT, ifNeF, ifIn, nixZ, ii_i64, o0, o1, isInT, isInF, tn14, tn12, tn2, tn21, tn47, tn48, tn49, tn471, tn472, Int.reduceToNat, Int.toNat_natCast, Int.reduceAdd, Int.reduceSub, Int.reduceMul, Int.reduceNeg, Nat.reduceAdd, Nat.reduceSub, Nat.reduceMul, R_ask_L98, R_ask_L98_b, Rs.2.2.2.2.2.1]
    exact ⟨_, rfl, r1, fun k hk => by rw [r2 k (by omega)]; simp⟩
  · rintro n k s hk ⟨r1, r2, r3⟩
    right
    have Rs := R.ag r1 (by decide)
    have e1 := r3 k (Nat.le_refl _) (by omega)
    have eh := R_has b (n := k) (by omega)
    by_cases t : tb b k = true
    · rw [if_pos t] at eh
      simp (disch := omega) only [Option.bind_some, if_true, if_false, not_true_eq_false, not_false_eq_true, z0, ii_add, ii_sub, ii_mul, ifLeT, ifLeF, ifLtT, ifLtF, ifEqT, ifEqF, ifNeT, ifNeF, ifIn, nixZ, ii_i64, o0, o1, isInT, isInF, tn14, tn12, tn2, tn21, tn47, tn48, tn49, tn471, tn472, Int.reduceToNat, Int.toNat_natCast, Int.reduceAdd, Int.reduceSub, Int.reduceMul, Int.reduceNeg, Nat.reduceAdd, Nat.reduceSub, Nat.reduceMul, R_ask_L98, R_ask_L98_b, Rs.2.2.2.2.2.1, e1, eh]
      refine ⟨_, rfl, r1.pI (by decide), fun c hc => ?_, fun c hc1 hc2 => by rw [wI_self, upd_ne (by omega)]; exact r3 c (by omega) hc2⟩
      rw [wI_self]
      by_cases e : c = k
      · rw [e, upd_self, cntM_s]
        simp only [t, if_true]
        congr 1; omega
      · rw [upd_ne e]; exact r2 c (by omega)
    · rw [if_neg t] at eh
      simp (disch := omega) only [Option.bind_some, if_true, if_false, not_true_eq_false, not_false_eq_true, z0, ii_add, ii_sub, ii_mul, ifLeT, ifLeF, ifLtT, ifLtF, ifEqT, ifEqF, ifNeT, ifNeF, ifIn, nixZ, ii_i64, o0, o1, isInT, isInF, tn14, tn12, tn2, tn21, tn47, tn48, tn49, tn471, tn472, Int.reduceToNat, Int.toNat_natCast, Int.reduceAdd, Int.reduceSub, Int.reduceMul, Int.reduceNeg, Nat.reduceAdd, Nat.reduceSub, Nat.reduceMul, R_ask_L98, R_ask_L98_b, Rs.2.2.2.2.2.1, e1, eh]
      refine ⟨_, rfl, r1.pI (by decide), fun c hc => ?_, fun c hc1 hc2 => by rw [wI_self, upd_ne (by omega)]; exact r3 c (by omega) hc2⟩
      rw [wI_self]
      by_cases e : c = k
      · rw [e, upd_self, cntM_s]
        simp only [t]
        congr 1; simp; omega
      · rw [upd_ne e]; exact r2 c (by omega)
theorem R_askW (R : RH hd g) (RE : RHe he g) (W : HW hd) (H : HEw hd he) {n c : Nat} (h2 : 2 ≤ n) (h5 : n ≤ 5) (hc : (c : Int) < cellsM hd) {l : FL} {a : AH} (L : LSk hd l g a) : ∃ a', R_ask_L58 FU (ii n) (ii c) (ii 0) a = some a' ∧ LSk hd (l ++ fiW hd he (-1) n c (2 ^ (n - 1))) g a' := by
  have hcl := W.cells
  obtain ⟨k2, k16, kb⟩ := kM_lo h2 h5
  have kb' : shlI (ii 1) (ii ((n : Int) - 1)) = ii ((2 ^ (n - 1) : Nat) : Int) := kb
  refine lup (fun m k (s : AH) => R_ask_L58 m (ii n) (ii c) (ii k) s) (2 ^ (n - 1)) (fun k s => LSk hd (l ++ fiW hd he (-1) n c k) g s) (fun s => ∃ a', s = some a' ∧ LSk hd (l ++ fiW hd he (-1) n c (2 ^ (n - 1))) g a') ?_ ?_ (2 ^ (n - 1)) 0 FU a (by omega) (by unfold FU; omega) (by simpa [fiW] using L)
  · rintro m s r
    simp (disch := omega) only [Option.bind_some, if_true, if_false, not_true_eq_false, not_false_eq_true, z0, ii_add, ii_sub, ii_mul, ifLeT, ifLeF, ifLtT, ifLtF, ifEqT, ifEqF, ifNeT, ifNeF, ifIn, nixZ, ii_i64, o0, o1, isInT, isInF, tn14, tn12, tn2, tn21, tn47, tn48, tn49, tn471, tn472, Int.reduceToNat, Int.toNat_natCast, Int.reduceAdd, Int.reduceSub, Int.reduceMul, Int.reduceNeg, Nat.reduceAdd, Nat.reduceSub, Nat.reduceMul, R_ask_L58, R_ask_L58_b, kb']
    exact ⟨_, rfl, r⟩
  · rintro m k s hk r
    right
    have Rs := R.ag r.1 (by decide)
    have REs := RE.ag r.1 (by decide) (by decide) (by decide) (by decide)
    have ex := R_line Rs W (w := k) h2 h5 hc
    cases e : linM hd n c k with
    | none =>
      rw [e] at ex
      simp only [Option.getD_none] at ex
      simp (disch := omega) only [Option.bind_some, if_true, if_false, not_true_eq_false, not_false_eq_true, z0, ii_add, ii_sub, ii_mul, ifLeT, ifLeF, ifLtT, ifLtF, ifEqT, ifEqF, ifNeT, ifNeF, ifIn, nixZ, ii_i64, o0, o1, isInT, isInF, tn14, tn12, tn2, tn21, tn47, tn48, tn49, tn471, tn472, Int.reduceToNat, Int.toNat_natCast, Int.reduceAdd, Int.reduceSub, Int.reduceMul, Int.reduceNeg, Nat.reduceAdd, Nat.reduceSub, Nat.reduceMul, R_ask_L58, R_ask_L58_b, kb', ex]
      exact ⟨_, rfl, by rw [fiW_N e]; exact r⟩
    | some b =>
      rw [e] at ex
      simp only [Option.getD_some] at ex
      have hok : okLi b := lnM_ok W _ _ _ _ _ (okLi_bit (by omega) (by omega)) e
      have hb0 : ¬ b = ii (-1) := okLi_m1 hok
      by_cases s' : soM he b (-1)
      · have so := (R_so REs (Or.inr W) H b (wo := -1) (by omega) (by omega)).1 s'
        obtain ⟨a', ea, La⟩ := R_lean R W r (100 * c + k) b (x := ii n) (y := ii c) (z := ii k)
        simp (disch := omega) only [Option.bind_some, if_true, if_false, not_true_eq_false, not_false_eq_true, z0, ii_add, ii_sub, ii_mul, ifLeT, ifLeF, ifLtT, ifLtF, ifEqT, ifEqF, ifNeT, ifNeF, ifIn, nixZ, ii_i64, o0, o1, isInT, isInF, tn14, tn12, tn2, tn21, tn47, tn48, tn49, tn471, tn472, Int.reduceToNat, Int.toNat_natCast, Int.reduceAdd, Int.reduceSub, Int.reduceMul, Int.reduceNeg, Nat.reduceAdd, Nat.reduceSub, Nat.reduceMul, R_ask_L58, R_ask_L58_b, kb', ex, hb0, so, ea]
        exact ⟨_, rfl, by rw [fiW_T e s', ← List.append_assoc]; exact La⟩
      · have so := (R_so REs (Or.inr W) H b (wo := -1) (by omega) (by omega)).2 s'
        simp (disch := omega) only [Option.bind_some, if_true, if_false, not_true_eq_false, not_false_eq_true, z0, ii_add, ii_sub, ii_mul, ifLeT, ifLeF, ifLtT, ifLtF, ifEqT, ifEqF, ifNeT, ifNeF, ifIn, nixZ, ii_i64, o0, o1, isInT, isInF, tn14, tn12, tn2, tn21, tn47, tn48, tn49, tn471, tn472, Int.reduceToNat, Int.toNat_natCast, Int.reduceAdd, Int.reduceSub, Int.reduceMul, Int.reduceNeg, Nat.reduceAdd, Nat.reduceSub, Nat.reduceMul, R_ask_L58, R_ask_L58_b, kb', ex, hb0, so]
        exact ⟨_, rfl, by rw [fiW_F e s']; exact r⟩
theorem R_ask0 {n : Int32} : ∃ a, R_ask_L27 FU n (ii 0) g = some a ∧ Ag [103] g a ∧ ∀ c, c < 30 → a.1 103 c = ii 0 := by
  refine lup (fun m k (x : AH) => R_ask_L27 m n (ii k) x) 30 (fun k x => Ag [103] g x ∧ ∀ c, c < k → x.1 103 c = ii 0) (fun x => ∃ a, x = some a ∧ Ag [103] g a ∧ ∀ c, c < 30 → a.1 103 c = ii 0) ?_ ?_ 30 0 FU g (by omega) (by unfold FU; omega) ⟨Ag.rf _ _, fun c hc => by omega⟩
  · rintro m x ⟨r1, r2⟩
    simp (disch := omega) only [Option.bind_some, if_true, if_false, not_true_eq_false, not_false_eq_true, z0, ii_add, ii_sub, ii_mul, ifLeT, ifLeF, ifLtT, ifLtF, ifEqT, ifEqF, ifNeT, ifNeF, ifIn, nixZ, ii_i64, o0, o1, isInT, isInF, tn14, tn12, tn2, tn21, tn47, tn48, tn49, tn471, tn472, Int.reduceToNat, Int.toNat_natCast, Int.reduceAdd, Int.reduceSub, Int.reduceMul, Int.reduceNeg, Nat.reduceAdd, Nat.reduceSub, Nat.reduceMul, R_ask_L27, R_ask_L27_b, Int.cast_ofNat_Int]
    exact ⟨_, rfl, r1, r2⟩
  · rintro m k x hk ⟨r1, r2⟩
    right
    simp (disch := omega) only [Option.bind_some, if_true, if_false, not_true_eq_false, not_false_eq_true, z0, ii_add, ii_sub, ii_mul, ifLeT, ifLeF, ifLtT, ifLtF, ifEqT, ifEqF, ifNeT, ifNeF, ifIn, nixZ, ii_i64, o0, o1, isInT, isInF, tn14, tn12, tn2, tn21, tn47, tn48, tn49, tn471, tn472, Int.reduceToNat, Int.toNat_natCast, Int.reduceAdd, Int.reduceSub, Int.reduceMul, Int.reduceNeg, Nat.reduceAdd, Nat.reduceSub, Nat.reduceMul, R_ask_L27, R_ask_L27_b]
    refine ⟨_, rfl, r1.pI (by decide), fun c hc => ?_⟩
    rw [wI_self]
    by_cases e : c = k
    · rw [e, upd_self]
    · rw [upd_ne e]; exact r2 c (by omega)
theorem R_askC (R : RH hd g) (RE : RHe he g) (W : HW hd) (H : HEw hd he) {n : Nat} (h2 : 2 ≤ n) (h5 : n ≤ 5) {a : AH} (L : LSk hd [] g a) : ∃ a', R_ask_L48 FU (ii n) (ii 0) a = some a' ∧ LSk hd (fiC hd he (-1) n (cellsM hd).toNat) g a' := by
  have hcl := W.cells
  refine lup (fun m k (s : AH) => R_ask_L48 m (ii n) (ii k) s) (cellsM hd).toNat (fun k s => LSk hd (fiC hd he (-1) n k) g s) (fun s => ∃ a', s = some a' ∧ LSk hd (fiC hd he (-1) n (cellsM hd).toNat) g a') ?_ ?_ (cellsM hd).toNat 0 FU a (by omega) (by unfold FU; omega) L
  · rintro m s r
    have Rs := R.ag r.1 (by decide)
    simp (disch := omega) only [Option.bind_some, if_true, if_false, not_true_eq_false, not_false_eq_true, z0, ii_add, ii_sub, ii_mul, ifLeT, ifLeF, ifLtT, ifLtF, ifEqT, ifEqF, ifNeT, ifNeF, ifIn, nixZ, ii_i64, o0, o1, isInT, isInF, tn14, tn12, tn2, tn21, tn47, tn48, tn49, tn471, tn472, Int.reduceToNat, Int.toNat_natCast, Int.reduceAdd, Int.reduceSub, Int.reduceMul, Int.reduceNeg, Nat.reduceAdd, Nat.reduceSub, Nat.reduceMul, R_ask_L48, R_ask_L48_b, Rs.2.2.2.2.2.1]
    exact ⟨_, rfl, r⟩
  · rintro m k s hk r
    right
    have Rs := R.ag r.1 (by decide)
    obtain ⟨s', es, Ls⟩ := R_askW R RE W H h2 h5 (c := k) (by omega) r
    simp (disch := omega) only [Option.bind_some, if_true, if_false, not_true_eq_false, not_false_eq_true, z0, ii_add, ii_sub, ii_mul, ifLeT, ifLeF, ifLtT, ifLtF, ifEqT, ifEqF, ifNeT, ifNeF, ifIn, nixZ, ii_i64, o0, o1, isInT, isInF, tn14, tn12, tn2, tn21, tn47, tn48, tn49, tn471, tn472, Int.reduceToNat, Int.toNat_natCast, Int.reduceAdd, Int.reduceSub, Int.reduceMul, Int.reduceNeg, Nat.reduceAdd, Nat.reduceSub, Nat.reduceMul, R_ask_L48, R_ask_L48_b, Rs.2.2.2.2.2.1, es]
    exact ⟨_, rfl, Ls⟩
theorem q_ask (X : RX hd d o wr h (wI g 80 0 (ii 0))) (ho : o = 43 ∨ o = 49) (CE : CHe he h) (RE : RHe he (wI g 80 0 (ii 0))) (H : HEw hd he) {n : Int} (n0 : -2147483648 ≤ n) (n1 : n ≤ 2147483647) : ∃ x h1 g1, f_HF_ask (ii n) h = some (x, h1) ∧ f_R_ask (ii n) g = some (x, g1) ∧ CS h h1 ∧ RS (wI g 80 0 (ii 0)) g1 := by
  obtain ⟨E, C, M, R, D, W, V⟩ := X
  have hc := W.cells
  unfold f_R_ask f_HF_ask
  generalize wI g 80 0 (ii 0) = g at *
  by_cases q : cellsM hd = 0 ∨ n < 2 ∨ 5 < n
  · simp (disch := omega) only [Option.bind_some, if_true, if_false, not_true_eq_false, not_false_eq_true, z0, ii_add, ii_sub, ii_mul, ifLeT, ifLeF, ifLtT, ifLtF, ifEqT, ifEqF, ifNeT, ifNeF, ifIn, nixZ, ii_i64, o0, o1, isInT, isInF, tn14, tn12, tn2, tn21, tn47, tn48, tn49, tn471, tn472, Int.reduceToNat, Int.toNat_natCast, Int.reduceAdd, Int.reduceSub, Int.reduceMul, Int.reduceNeg, Nat.reduceAdd, Nat.reduceSub, Nat.reduceMul, C_canF E C W n0 n1 q, R_lgF R W n0 n1 q]
    exact ⟨_, _, _, rfl, rfl, CS.rf _, RS.rf _⟩
  · have HWd := W.hw (c := 0) (by omega) (by omega)
    obtain ⟨m, rfl⟩ := Int.eq_ofNat_of_zero_le (show 0 ≤ n by omega)
    have ct := C_canT E C HWd (n := m) (by omega) (by omega)
    have rt := R_lgT R HWd (n := m) (by omega) (by omega)
    obtain ⟨a, ea, a1, a2, a3, a4, a5, a6⟩ := C_scan C ho CE HWd H (wo := -1) (n := m) (by omega) (by omega) (by omega) (by omega)
    have hr := R_fits R RE HWd H (wo := -1) (i := -1) (n := m) (by omega) (by omega) (by omega) (by omega) (by omega) (by omega)
    have hlen := fiC_len (hd := hd) (he := he) (-1) m (cellsM hd).toNat
    obtain ⟨k2, k16, kb⟩ := kM_lo (n := m) (by omega) (by omega)
    have h480 : (fiC hd he (-1) m (cellsM hd).toNat).length ≤ 480 := by
      have : (cellsM hd).toNat * 2 ^ (m - 1) ≤ 30 * 16 := Nat.mul_le_mul (by omega) k16
      omega
    have e1 : ansF (fiC hd he (-1) m (cellsM hd).toNat) (-1) = (fiC hd he (-1) m (cellsM hd).toNat).length := rfl
    have hct := cntM_lo
    have Ca : CH hd o a := C.ag (fun i hi => a1.1 (o + i) (by rcases ho with e | e <;> subst e <;> simp <;> omega))
    have Ea : a.2.2 0 13 = o := by rw [a1.2]; exact E
    obtain ⟨b, eb, b1, b2⟩ := R_ask0 (g := g) (n := ii m)
    obtain ⟨b', eb', b1', b2'⟩ := R_askC R RE HWd H (n := m) (by omega) (by omega) (a := b) ⟨b1, fun k hk => by rw [b2 k (by omega)]; rfl⟩
    have Rb := R.ag b1' (by decide)
    rw [ct, rt, E, if_neg i10, if_neg i10, bind_eq ea, bind_eq hr, a3, e1, bind_eq eb, bind_eq eb']
    generalize fiC hd he (-1) m (cellsM hd).toNat = L at *
    by_cases q2 : L.length = 0
    · simp (disch := omega) only [Option.bind_some, if_true, if_false, not_true_eq_false, not_false_eq_true, z0, ii_add, ii_sub, ii_mul, ifLeT, ifLeF, ifLtT, ifLtF, ifEqT, ifEqF, ifNeT, ifNeF, ifIn, nixZ, ii_i64, o0, o1, isInT, isInF, tn14, tn12, tn2, tn21, tn47, tn48, tn49, tn471, tn472, Int.reduceToNat, Int.toNat_natCast, Int.reduceAdd, Int.reduceSub, Int.reduceMul, Int.reduceNeg, Nat.reduceAdd, Nat.reduceSub, Nat.reduceMul]
      exact ⟨_, _, _, rfl, rfl, CS.scan a1 a2, RS.rf _⟩
    · rw [if_neg (show ¬ ii (L.length : Int) = 0 by rw [ii_z (by omega) (by omega)]; omega), if_neg (show ¬ ii (L.length : Int) = 0 by rw [ii_z (by omega) (by omega)]; omega)]
      rw [Ea, Ca.2.2.2.2.1]
      unfold f_Heard_mostTelling
      have key : ∃ z, Heard_mostTelling_L9 FU (ii (cellsM hd)) (ii 0) (ii 481) (ii 0) a = some z ∧ R_ask_L154 FU (ii 0) (ii 1) b' = some (z, b') := by
        obtain ⟨N, hN⟩ : ∃ N, FU = N + 1 := ⟨99999, rfl⟩
        have c0 := hct 0 L
        have g0 := ab_lo (x := (L.length : Int) - 2 * cntM L 0) (n := 480) (by omega) (by omega)
        have st : Heard_mostTelling_L9 FU (ii (cellsM hd)) (ii 0) (ii 481) (ii 0) a = Heard_mostTelling_L9 N (ii (cellsM hd)) (ii 0) (ii (ab ((L.length : Int) - 2 * cntM L 0))) (ii 1) a := by
          rw [hN]
          simp (disch := omega) only [Option.bind_some, if_true, if_false, not_true_eq_false, not_false_eq_true, z0, ii_add, ii_sub, ii_mul, ifLeT, ifLeF, ifLtT, ifLtF, ifEqT, ifEqF, ifNeT, ifNeF, ifIn, nixZ, ii_i64, o0, o1, isInT, isInF, tn14, tn12, tn2, tn21, tn47, tn48, tn49, tn471, tn472, Int.reduceToNat, Int.toNat_natCast, Int.reduceAdd, Int.reduceSub, Int.reduceMul, Int.reduceNeg, Nat.reduceAdd, Nat.reduceSub, Nat.reduceMul, Heard_mostTelling_L9, Heard_mostTelling_L9_b, a3, a6 0 (by omega), ab_ii]
        rw [st]
        refine lrel (fun n k (x : Nat × Int) => Heard_mostTelling_L9 n (ii (cellsM hd)) (ii x.1) (ii x.2) (ii k) a) (fun n k (y : Nat) => R_ask_L154 n (ii y) (ii k) b') (cellsM hd).toNat (fun k x y => x.1 = y ∧ (y : Int) < cellsM hd ∧ x.2 = ab ((L.length : Int) - 2 * cntM L y)) (fun x y => ∃ z, x = some z ∧ y = some (z, b')) ?_ ?_ ((cellsM hd).toNat - 1) 1 N FU (0, ab ((L.length : Int) - 2 * cntM L 0)) 0 (by omega) (by unfold FU at hN; omega) (by unfold FU; omega) ⟨rfl, by omega, rfl⟩
        · rintro n m' ⟨x1, x2⟩ y ⟨r1, r2, r3⟩
          simp only at r1 r2 r3
          subst r1
          simp (disch := omega) only [Option.bind_some, if_true, if_false, not_true_eq_false, not_false_eq_true, z0, ii_add, ii_sub, ii_mul, ifLeT, ifLeF, ifLtT, ifLtF, ifEqT, ifEqF, ifNeT, ifNeF, ifIn, nixZ, ii_i64, o0, o1, isInT, isInF, tn14, tn12, tn2, tn21, tn47, tn48, tn49, tn471, tn472, Int.reduceToNat, Int.toNat_natCast, Int.reduceAdd, Int.reduceSub, Int.reduceMul, Int.reduceNeg, Nat.reduceAdd, Nat.reduceSub, Nat.reduceMul, Heard_mostTelling_L9, Heard_mostTelling_L9_b, R_ask_L154, R_ask_L154_b, Rb.2.2.2.2.2.1]
          exact ⟨_, rfl, rfl⟩
        · rintro n m' k ⟨x1, x2⟩ y hk ⟨r1, r2, r3⟩
          simp only at r1 r2 r3
          subst r1 r3
          right
          have ck := hct k L
          have cx := hct x1 L
          have gk := ab_lo (x := (L.length : Int) - 2 * cntM L k) (n := 480) (by omega) (by omega)
          have gx := ab_lo (x := (L.length : Int) - 2 * cntM L x1) (n := 480) (by omega) (by omega)
          have ek := b2' k (by omega)
          have ex := b2' x1 r2
          have s1 := ab_sw (2 * cntM L k) (L.length : Int)
          have s2 := ab_sw (2 * cntM L x1) (L.length : Int)
          by_cases q3 : ab ((L.length : Int) - 2 * cntM L x1) ≤ ab ((L.length : Int) - 2 * cntM L k)
          · simp (disch := omega) only [Option.bind_some, if_true, if_false, not_true_eq_false, not_false_eq_true, z0, ii_add, ii_sub, ii_mul, ifLeT, ifLeF, ifLtT, ifLtF, ifEqT, ifEqF, ifNeT, ifNeF, ifIn, nixZ, ii_i64, o0, o1, isInT, isInF, tn14, tn12, tn2, tn21, tn47, tn48, tn49, tn471, tn472, Int.reduceToNat, Int.toNat_natCast, Int.reduceAdd, Int.reduceSub, Int.reduceMul, Int.reduceNeg, Nat.reduceAdd, Nat.reduceSub, Nat.reduceMul, Heard_mostTelling_L9, Heard_mostTelling_L9_b, R_ask_L154, R_ask_L154_b, Rb.2.2.2.2.2.1, a3, a6 k (show k < 30 by omega), ab_ii, ek, ex, s1, s2]
            exact ⟨(x1, ab ((L.length : Int) - 2 * cntM L x1)), x1, rfl, rfl, rfl, r2, rfl⟩
          · simp (disch := omega) only [Option.bind_some, if_true, if_false, not_true_eq_false, not_false_eq_true, z0, ii_add, ii_sub, ii_mul, ifLeT, ifLeF, ifLtT, ifLtF, ifEqT, ifEqF, ifNeT, ifNeF, ifIn, nixZ, ii_i64, o0, o1, isInT, isInF, tn14, tn12, tn2, tn21, tn47, tn48, tn49, tn471, tn472, Int.reduceToNat, Int.toNat_natCast, Int.reduceAdd, Int.reduceSub, Int.reduceMul, Int.reduceNeg, Nat.reduceAdd, Nat.reduceSub, Nat.reduceMul, Heard_mostTelling_L9, Heard_mostTelling_L9_b, R_ask_L154, R_ask_L154_b, Rb.2.2.2.2.2.1, a3, a6 k (show k < 30 by omega), ab_ii, ek, ex, s1, s2]
            exact ⟨(k, ab ((L.length : Int) - 2 * cntM L k)), k, rfl, rfl, rfl, by omega, rfl⟩
      obtain ⟨z, z1, z2⟩ := key
      rw [bind_eq z1, z2]
      exact ⟨_, _, _, rfl, rfl, CS.scan a1 a2, RKeep.ag b1' (by decide), KC.ag b1' (by decide)⟩
end H4
