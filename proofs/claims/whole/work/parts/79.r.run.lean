/-! run: walks in the head -/
section RN
variable {S : ST} {B : Nat} {h g h' g' : AH} {hd : Nat → Int} {d d' : DY} {o wr : Nat} {la : List (List Int)} {ho : Int}
theorem goM_cg (W : HW hd) (e : ∀ j, j < 46 → d j = d' j) {f : Nat} (hf : (f : Int) < hd 7) (way : Int) : goM hd d f way = goM hd d' f way := by
  have hw := W.1
  unfold goM
  rw [e (2 * f) (by omega), e (13 - (fkM hd f 5).toNat) (by omega)]
theorem twX_cg (W : HW hd) (e : ∀ j, j < 46 → d j = d' j) (f c : Nat) : twX hd d la ho f c = twX hd d' la ho f c := by
  have hw := W.1
  have e1 : plM hd d f c = plM hd d' f c := by unfold plM; rw [e 45 (by omega)]
  have e2 : othM hd d f c = othM hd d' f c := sumN_eq (fun i hi => by unfold othT; rw [e (2 * i) (by omega)])
  have e3 : (fun j => ii (ltM hd d f c j)) = (fun j => ii (ltM hd d' f c j)) := by
    funext j
    unfold ltM
    rw [e 45 (by omega), e2]
  unfold twX
  rw [e1, e3]
theorem mvD_cg (e : ∀ j, j < 46 → d j = d' j) {f gu : Nat} {c : Int} (hg : gu < 2) : ∀ j, j < 46 → mvD d f c gu j = mvD d' f c gu j := fun j hj => by
  unfold mvD
  rw [e (12 + gu) (by omega)]
  by_cases q : j = 12 + gu
  · rw [q, upd_self, upd_self]
  · rw [upd_ne q, upd_ne q]
    by_cases q2 : j = 2 * f
    · rw [q2, upd_self, upd_self]
    · rw [upd_ne q2, upd_ne q2]; exact e j hj
theorem CS.m25 {l : List Nat} {h h1 : AH} (a : Ag l h h1) (hl : ∀ x ∈ l, 25 ≤ x ∧ x ≤ 30) : CS h h1 := by
  refine ⟨⟨fun o ho hs => a.1 o ?_, by rw [a.1 1 (fun z => by have := hl _ z; omega)], by rw [a.1 33 (fun z => by have := hl _ z; omega)], fun o ho => congrFun (a.1 o ?_) 2, fun o ho => by rw [a.2]⟩, ⟨fun o ho => a.1 o (fun z => by have := hl _ z; omega), fun o ho => by rw [a.2], by rw [a.2]⟩⟩
  · intro z
    have := hl _ z
    rcases (show o = 25 ∨ o = 26 ∨ o = 27 ∨ o = 28 ∨ o = 29 ∨ o = 30 by omega) with z | z | z | z | z | z <;> subst z <;> exact absurd hs (by decide)
  · intro z
    have := hl _ z
    simp only [List.mem_cons, List.not_mem_nil, or_false] at ho
    omega
theorem RF.rs98 (F : RF 98 g g') : RS g g' := by
  refine ⟨⟨F.1, fun o ho => F.2.1 o ?_ ?_ ?_, fun j _ => by rw [F.2.1 95 (by decide) (by decide) (by decide)], fun j _ => by rw [F.2.1 96 (by decide) (by decide) (by decide)], F.2.2.1⟩, F.2.2.2.1⟩ <;> (simp only [List.mem_cons, List.not_mem_nil, or_false] at ho; omega)
theorem k_run (V : VS S) (C : CRep S B h) (R : RRep S g) {a b : Int} (a0 : -2147483648 ≤ a) (a1 : a ≤ 2147483647) (b0 : -2147483648 ≤ b) (b1 : b ≤ 2147483647) : Call S B h g (f_HF_run (ii a) (ii b) h) (f_R_run (ii a) (ii b) g) := by
  have R0 := R.keep V (RS.t0 g (v := ii 0)).1
  obtain ⟨o, wr, ho, X⟩ := rx_of C V R0
  obtain ⟨E, Ch, M, Rh, D, W, Vd⟩ := X
  have hcl := W.cells
  have Kt := RS.t0 g (v := ii 0)
  have h4 := V.2.2.2.2.2.2.2.2.1
  unfold f_HF_run f_R_run
  rw [C_hasW C V a0 a1, R_isW R0 V a0 a1]
  generalize hg0 : wI g 80 0 (ii 0) = g0 at *
  by_cases q0 : cellsM (sH S) = 0
  · rw [C_hhF E Ch q0, if_pos i00, Rh.2.2.2.2.2.1, q0]
    by_cases q : 0 ≤ a ∧ a < (sW S).length
    · rw [if_pos q, if_neg i10, if_pos i00]
      exact call_same V C R rfl rfl (CS.rf _) Kt
    · rw [if_neg q, if_pos i00]
      exact call_same V C R rfl rfl (CS.rf _) Kt
  · rw [C_hhT E Ch W q0, if_neg i10]
    by_cases q : 0 ≤ a ∧ a < (sW S).length
    · have HWd := W.hw (c := 0) (by omega) (by omega)
      have hw := HWd.1
      obtain ⟨v, rfl⟩ := Int.eq_ofNat_of_zero_le q.1
      have hv : v < (sW S).length := by omega
      rw [if_pos q, if_neg i10, if_neg i10, Rh.2.2.2.2.2.1, if_neg (show ¬ ii (cellsM (sH S)) = 0 by rw [ii_z (by omega) (by omega)]; exact q0)]
      have hl64 := (wk_l C V hv).2
      by_cases qb : 0 ≤ b ∧ b ≤ 1
      · obtain ⟨h1, e1, A1, M1, _⟩ := C_copy (p := 25) (q := 13) (by omega) h 0 wr
        obtain ⟨g1, e2, D1, B1⟩ := R_cp (m0 := 227) (u0 := 97) (m1 := 227) (u1 := 98) (by omega) (by omega) (by omega) g0
        have Lw := C.lws V
        have K1 : CS h h1 := CS.m25 A1 (by decide)
        have F1 : RF 98 g0 g1 := RF.ag (Or.inr rfl) B1
        have key := lrel (fun n k (x : Int32 × AH) => HF_run_L52 n (ii b) (h.2.2 11 v) x.1 (ii k) x.2) (fun n k (y : Int32 × AH) => R_run_L50 n (ii v) (ii b) (ii k) y.1 y.2) ((sW S).getD v []).length (fun k x y => x.1 = y.1 ∧ ∃ dc dr, MR (sH S) dc wr (mvO x.2 25) ∧ DW (sH S) dc ∧ RDy dr y.2 98 ∧ DW (sH S) dr ∧ (∀ j, j < 46 → dc j = dr j) ∧ CS h x.2 ∧ RF 98 g0 y.2) (fun x y => ∃ z h2 g2, x = some (z, h2) ∧ y = some (z, g2) ∧ CS h h2 ∧ RF 98 g0 g2) ?_ ?_ ((sW S).getD v []).length 0 FU FU (ii 0, h1) (ii 0, g1) (by omega) (by unfold FU; omega) (by unfold FU; omega) ⟨rfl, sD S, sD S, M.eq M1 (by omega) (by omega) (Nat.le_refl _), Vd, fun j hj => by rw [D1 j hj]; exact D j hj, Vd, fun _ _ => rfl, K1, F1⟩
        · obtain ⟨z, h2, g2, k1, k2, k3, k4⟩ := key
          have k1' : HF_run_L52 FU (ii b) (h.2.2 11 v) (ii 0) (ii 0) h1 = some (z, h2) := k1
          have k2' : R_run_L50 FU (ii v) (ii b) (ii 0) (ii 0) g1 = some (z, g2) := k2
          refine call_same V C R (x := z) (h1 := h2) (g1 := g2) ?_ ?_ k3 (Kt.tr k4.rs98)
          · simp (disch := omega) only [Option.bind_some, if_true, if_false, not_true_eq_false, not_false_eq_true, z0, ii_add, ii_sub, ii_mul, ifLeT, ifLeF, ifLtT, ifLtF, ifEqT, ifEqF, ifNeT, ifNeF, ifIn, nixZ, ii_i64, o0, o1, isInT, isInF, tn14, tn12, tn2, tn21, tn47, tn48, tn49, tn471, tn472, Int.reduceToNat, Int.toNat_natCast, Int.reduceAdd, Int.reduceSub, Int.reduceMul, Int.reduceNeg, Nat.reduceAdd, Nat.reduceSub, Nat.reduceMul, e1, k1']
          · rcases (show b = 0 ∨ b = 1 by omega) with e | e <;> subst e
            · simp (disch := omega) only [Option.bind_some, if_true, if_false, not_true_eq_false, not_false_eq_true, z0, ii_add, ii_sub, ii_mul, ifLeT, ifLeF, ifLtT, ifLtF, ifEqT, ifEqF, ifNeT, ifNeF, ifIn, nixZ, ii_i64, o0, o1, isInT, isInF, tn14, tn12, tn2, tn21, tn47, tn48, tn49, tn471, tn472, Int.reduceToNat, Int.toNat_natCast, Int.reduceAdd, Int.reduceSub, Int.reduceMul, Int.reduceNeg, Nat.reduceAdd, Nat.reduceSub, Nat.reduceMul, isInT, e2, k2']
            · simp (disch := omega) only [Option.bind_some, if_true, if_false, not_true_eq_false, not_false_eq_true, z0, ii_add, ii_sub, ii_mul, ifLeT, ifLeF, ifLtT, ifLtF, ifEqT, ifEqF, ifNeT, ifNeF, ifIn, nixZ, ii_i64, o0, o1, isInT, isInF, tn14, tn12, tn2, tn21, tn47, tn48, tn49, tn471, tn472, Int.reduceToNat, Int.toNat_natCast, Int.reduceAdd, Int.reduceSub, Int.reduceMul, Int.reduceNeg, Nat.reduceAdd, Nat.reduceSub, Nat.reduceMul, isInT, e2, k2']
        · rintro n m ⟨x1, x⟩ ⟨y1, y⟩ ⟨rfl, dc, dr, r1, r2, r3, r4, r5, r6, r7⟩
          have r6' : CS h x := r6
          have r7' : RF 98 g0 y := r7
          have el := (wk_l (C.keep V r6'.1) V hv).1
          rw [r6'.1.2.2.2.2 11 (by omega)] at el
          have e96 := (R0.2.2.2.2.2.2.2.1.2 v hv).1
          rw [← r7'.2.1 96 (by decide) (by decide) (by decide)] at e96
          rcases (show b = 0 ∨ b = 1 by omega) with e | e <;> subst e
          · simp (disch := omega) only [Option.bind_some, if_true, if_false, not_true_eq_false, not_false_eq_true, z0, ii_add, ii_sub, ii_mul, ifLeT, ifLeF, ifLtT, ifLtF, ifEqT, ifEqF, ifNeT, ifNeF, ifIn, nixZ, ii_i64, o0, o1, isInT, isInF, tn14, tn12, tn2, tn21, tn47, tn48, tn49, tn471, tn472, Int.reduceToNat, Int.toNat_natCast, Int.reduceAdd, Int.reduceSub, Int.reduceMul, Int.reduceNeg, Nat.reduceAdd, Nat.reduceSub, Nat.reduceMul, HF_run_L52, HF_run_L52_b, R_run_L50, R_run_L50_b, el, e96]
            exact ⟨_, _, _, rfl, rfl, r6, r7⟩
          · simp (disch := omega) only [Option.bind_some, if_true, if_false, not_true_eq_false, not_false_eq_true, z0, ii_add, ii_sub, ii_mul, ifLeT, ifLeF, ifLtT, ifLtF, ifEqT, ifEqF, ifNeT, ifNeF, ifIn, nixZ, ii_i64, o0, o1, isInT, isInF, tn14, tn12, tn2, tn21, tn47, tn48, tn49, tn471, tn472, Int.reduceToNat, Int.toNat_natCast, Int.reduceAdd, Int.reduceSub, Int.reduceMul, Int.reduceNeg, Nat.reduceAdd, Nat.reduceSub, Nat.reduceMul, HF_run_L52, HF_run_L52_b, R_run_L50, R_run_L50_b, el, e96]
            exact ⟨_, _, _, rfl, rfl, r6, r7⟩
        · rintro n m k ⟨x1, x⟩ ⟨y1, y⟩ hk ⟨ex1, dc, dr, r1, r2, r3, r4, r5, r6, r7⟩
          have ex1' : x1 = y1 := ex1
          subst ex1'
          have r6' : CS h x := r6
          have r7' : RF 98 g0 y := r7
          have Ck := C.keep V r6'.1
          have el := (wk_l Ck V hv).1
          rw [r6'.1.2.2.2.2 11 (by omega)] at el
          have e96 := (R0.2.2.2.2.2.2.2.1.2 v hv).1
          rw [← r7'.2.1 96 (by decide) (by decide) (by decide)] at e96
          obtain ⟨f, w, efw, hf9, hw3, ef, ew⟩ := wk_c Ck V hv (i := k) hk
          rw [r6'.1.2.2.2.2 11 (by omega)] at ef ew
          obtain ⟨e95a, e95b⟩ := (R0.2.2.2.2.2.2.2.1.2 v hv).2 k hk
          rw [efw] at e95a e95b
          rw [← r7'.2.1 95 (by decide) (by decide) (by decide)] at e95a e95b
          have t1 : (2 * (64 * (v : Int) + k)).toNat = 128 * v + 2 * k := by omega
          have t2 : (2 * (64 * (v : Int) + k) + 1).toNat = 128 * v + 2 * k + 1 := by omega
          have E' : x.2.2 0 13 = o := by rw [r6'.1.2.2.2.2 0 (by omega)]; exact E
          have Ch' : CH (sH S) o x := (CKm.cs r6').ch Ch ho
          have Rh' : RH (sH S) y := r7'.rh (Or.inr rfl) Rh
          have RL' := r7'.rl (Or.inr rfl) R0.2.2.2.2.2.2.1
          have LR' : LR y := r7'.1 R0.2.2.2.2.2.2.2.2
          by_cases q3 : (f : Int) < (sH S) 7
          · have e1 := C_goal E' Ch' r1 r2 HWd q3 (way := w) (by omega) (by omega)
            have e2 := R_where Rh' r3 r4 HWd q3 (way := w) (by omega) (by omega)
            have hgo := goM_lo HWd (d := dc) f w
            have hck := HWd.cells
            rw [← goM_cg HWd r5 q3 w] at e2
            by_cases q4 : goM (sH S) dc f w = -1
            · left
              rw [q4] at e1 e2
              rcases (show b = 0 ∨ b = 1 by omega) with e | e <;> subst e
              · simp (disch := omega) only [Option.bind_some, if_true, if_false, not_true_eq_false, not_false_eq_true, z0, ii_add, ii_sub, ii_mul, ifLeT, ifLeF, ifLtT, ifLtF, ifEqT, ifEqF, ifNeT, ifNeF, ifIn, nixZ, ii_i64, o0, o1, isInT, isInF, tn14, tn12, tn2, tn21, tn47, tn48, tn49, tn471, tn472, Int.reduceToNat, Int.toNat_natCast, Int.reduceAdd, Int.reduceSub, Int.reduceMul, Int.reduceNeg, Nat.reduceAdd, Nat.reduceSub, Nat.reduceMul, HF_run_L52, HF_run_L52_b, R_run_L50, R_run_L50_b, el, e96, ef, ew, t1, t2, e95a, e95b, e1, e2]
                exact ⟨_, _, _, rfl, rfl, r6, r7⟩
              · simp (disch := omega) only [Option.bind_some, if_true, if_false, not_true_eq_false, not_false_eq_true, z0, ii_add, ii_sub, ii_mul, ifLeT, ifLeF, ifLtT, ifLtF, ifEqT, ifEqF, ifNeT, ifNeF, ifIn, nixZ, ii_i64, o0, o1, isInT, isInF, tn14, tn12, tn2, tn21, tn47, tn48, tn49, tn471, tn472, Int.reduceToNat, Int.toNat_natCast, Int.reduceAdd, Int.reduceSub, Int.reduceMul, Int.reduceNeg, Nat.reduceAdd, Nat.reduceSub, Nat.reduceMul, HF_run_L52, HF_run_L52_b, R_run_L50, R_run_L50_b, el, e96, ef, ew, t1, t2, e95a, e95b, e1, e2]
                exact ⟨_, _, _, rfl, rfl, r6, r7⟩
            · right
              obtain ⟨c, hc⟩ := Int.eq_ofNat_of_zero_le (show 0 ≤ goM (sH S) dc f w by omega)
              have hcc : (c : Int) < cellsM (sH S) := by omega
              have hfk := HWd.2.2.2.2 f q3
              obtain ⟨gu, hgu⟩ := Int.eq_ofNat_of_zero_le (show 0 ≤ fkM (sH S) f 5 by omega)
              have hg2 : gu < 2 := by omega
              have e5 := C_t5 Ch' HWd q3
              rw [hgu] at e5
              obtain ⟨h2, f1, A2, M2, _⟩ := C_move (Or.inr rfl) r1 HWd q3 hg2 (c := c) hcc
              have K2 : CS x h2 := CS.m25 A2 (by decide)
              have V2 := r2.mv HWd q3 (gu := gu) hg2 (c := c) (by omega) hcc
              have CL : CLa (sL S) (sO S) h2 := (C.keep V (r6'.tr K2).1).2.2.2.2.2.1
              obtain ⟨h3, f3, T3, K3⟩ := C_twitch (h := h2) (by rw [K2.1.2.2.2.2 0 (by omega)]; exact E') ((CKm.cs K2).ch Ch' ho) ho (Or.inr rfl) M2 V2 HWd CL Lw.1 Lw.2.2.2.1 Lw.2.2.2.2 q3 hcc
              obtain ⟨g2, f4, D4, F4⟩ := R_goes (Or.inr rfl) Rh' r3 r4 HWd RL' LR' Lw q3 (way := w) (by omega) (by omega) (c := c) (by rw [← goM_cg HWd r5 q3 w]; exact hc)
              have egu : (fkM (sH S) f 5).toNat = gu := by omega
              have est : stT (sH S) dr (sL S) (sO S) f c = twX (sH S) (mvD dc f c gu) (sL S) (sO S) f c := by unfold stT; rw [egu]; exact (twX_cg HWd (mvD_cg r5 hg2) f c).symm
              have htl : 0 ≤ stT (sH S) dr (sL S) (sO S) f c ∧ stT (sH S) dr (sL S) (sO S) f c ≤ 99 := twX_lo HWd q3 c
              rw [est] at f4
              rw [hc] at e1 e2
              simp (disch := omega) only [Option.bind_some, if_true, if_false, not_true_eq_false, not_false_eq_true, z0, ii_add, ii_sub, ii_mul, ifLeT, ifLeF, ifLtT, ifLtF, ifEqT, ifEqF, ifNeT, ifNeF, ifIn, nixZ, ii_i64, o0, o1, isInT, isInF, tn14, tn12, tn2, tn21, tn47, tn48, tn49, tn471, tn472, Int.reduceToNat, Int.toNat_natCast, Int.reduceAdd, Int.reduceSub, Int.reduceMul, Int.reduceNeg, Nat.reduceAdd, Nat.reduceSub, Nat.reduceMul, HF_run_L52, HF_run_L52_b, R_run_L50, R_run_L50_b, el, e96, ef, ew, t1, t2, e95a, e95b, e1, e2, E', e5, f1, f3, f4]
              have em3 : mvO h3 25 = mvO h2 25 := mv_eq (fun i hi => T3 _ (by omega) (by omega))
              have V4 := r4.mv HWd q3 (gu := gu) hg2 (c := c) (by omega) hcc
              refine ⟨(x1 + ii (twX (sH S) (mvD dc f c gu) (sL S) (sO S) f c), h3), (x1 + ii (twX (sH S) (mvD dc f c gu) (sL S) (sO S) f c), g2), rfl, rfl, rfl, mvD dc f c gu, _, by rw [em3]; exact M2, V2, D4, r4.st HWd q3 hcc htl.1 htl.2, fun j hj => ?_, (r6'.tr K2).tr K3, r7'.tr F4⟩
              unfold stD
              rw [egu, wrD_lo V4.2.2.2.1.2 hj]
              exact mvD_cg r5 hg2 j hj
          · left
            have e1 := C_goal_out (p := 25) (a := ii w) E' Ch' W (f := f) (by omega) (by omega) (by omega)
            have e2 := R_where_out (a := 98) (n := 227) (b := ii w) Rh' W (f := f) (by omega) (by omega) (by omega)
            rcases (show b = 0 ∨ b = 1 by omega) with e | e <;> subst e
            · simp (disch := omega) only [Option.bind_some, if_true, if_false, not_true_eq_false, not_false_eq_true, z0, ii_add, ii_sub, ii_mul, ifLeT, ifLeF, ifLtT, ifLtF, ifEqT, ifEqF, ifNeT, ifNeF, ifIn, nixZ, ii_i64, o0, o1, isInT, isInF, tn14, tn12, tn2, tn21, tn47, tn48, tn49, tn471, tn472, Int.reduceToNat, Int.toNat_natCast, Int.reduceAdd, Int.reduceSub, Int.reduceMul, Int.reduceNeg, Nat.reduceAdd, Nat.reduceSub, Nat.reduceMul, HF_run_L52, HF_run_L52_b, R_run_L50, R_run_L50_b, el, e96, ef, ew, t1, t2, e95a, e95b, e1, e2]
              exact ⟨_, _, _, rfl, rfl, r6, r7⟩
            · simp (disch := omega) only [Option.bind_some, if_true, if_false, not_true_eq_false, not_false_eq_true, z0, ii_add, ii_sub, ii_mul, ifLeT, ifLeF, ifLtT, ifLtF, ifEqT, ifEqF, ifNeT, ifNeF, ifIn, nixZ, ii_i64, o0, o1, isInT, isInF, tn14, tn12, tn2, tn21, tn47, tn48, tn49, tn471, tn472, Int.reduceToNat, Int.toNat_natCast, Int.reduceAdd, Int.reduceSub, Int.reduceMul, Int.reduceNeg, Nat.reduceAdd, Nat.reduceSub, Nat.reduceMul, HF_run_L52, HF_run_L52_b, R_run_L50, R_run_L50_b, el, e96, ef, ew, t1, t2, e95a, e95b, e1, e2]
              exact ⟨_, _, _, rfl, rfl, r6, r7⟩
      · by_cases qb2 : b < 0
        · simp (disch := omega) only [Option.bind_some, if_true, if_false, not_true_eq_false, not_false_eq_true, z0, ii_add, ii_sub, ii_mul, ifLeT, ifLeF, ifLtT, ifLtF, ifEqT, ifEqF, ifNeT, ifNeF, ifIn, nixZ, ii_i64, o0, o1, isInT, isInF, tn14, tn12, tn2, tn21, tn47, tn48, tn49, tn471, tn472, Int.reduceToNat, Int.toNat_natCast, Int.reduceAdd, Int.reduceSub, Int.reduceMul, Int.reduceNeg, Nat.reduceAdd, Nat.reduceSub, Nat.reduceMul, isInF]
          exact call_same V C R rfl rfl (CS.rf _) Kt
        · simp (disch := omega) only [Option.bind_some, if_true, if_false, not_true_eq_false, not_false_eq_true, z0, ii_add, ii_sub, ii_mul, ifLeT, ifLeF, ifLtT, ifLtF, ifEqT, ifEqF, ifNeT, ifNeF, ifIn, nixZ, ii_i64, o0, o1, isInT, isInF, tn14, tn12, tn2, tn21, tn47, tn48, tn49, tn471, tn472, Int.reduceToNat, Int.toNat_natCast, Int.reduceAdd, Int.reduceSub, Int.reduceMul, Int.reduceNeg, Nat.reduceAdd, Nat.reduceSub, Nat.reduceMul, isInF]
          exact call_same V C R rfl rfl (CS.rf _) Kt
    · rw [if_neg q, if_pos i00, if_pos i00]
      exact call_same V C R rfl rfl (CS.rf _) Kt
end RN
