/-! calls that only read -/
section KR1
variable {S : ST} {B : Nat} {h g : AH}
theorem k_cell (V : VS S) (C : CRep S B h) (R : RRep S g) {a b : Int} (a0 : -2147483648 ≤ a) (a1 : a ≤ 2147483647) (b0 : -2147483648 ≤ b) (b1 : b ≤ 2147483647) : Call S B h g ((f_HF_cell (ii a) (ii b) h).bind fun x => some (x, h)) (f_R_cell (ii a) (ii b) g) := by
  obtain ⟨o, wr, ho, X⟩ := rx_of C V (R.keep V (RS.t0 g (v := ii 0)).1)
  obtain ⟨x, e1, e2⟩ := q_cell X a0 a1 b0 b1
  exact call_same V C R (by rw [bind_eq e1]) e2 (CS.rf _) (RS.t0 g)
theorem k_book (V : VS S) (C : CRep S B h) (R : RRep S g) {a b : Int} (a0 : -2147483648 ≤ a) (a1 : a ≤ 2147483647) (b0 : -2147483648 ≤ b) (b1 : b ≤ 2147483647) : Call S B h g ((f_HF_book (ii a) (ii b) h).bind fun x => some (x, h)) (f_R_book (ii a) (ii b) g) := by
  obtain ⟨o, wr, ho, X⟩ := rx_of C V (R.keep V (RS.t0 g (v := ii 0)).1)
  obtain ⟨x, e1, e2⟩ := q_book X a0 a1 b0 b1
  exact call_same V C R (by rw [bind_eq e1]) e2 (CS.rf _) (RS.t0 g)
theorem k_trail (V : VS S) (C : CRep S B h) (R : RRep S g) {a b : Int} (a0 : -2147483648 ≤ a) (a1 : a ≤ 2147483647) (b0 : -2147483648 ≤ b) (b1 : b ≤ 2147483647) : Call S B h g ((f_HF_trail (ii a) (ii b) h).bind fun x => some (x, h)) (f_R_trail (ii a) (ii b) g) := by
  obtain ⟨o, wr, ho, X⟩ := rx_of C V (R.keep V (RS.t0 g (v := ii 0)).1)
  obtain ⟨x, e1, e2⟩ := q_trail X a0 a1 b0 b1
  exact call_same V C R (by rw [bind_eq e1]) e2 (CS.rf _) (RS.t0 g)
theorem k_costs (V : VS S) (C : CRep S B h) (R : RRep S g) {a : Int} (a0 : -2147483648 ≤ a) (a1 : a ≤ 2147483647) : Call S B h g ((f_HF_costs (ii a) h).bind fun x => some (x, h)) (f_R_costs (ii a) g) := by
  obtain ⟨o, wr, ho, X⟩ := rx_of C V (R.keep V (RS.t0 g (v := ii 0)).1)
  obtain ⟨x, e1, e2⟩ := q_costs X a0 a1
  exact call_same V C R (by rw [bind_eq e1]) e2 (CS.rf _) (RS.t0 g)
theorem k_shallow (V : VS S) (C : CRep S B h) (R : RRep S g) : Call S B h g ((f_HF_shallow h).bind fun x => some (x, h)) (f_R_shallow g) := by
  obtain ⟨o, wr, ho, X⟩ := rx_of C V (R.keep V (RS.t0 g (v := ii 0)).1)
  obtain ⟨x, e1, e2⟩ := q_shallow X
  exact call_same V C R (by rw [bind_eq e1]) e2 (CS.rf _) (RS.t0 g)
theorem k_richest (V : VS S) (C : CRep S B h) (R : RRep S g) : Call S B h g ((f_HF_richest h).bind fun x => some (x, h)) (f_R_richest g) := by
  obtain ⟨o, wr, ho, X⟩ := rx_of C V (R.keep V (RS.t0 g (v := ii 0)).1)
  obtain ⟨x, e1, e2⟩ := q_richest X
  exact call_same V C R (by rw [bind_eq e1]) e2 (CS.rf _) (RS.t0 g)
theorem k_nearest (V : VS S) (C : CRep S B h) (R : RRep S g) {a : Int} (a0 : -2147483648 ≤ a) (a1 : a ≤ 2147483647) : Call S B h g ((f_HF_nearest (ii a) h).bind fun x => some (x, h)) (f_R_nearest (ii a) g) := by
  obtain ⟨o, wr, ho, X⟩ := rx_of C V (R.keep V (RS.t0 g (v := ii 0)).1)
  obtain ⟨x, e1, e2⟩ := q_nearest X a0 a1
  exact call_same V C R (by rw [bind_eq e1]) e2 (CS.rf _) (RS.t0 g)
theorem k_right (V : VS S) (C : CRep S B h) (R : RRep S g) {a : Int} (a0 : -2147483648 ≤ a) (a1 : a ≤ 2147483647) : Call S B h g ((f_HF_right (ii a) h).bind fun x => some (x, h)) (f_R_right (ii a) g) := by
  obtain ⟨o, wr, ho, X⟩ := rx_of C V (R.keep V (RS.t0 g (v := ii 0)).1)
  obtain ⟨x, e1, e2⟩ := q_right X a0 a1
  exact call_same V C R (by rw [bind_eq e1]) e2 (CS.rf _) (RS.t0 g)
theorem k_best (V : VS S) (C : CRep S B h) (R : RRep S g) : Call S B h g ((f_HF_best h).bind fun x => some (x, h)) (f_R_best g) := by
  obtain ⟨o, wr, ho, X⟩ := rx_of C V (R.keep V (RS.t0 g (v := ii 0)).1)
  obtain ⟨x, e1, e2⟩ := q_best X
  exact call_same V C R (by rw [bind_eq e1]) e2 (CS.rf _) (RS.t0 g)
theorem k_heap (V : VS S) (C : CRep S B h) (R : RRep S g) : Call S B h g ((f_HF_heap h).bind fun x => some (x, h)) (f_R_heap g) := by
  obtain ⟨o, wr, ho, X⟩ := rx_of C V (R.keep V (RS.t0 g (v := ii 0)).1)
  obtain ⟨x, e1, e2⟩ := q_heap X
  exact call_same V C R (by rw [bind_eq e1]) e2 (CS.rf _) (RS.t0 g)
theorem k_chance (V : VS S) (C : CRep S B h) (R : RRep S g) {a : Int} (a0 : -2147483648 ≤ a) (a1 : a ≤ 2147483647) : Call S B h g ((f_HF_chance (ii a) h).bind fun x => some (x, h)) (f_R_chance (ii a) g) := by
  obtain ⟨o, wr, ho, X⟩ := rx_of C V (R.keep V (RS.t0 g (v := ii 0)).1)
  obtain ⟨x, e1, e2⟩ := q_chance X a0 a1
  exact call_same V C R (by rw [bind_eq e1]) e2 (CS.rf _) (RS.t0 g)
theorem k_brings (V : VS S) (C : CRep S B h) (R : RRep S g) {a b : Int} (a0 : -2147483648 ≤ a) (a1 : a ≤ 2147483647) (b0 : -2147483648 ≤ b) (b1 : b ≤ 2147483647) : Call S B h g ((f_HF_brings (ii a) (ii b) h).bind fun x => some (x, h)) (f_R_brings (ii a) (ii b) g) := by
  obtain ⟨o, wr, ho, X⟩ := rx_of C V (R.keep V (RS.t0 g (v := ii 0)).1)
  obtain ⟨x, e1, e2⟩ := q_brings X a0 a1 b0 b1
  exact call_same V C R (by rw [bind_eq e1]) e2 (CS.rf _) (RS.t0 g)
theorem k_driest (V : VS S) (C : CRep S B h) (R : RRep S g) : Call S B h g ((f_HF_driest h).bind fun x => some (x, h)) (f_R_driest g) := by
  obtain ⟨o, wr, ho, X⟩ := rx_of C V (R.keep V (RS.t0 g (v := ii 0)).1)
  obtain ⟨x, e1, e2⟩ := q_driest X
  exact call_same V C R (by rw [bind_eq e1]) e2 (CS.rf _) (RS.t0 g)
theorem k_stuck (V : VS S) (C : CRep S B h) (R : RRep S g) : Call S B h g ((f_HF_stuck h).bind fun x => some (x, h)) (f_R_stuck g) := by
  obtain ⟨o, wr, ho, X⟩ := rx_of C V (R.keep V (RS.t0 g (v := ii 0)).1)
  obtain ⟨x, e1, e2⟩ := q_stuck X
  exact call_same V C R (by rw [bind_eq e1]) e2 (CS.rf _) (RS.t0 g)
theorem k_reach (V : VS S) (C : CRep S B h) (R : RRep S g) {a b : Int} (a0 : -2147483648 ≤ a) (a1 : a ≤ 2147483647) (b0 : -2147483648 ≤ b) (b1 : b ≤ 2147483647) : Call S B h g ((f_HF_reach (ii a) (ii b) h).bind fun x => some (x, h)) (f_R_reach (ii a) (ii b) g) := by
  obtain ⟨o, wr, ho, X⟩ := rx_of C V (R.keep V (RS.t0 g (v := ii 0)).1)
  obtain ⟨x, e1, e2⟩ := q_reach X a0 a1 b0 b1
  exact call_same V C R (by rw [bind_eq e1]) e2 (CS.rf _) (RS.t0 g)
theorem k_rule (V : VS S) (C : CRep S B h) (R : RRep S g) {a : Int} (a0 : -2147483648 ≤ a) (a1 : a ≤ 2147483647) : Call S B h g (some (p_HF_rule (ii a) h, h)) (f_R_rule (ii a) g) := by
  obtain ⟨o, wr, ho, X⟩ := rx_of C V (R.keep V (RS.t0 g (v := ii 0)).1)
  exact call_same V C R rfl (q_rule X a0 a1) (CS.rf _) (RS.t0 g)
theorem k_meets (V : VS S) (C : CRep S B h) (R : RRep S g) : Call S B h g (some (p_HF_meets h, h)) (f_R_meets g) := by
  obtain ⟨o, wr, ho, X⟩ := rx_of C V (R.keep V (RS.t0 g (v := ii 0)).1)
  exact call_same V C R rfl (q_meets X) (CS.rf _) (RS.t0 g)
theorem k_loses (V : VS S) (C : CRep S B h) (R : RRep S g) {a : Int} (a0 : -2147483648 ≤ a) (a1 : a ≤ 2147483647) : Call S B h g ((f_HF_loses (ii a) h).bind fun x => some (x, h)) (f_R_loses (ii a) g) := by
  obtain ⟨o, wr, ho, X⟩ := rx_of C V (R.keep V (RS.t0 g (v := ii 0)).1)
  obtain ⟨x, g1, e1, e2, K⟩ := q_loses X a0 a1
  exact call_same V C R (by rw [bind_eq e1]) e2 (CS.rf _) ((RS.t0 g).tr K)
theorem k_fits (V : VS S) (C : CRep S B h) (R : RRep S g) {a b : Int} (a0 : -2147483648 ≤ a) (a1 : a ≤ 2147483647) (b0 : -2147483648 ≤ b) (b1 : b ≤ 2147483647) : Call S B h g (f_HF_fits (ii a) (ii b) h) (f_R_fits (ii a) (ii b) g) := by
  have R0 := R.keep V (RS.t0 g (v := ii 0)).1
  obtain ⟨o, wr, ho, X⟩ := rx_of C V R0
  obtain ⟨x, h1, e1, e2, K⟩ := q_fits X ho C.2.2.2.2.1 R0.2.2.2.2.2.1 V.2.2.2.2.2.1 a0 a1 b0 b1
  exact call_same V C R e1 e2 K (RS.t0 g)
theorem k_sure (V : VS S) (C : CRep S B h) (R : RRep S g) {a : Int} (a0 : -2147483648 ≤ a) (a1 : a ≤ 2147483647) : Call S B h g (f_HF_sure (ii a) h) (f_R_sure (ii a) g) := by
  have R0 := R.keep V (RS.t0 g (v := ii 0)).1
  obtain ⟨o, wr, ho, X⟩ := rx_of C V R0
  obtain ⟨x, h1, e1, e2, K⟩ := q_sure X ho C.2.2.2.2.1 R0.2.2.2.2.2.1 V.2.2.2.2.2.1 a0 a1
  exact call_same V C R e1 e2 K (RS.t0 g)
theorem k_wrong (V : VS S) (C : CRep S B h) (R : RRep S g) {a : Int} (a0 : -2147483648 ≤ a) (a1 : a ≤ 2147483647) : Call S B h g (f_HF_wrong (ii a) h) (f_R_wrong (ii a) g) := by
  have R0 := R.keep V (RS.t0 g (v := ii 0)).1
  obtain ⟨o, wr, ho, X⟩ := rx_of C V R0
  obtain ⟨x, h1, e1, e2, K⟩ := q_wrong X ho C.2.2.2.2.1 R0.2.2.2.2.2.1 V.2.2.2.2.2.1 a0 a1
  exact call_same V C R e1 e2 K (RS.t0 g)
theorem k_ask (V : VS S) (C : CRep S B h) (R : RRep S g) {a : Int} (a0 : -2147483648 ≤ a) (a1 : a ≤ 2147483647) : Call S B h g (f_HF_ask (ii a) h) (f_R_ask (ii a) g) := by
  have R0 := R.keep V (RS.t0 g (v := ii 0)).1
  obtain ⟨o, wr, ho, X⟩ := rx_of C V R0
  obtain ⟨x, h1, g1, e1, e2, K, K2⟩ := q_ask X ho C.2.2.2.2.1 R0.2.2.2.2.2.1 V.2.2.2.2.2.1 a0 a1
  exact call_same V C R e1 e2 K ((RS.t0 g).tr K2)
theorem k_cheapest (V : VS S) (C : CRep S B h) (R : RRep S g) {a b : Int} (a0 : -2147483648 ≤ a) (a1 : a ≤ 2147483647) (b0 : -2147483648 ≤ b) (b1 : b ≤ 2147483647) : Call S B h g (f_HF_cheapest (ii a) (ii b) h) (f_R_cheapest (ii a) (ii b) g) := by
  obtain ⟨o, wr, ho, X⟩ := rx_of C V (R.keep V (RS.t0 g (v := ii 0)).1)
  obtain ⟨x, h1, g1, e1, e2, K, K2⟩ := q_cheapest X ho a0 a1 b0 b1
  exact call_same V C R e1 e2 K ((RS.t0 g).tr K2)
theorem k_twitch (V : VS S) (C : CRep S B h) (R : RRep S g) {a b : Int} (a0 : -2147483648 ≤ a) (a1 : a ≤ 2147483647) (b0 : -2147483648 ≤ b) (b1 : b ≤ 2147483647) : Call S B h g (f_HF_twitch (ii a) (ii b) h) (f_R_twitch (ii a) (ii b) g) := by
  have R0 := R.keep V (RS.t0 g (v := ii 0)).1
  have Lw := C.lws V
  obtain ⟨o, wr, ho, X⟩ := rx_of C V R0
  obtain ⟨E, Ch, M, Rh, D, W, Vd⟩ := X
  have Kt := RS.t0 g (v := ii 0)
  unfold f_HF_twitch f_R_twitch
  rw [E, C_isFork Ch W a0 a1, C_isCell Ch W b0 b1, R_isFork Rh W a0 a1, R_isCell Rh W b0 b1]
  by_cases q : 0 ≤ a ∧ a < (sH S) 7
  · rw [if_pos q, if_neg i10, if_neg i10]
    by_cases q2 : 0 ≤ b ∧ b < cellsM (sH S)
    · have HWd := W.hf q.1 q.2
      obtain ⟨f, rfl⟩ := Int.eq_ofNat_of_zero_le q.1
      obtain ⟨c, rfl⟩ := Int.eq_ofNat_of_zero_le q2.1
      obtain ⟨h1, e1, T1⟩ := C_twitch E Ch ho (Or.inl rfl) M Vd HWd C.2.2.2.2.2.1 Lw.1 Lw.2.2.2.1 Lw.2.2.2.2 q.2 q2.2
      obtain ⟨g1, e2, S2, _⟩ := R_twitch Rh (Or.inl rfl) D Vd HWd R0.2.2.2.2.2.2.1 R0.2.2.2.2.2.2.2.2 Lw.1 Lw.2.1 Lw.2.2.1 Lw.2.2.2.1 Lw.2.2.2.2 q.2 q2.2
      rw [if_pos q2, if_neg i10, if_neg i10, bind_eq e1, bind_eq e2]
      exact call_same V C R rfl rfl T1.2 (Kt.tr S2)
    · rw [if_neg q2, if_pos i00, if_pos i00]
      exact call_same V C R rfl rfl (CS.rf _) Kt
  · rw [if_neg q, if_pos i00, if_pos i00]
    exact call_same V C R rfl rfl (CS.rf _) Kt
theorem k_wishers (V : VS S) (C : CRep S B h) (R : RRep S g) {a : Int} (a0 : -2147483648 ≤ a) (a1 : a ≤ 2147483647) : Call S B h g (f_HF_wishers (ii a) h) (f_R_wishers (ii a) g) := by
  have R0 := R.keep V (RS.t0 g (v := ii 0)).1
  have Lw := C.lws V
  obtain ⟨o, wr, ho, X⟩ := rx_of C V R0
  obtain ⟨E, Ch, M, Rh, D, W, Vd⟩ := X
  have Kt := RS.t0 g (v := ii 0)
  have hf := W.nf
  unfold f_HF_wishers f_R_wishers
  rw [E, C_isCell Ch W a0 a1, R_isCell Rh W a0 a1]
  by_cases q : 0 ≤ a ∧ a < cellsM (sH S)
  · have HWd := W.hw q.1 q.2
    obtain ⟨c, rfl⟩ := Int.eq_ofNat_of_zero_le q.1
    have hir := irM_lo HWd (c : Int)
    rw [if_pos q, if_neg i10, if_neg i10, bind_eq (C_hasWater Ch HWd q.1 q.2), bind_eq (R_hasWater Rh HWd a0 a1)]
    by_cases q2 : depM (sH S) c = -1
    · rw [if_pos q2, if_pos i00, if_pos i00, bind_eq (C_ironIn Ch HWd q.1 q.2), bind_eq (R_ironAt Rh W a0 a1)]
      by_cases q3 : irM (sH S) c = -1
      · rw [if_pos (by rw [q3]), if_pos (by rw [q3])]
        have key := lrel (fun n k (x : Int32 × AH) => HF_wishers_L40 n (ii c) x.1 (ii k) x.2) (fun n k (y : Int32 × AH) => R_wishers_L36 n (ii c) y.1 (ii k) y.2) ((sH S) 7).toNat (fun k x y => x.1 = y.1 ∧ CS h x.2 ∧ RS (wI g 80 0 (ii 0)) y.2) (fun x y => ∃ z h1 g1, x = some (z, h1) ∧ y = some (z, g1) ∧ CS h h1 ∧ RS (wI g 80 0 (ii 0)) g1) ?_ ?_ ((sH S) 7).toNat 0 FU FU (ii 0, h) (ii 0, wI g 80 0 (ii 0)) (by omega) (by unfold FU; omega) (by unfold FU; omega) ⟨rfl, CS.rf _, RS.rf _⟩
        · obtain ⟨z, h1, g1, e1, e2, K1, K2⟩ := key
          exact call_same V C R e1 e2 K1 (Kt.tr K2)
        · rintro n m ⟨x1, x2⟩ ⟨y1, y2⟩ ⟨r1, r2, r3⟩
          simp only at r1 r2 r3
          subst r1
          have Cx := CKm.cs r2
          have Chx := Cx.ch Ch ho
          have Ex := Cx.e22.trans E
          have Rx := Rh.keep r3.1
          simp (disch := omega) only [Option.bind_some, if_true, if_false, not_true_eq_false, not_false_eq_true, z0, ii_add, ii_sub, ii_mul, ifLeT, ifLeF, ifLtT, ifLtF, ifEqT, ifEqF, ifNeT, ifNeF, ifIn, nixZ, ii_i64, o0, o1, isInT, isInF, tn14, tn12, tn2, tn21, tn47, tn48, tn49, tn471, tn472, Int.reduceToNat, Int.toNat_natCast, Int.reduceAdd, Int.reduceSub, Int.reduceMul, Int.reduceNeg, Nat.reduceAdd, Nat.reduceSub, Nat.reduceMul, HF_wishers_L40, HF_wishers_L40_b, R_wishers_L36, R_wishers_L36_b, Ex, Chx.2.2.2.2.2.1, Rx.2.2.2.2.1]
          exact ⟨_, _, _, rfl, rfl, r2, r3⟩
        · rintro n m k ⟨x1, x2⟩ ⟨y1, y2⟩ hk ⟨r1, r2, r3⟩
          simp only at r1 r2 r3
          subst r1
          right
          have Cx := C.keep V r2.1
          have Ry := R0.keep V r3.1
          obtain ⟨o', wr', ho', X'⟩ := rx_of Cx V Ry
          obtain ⟨E', Ch', M', Rh', D', _, _⟩ := X'
          have hkf : (k : Int) < (sH S) 7 := by omega
          obtain ⟨h1, e1, T1⟩ := C_twitch E' Ch' ho' (Or.inl rfl) M' Vd HWd Cx.2.2.2.2.2.1 Lw.1 Lw.2.2.2.1 Lw.2.2.2.2 hkf q.2
          obtain ⟨g1, e2, S2, _⟩ := R_twitch Rh' (Or.inl rfl) D' Vd HWd Ry.2.2.2.2.2.2.1 Ry.2.2.2.2.2.2.2.2 Lw.1 Lw.2.1 Lw.2.2.1 Lw.2.2.2.1 Lw.2.2.2.2 hkf q.2
          have htl := twX_lo (d := sD S) (la := sL S) (ho := sO S) HWd hkf c
          by_cases z : twX (sH S) (sD S) (sL S) (sO S) k c ≤ 0
          · simp (disch := omega) only [Option.bind_some, if_true, if_false, not_true_eq_false, not_false_eq_true, z0, ii_add, ii_sub, ii_mul, ifLeT, ifLeF, ifLtT, ifLtF, ifEqT, ifEqF, ifNeT, ifNeF, ifIn, nixZ, ii_i64, o0, o1, isInT, isInF, tn14, tn12, tn2, tn21, tn47, tn48, tn49, tn471, tn472, Int.reduceToNat, Int.toNat_natCast, Int.reduceAdd, Int.reduceSub, Int.reduceMul, Int.reduceNeg, Nat.reduceAdd, Nat.reduceSub, Nat.reduceMul, HF_wishers_L40, HF_wishers_L40_b, R_wishers_L36, R_wishers_L36_b, E', Ch'.2.2.2.2.2.1, Rh'.2.2.2.2.1, e1, e2, or_0]
            exact ⟨(x1, h1), (x1, g1), rfl, rfl, rfl, r2.tr T1.2, r3.tr S2⟩
          · simp (disch := omega) only [Option.bind_some, if_true, if_false, not_true_eq_false, not_false_eq_true, z0, ii_add, ii_sub, ii_mul, ifLeT, ifLeF, ifLtT, ifLtF, ifEqT, ifEqF, ifNeT, ifNeF, ifIn, nixZ, ii_i64, o0, o1, isInT, isInF, tn14, tn12, tn2, tn21, tn47, tn48, tn49, tn471, tn472, Int.reduceToNat, Int.toNat_natCast, Int.reduceAdd, Int.reduceSub, Int.reduceMul, Int.reduceNeg, Nat.reduceAdd, Nat.reduceSub, Nat.reduceMul, HF_wishers_L40, HF_wishers_L40_b, R_wishers_L36, R_wishers_L36_b, E', Ch'.2.2.2.2.2.1, Rh'.2.2.2.2.1, e1, e2]
            exact ⟨(x1 ||| p_HF_bit (ii k), h1), (x1 ||| p_HF_bit (ii k), g1), rfl, rfl, rfl, r2.tr T1.2, r3.tr S2⟩
      · have hne : ¬ ii (irM (sH S) c) = ii (-1) := by rw [ii_eq (by omega) (by omega) (by omega) (by omega)]; exact q3
        rw [if_neg hne, if_neg hne]
        exact call_same V C R rfl rfl (CS.rf _) Kt
    · rw [if_neg q2, if_neg i10, if_neg i10]
      exact call_same V C R rfl rfl (CS.rf _) Kt
  · rw [if_neg q, if_pos i00, if_pos i00]
    exact call_same V C R rfl rfl (CS.rf _) Kt
end KR1
