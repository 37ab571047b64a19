/-! a step of both, over states -/
theorem RAf.kc {g g1 : AH} (F : RAf g g1) : KC g g1 := ⟨fun o ho => F.1 o (by omega) (by omega), fun o _ => by rw [F.2.2]⟩
theorem RAf.rh {hd : Nat → Int} {g g1 : AH} (F : RAf g g1) (R : RH hd g) : RH hd g1 := by
  obtain ⟨a1, a2, a3, a4, a5, a6, a7, a8, a9, a10⟩ := R
  refine ⟨fun j hj => ?_, ?_, ?_, ?_, ?_, ?_, fun j hj => ?_, fun j hj => ?_, fun j hj => ?_, fun j hj => ?_⟩
  · rw [F.1 85 (by decide) (by decide)]; exact a1 j hj
  · rw [F.2.1 30 (by decide)]; exact a2
  · rw [F.2.1 31 (by decide)]; exact a3
  · rw [F.2.1 32 (by decide)]; exact a4
  · rw [F.2.1 33 (by decide)]; exact a5
  · rw [F.2.1 34 (by decide)]; exact a6
  · rw [F.1 87 (by decide) (by decide)]; exact a7 j hj
  · rw [F.1 89 (by decide) (by decide)]; exact a8 j hj
  · rw [F.1 91 (by decide) (by decide)]; exact a9 j hj
  · rw [F.1 93 (by decide) (by decide)]; exact a10 j hj
/-- the reference, with another row and acts -/
theorem RRep.mov {S : ST} {g g1 g2 : AH} (R : RRep S g) (V : VS S) (F : RAf g g1) (F2 : RF 97 g1 g2) {d' : DY} {ac' : List DY} (D : RDy d' g2 97) (A : RAc ac' g1) : RRep (sB S, sH S, d', ac', sI S, sE S, sL S, sO S, sW S) g2 := by
  obtain ⟨a1, a2, a3, a4, a5, a6, a7, a8, a9⟩ := R
  have e : ∀ x, x ≠ 80 → x ≠ 84 → x ≠ 97 → x ≠ 99 → g2.1 x = g.1 x := fun x h1 h2 h3 h4 => (F2.2.1 x h1 h2 h3).trans (F.1 x h4 h1)
  have e80 : ∀ j, j ∈ [6, 7, 30, 31, 32, 33, 34, 39, 43, 52, 55] → g2.1 80 j = g.1 80 j := fun j hj => (F2.2.2.1 j (by simp only [List.mem_cons, List.not_mem_nil, or_false] at hj ⊢; omega)).trans (F.2.1 j (by simp only [List.mem_cons, List.not_mem_nil, or_false] at hj; omega))
  refine ⟨⟨by rw [e80 6 (by decide)]; exact a1.1, fun j hj => by rw [e 81 (by decide) (by decide) (by decide) (by decide)]; exact a1.2 j hj⟩, F2.rh (Or.inl rfl) (F.rh a2), D, ⟨by rw [F2.2.2.1 45 (by decide)]; exact A.1, fun i hi j hj => by rw [F2.2.1 99 (by decide) (by decide) (by decide)]; exact A.2 i hi j hj⟩, ?_, ⟨by rw [e80 52 (by decide)]; exact a6.1, fun i hi => by rw [e 100 (by decide) (by decide) (by decide) (by decide), e 101 (by decide) (by decide) (by decide) (by decide), e 102 (by decide) (by decide) (by decide) (by decide)]; exact a6.2 i hi⟩, ⟨by rw [e80 7 (by decide)]; exact a7.1, by rw [e80 43 (by decide)]; exact a7.2.1, fun i hi => ⟨by rw [e 83 (by decide) (by decide) (by decide) (by decide)]; exact (a7.2.2 i hi).1, fun j hj => by rw [e 82 (by decide) (by decide) (by decide) (by decide)]; exact (a7.2.2 i hi).2 j hj⟩⟩, ⟨by rw [e80 39 (by decide)]; exact a8.1, fun i hi => ⟨by rw [e 96 (by decide) (by decide) (by decide) (by decide)]; exact (a8.2 i hi).1, fun j hj => by rw [e 95 (by decide) (by decide) (by decide) (by decide)]; exact (a8.2 i hi).2 j hj⟩⟩, F2.1 (fun j hj => by rw [F.1 84 (by decide) (by decide)]; exact a9 j hj)⟩
  unfold RIm at a5 ⊢
  show match sI S with
    | none => g2.1 80 55 = ii 0
    | some m => g2.1 80 55 = ii 1 ∧ RDy m g2 104
  revert a5
  cases sI S with
  | none => intro a5; rw [e80 55 (by decide)]; exact a5
  | some m => intro a5; exact ⟨by rw [e80 55 (by decide)]; exact a5.1, fun j hj => by rw [e 104 (by decide) (by decide) (by decide) (by decide)]; exact a5.2 j hj⟩
section SS
variable {S : ST} {B : Nat} {h g : AH}
/-- the state behind a step -/
def nS (S : ST) (f c : Nat) (t : Int) : ST := (sB S, sH S, stD (sH S) (sD S) f c t, pu40 (sA S) (sD S), sI S, sE S, sL S, sO S, sW S)
theorem CRep.lws (C : CRep S B h) (V : VS S) : LWs (sL S) (sO S) := by
  obtain ⟨c1, c2, c3, c4, c5, c6, c7⟩ := C
  refine ⟨V.2.2.2.2.2.2.1.1, V.2.2.2.2.2.2.1.2, fun x hx => ?_, V.2.2.2.2.2.2.2.1.1, V.2.2.2.2.2.2.2.1.2⟩
  obtain ⟨i, hi, e⟩ := List.mem_iff_getElem.mp hx
  obtain ⟨Cd, d1, _⟩ := c6.2.2.2.2 i hi
  refine ⟨Cd, ?_⟩
  rw [List.getD_eq_getElem?_getD, List.getElem?_eq_getElem hi] at d1
  rw [← e]; exact d1
theorem pu40_mem {ac : List DY} {d x : DY} (hx : x ∈ pu40 ac d) : x ∈ ac ∨ x = d := by
  unfold pu40 at hx
  rcases List.mem_append.mp hx with z | z
  · left
    split at z
    · exact List.mem_of_mem_tail z
    · exact z
  · right; exact List.mem_singleton.mp z
theorem VS.act (V : VS S) {d' : DY} (hd' : DW (sH S) d') : VS (sB S, sH S, d', pu40 (sA S) (sD S), sI S, sE S, sL S, sO S, sW S) := by
  obtain ⟨v1, v2, v3, v4, v5, v6⟩ := V
  refine ⟨v1, v2, hd', ⟨by show (pu40 (sA S) (sD S)).length ≤ 40; rw [pu40_len v4.1]; omega, fun x hx => ?_⟩, v5, v6⟩
  rcases pu40_mem hx with z | z
  · exact v4.2 x z
  · rw [z]; exact v3
theorem stT_lo (W : HW (sH S)) {f c : Nat} (hf : (f : Int) < (sH S) 7) : 0 ≤ stT (sH S) (sD S) (sL S) (sO S) f c ∧ stT (sH S) (sD S) (sL S) (sO S) f c ≤ 99 := twX_lo W hf c
theorem erT_lo {e : Bool} {t : Int} (h0 : 0 ≤ t) (h1 : t ≤ 99) : 0 ≤ erT e t ∧ erT e t ≤ 99 := by
  unfold erT
  split
  · split <;> omega
  · omega
theorem nS_vs (V : VS S) (W : HW (sH S)) {f c : Nat} (hf : (f : Int) < (sH S) 7) (hc : (c : Int) < cellsM (sH S)) {t : Int} (t0 : 0 ≤ t) (t1 : t ≤ 99) : VS (nS S f c t) := V.act (V.2.2.1.st W hf hc t0 t1)
theorem stp_c (C : CRep S B h) (V : VS S) (W : HW (sH S)) (hB : B < 1000000) {f c : Nat} (hf : (f : Int) < (sH S) 7) (hc : (c : Int) < cellsM (sH S)) (e : Bool) : ∃ h1, f_HF_stepTo (ii f) (ii c) (bI e) h = some (ii (erT e (stT (sH S) (sD S) (sL S) (sO S) f c)), h1) ∧ CRep (nS S f c (erT e (stT (sH S) (sD S) (sL S) (sO S) f c))) (B + 1) h1 ∧ KR h h1 := by
  have Lw := C.lws V
  obtain ⟨c1, ⟨o, ho, o1', o2, o3⟩, ⟨wr, w1, w2, w3⟩, c4, c5, c6, c7⟩ := id C
  obtain ⟨h1, e1, M1, A1, K1⟩ := C_stepTo o1' o3 ho w2 V.2.2.1 W c6 Lw w3 V.2.2.2.1.1 (by omega) hf hc e
  exact ⟨h1, e1, C.mov V K1 (by omega) ⟨wr + 1, by omega, M1, A1⟩, K1.2.2.2.2.2⟩
theorem stp_r (R : RRep S g) (V : VS S) (W : HW (sH S)) (Lw : LWs (sL S) (sO S)) {f c : Nat} {way : Int} (hf : (f : Int) < (sH S) 7) (y0 : -2147483648 ≤ way) (y1 : way ≤ 2147483647) (hg : goM (sH S) (sD S) f way = c) : ∃ g1 g2, f_R_remember g = some g1 ∧ f_R_goes 227 97 (ii f) (ii way) g1 = some (ii (stT (sH S) (sD S) (sL S) (sO S) f c), g2) ∧ RRep (nS S f c (stT (sH S) (sD S) (sL S) (sO S) f c)) g2 ∧ KC g g2 ∧ g2.2.1 = g.2.1 := by
  obtain ⟨a1, a2, a3, a4, a5, a6, a7, a8, a9⟩ := id R
  obtain ⟨g1, e1, A1, F1⟩ := R_rem a4 a3 V.2.2.2.1.1
  have R1 := F1.rh a2
  have D1 : RDy (sD S) g1 97 := fun j hj => by rw [F1.1 97 (by decide) (by decide)]; exact a3 j hj
  have L1 : RLa (sL S) (sO S) g1 := ⟨by rw [F1.2.1 7 (by decide)]; exact a7.1, by rw [F1.2.1 43 (by decide)]; exact a7.2.1, fun i hi => ⟨by rw [F1.1 83 (by decide) (by decide)]; exact (a7.2.2 i hi).1, fun j hj => by rw [F1.1 82 (by decide) (by decide)]; exact (a7.2.2 i hi).2 j hj⟩⟩
  have LR1 : LR g1 := fun j hj => by rw [F1.1 84 (by decide) (by decide)]; exact a9 j hj
  obtain ⟨g2, e2, D2, F2⟩ := R_goes (Or.inl rfl) R1 D1 V.2.2.1 W L1 LR1 Lw hf y0 y1 hg
  exact ⟨g1, g2, e1, e2, R.mov V F1 F2 D2 A1, F1.kc.tr F2.2.2.2.1, by rw [F2.2.2.2.2, F1.2.2]⟩
/-- what both read of a state -/
theorem rx_of (C : CRep S B h) (V : VS S) (R : RRep S g) : ∃ o wr, (o = 43 ∨ o = 49) ∧ RX (sH S) (sD S) o wr h g := by
  obtain ⟨c1, ⟨o, ho, o1', o2, o3⟩, ⟨wr, w1, w2, w3⟩, c4, c5, c6, c7⟩ := C
  exact ⟨o, wr, ho, o1', o3, w2, R.2.1, R.2.2.1, V.2.1, V.2.2.1⟩
/-- how a call comes out on both sides -/
def Call (S : ST) (B : Nat) (h g : AH) (cf rf : Option (Int32 × AH)) : Prop := ∃ x h1 g1 S', cf = some (x, h1) ∧ rf = some (x, g1) ∧ VS S' ∧ CRep S' (B + 64) h1 ∧ RRep S' g1 ∧ KR h h1 ∧ KC g g1
theorem CRep.mono {B' : Nat} (C : CRep S B h) (hB : B ≤ B') : CRep S B' h := by
  obtain ⟨c1, c2, ⟨wr, w1, w2, w3⟩, c4, c5, c6, c7⟩ := C
  exact ⟨c1, c2, ⟨wr, by omega, w2, w3⟩, c4.mono hB, c5, c6, c7⟩
theorem call_same (V : VS S) (C : CRep S B h) (R : RRep S g) {x : Int32} {h1 g1 : AH} {cf rf : Option (Int32 × AH)} (e1 : cf = some (x, h1)) (e2 : rf = some (x, g1)) (K1 : CS h h1) (K2 : RS g g1) : Call S B h g cf rf := ⟨x, h1, g1, S, e1, e2, V, (C.keep V K1.1).mono (by omega), R.keep V K2.1, K1.2, K2.2⟩
theorem k_go (V : VS S) (C : CRep S B h) (R : RRep S g) (hB : B < 900000) {f way : Int} (f0 : -2147483648 ≤ f) (f1 : f ≤ 2147483647) (y0 : -2147483648 ≤ way) (y1 : way ≤ 2147483647) : Call S B h g (f_HF_go (ii f) (ii way) h) (f_R_go (ii f) (ii way) g) := by
  have R0 : RRep S (wI g 80 0 (ii 0)) := R.keep V (RS.t0 g).1
  obtain ⟨o, wr, ho, X⟩ := rx_of C V R0
  obtain ⟨E, Ch, M, Rh, D, W, Vd⟩ := X
  have hcl := W.cells
  have Kt := RS.t0 g (v := ii 0)
  unfold f_HF_go f_R_go
  by_cases q : 0 ≤ f ∧ f < (sH S) 7
  · have HWd := W.hf q.1 q.2
    have hw := HWd.1
    obtain ⟨u, rfl⟩ := Int.eq_ofNat_of_zero_le q.1
    have e1 := C_goal E Ch M Vd HWd q.2 y0 y1
    have e2 := R_where Rh D Vd HWd q.2 y0 y1
    have hgo := goM_lo HWd (d := sD S) u way
    rw [bind_eq e1, bind_eq e2]
    by_cases q2 : goM (sH S) (sD S) u way = -1
    · rw [q2, if_pos rfl, if_pos rfl]
      exact call_same V C R rfl rfl (CS.rf _) Kt
    · obtain ⟨c, hc⟩ := Int.eq_ofNat_of_zero_le (show 0 ≤ goM (sH S) (sD S) u way by omega)
      have hcc : (c : Int) < cellsM (sH S) := by omega
      have hne : ¬ ii (goM (sH S) (sD S) u way) = ii (-1) := by rw [ii_eq (by omega) (by omega) (by omega) (by omega)]; exact q2
      rw [if_neg hne, if_neg hne]
      obtain ⟨h1, s1, s2, s3⟩ := stp_c C V HWd (by omega) q.2 hcc false
      obtain ⟨g1, g2, t1, t2, t3, t4⟩ := stp_r R0 V HWd (C.lws V) q.2 y0 y1 hc
      have htl := stT_lo (S := S) HWd (c := c) q.2
      have s1' : f_HF_stepTo (ii u) (ii (goM (sH S) (sD S) u way)) (ii 0) h = some (ii (stT (sH S) (sD S) (sL S) (sO S) u c), h1) := by rw [hc]; exact s1
      rw [bind_eq s1', bind_eq t1, bind_eq t2]
      exact ⟨_, h1, g2, _, rfl, rfl, nS_vs V HWd q.2 hcc htl.1 htl.2, CRep.mono s2 (by omega), t3, s3, Kt.2.tr t4.1⟩
  · rw [bind_eq (C_goal_out E Ch W f0 f1 q), bind_eq (R_where_out Rh W f0 f1 q), if_pos rfl, if_pos rfl]
    exact call_same V C R rfl rfl (CS.rf _) Kt
end SS
