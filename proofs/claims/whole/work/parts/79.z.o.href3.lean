/-! the reference reads a heath: a clause -/
section RO
variable {bs : List Int} {H : Nat → Int} {g g0 g1 : AH} {m : Nat}
def RCo (bs : List Int) (g1 : AH) (dp : Int) (x : Option AH) (r : Nat ⊕ (Nat × (Nat → Int))) : Prop := match r with
  | .inl e => ∃ g2 p, x = some (GH g2 p e dp) ∧ R8 g1 g2
  | .inr (p, H') => (∃ g2 p', sk bs p' = sk bs p ∧ p' ≤ bs.length ∧ x = some (GH g2 p' (-1) dp) ∧ R8 g1 g2 ∧ RB H' g2) ∨ (spM 6 (ch bs (sk bs p)) ≠ -1 ∧ ∃ g2 p', x = some (GH g2 p' (sk bs p : Nat) dp) ∧ R8 g1 g2)
theorem RCo.tr {g2 : AH} {dp : Int} {x : Option AH} {r : Nat ⊕ (Nat × (Nat → Int))} (w : R8 g1 g2) (z : RCo bs g2 dp x r) : RCo bs g1 dp x r := by
  rcases r with e | ⟨p, H'⟩
  · obtain ⟨g3, p, a, b⟩ := z; exact ⟨g3, p, a, w.tr b⟩
  · rcases z with ⟨g3, p', a, b, c, d, e⟩ | ⟨a, g3, p', b, c⟩
    · exact Or.inl ⟨g3, p', a, b, c, w.tr d, e⟩
    · exact Or.inr ⟨a, g3, p', b, w.tr c⟩
theorem RB.ct {κ : Nat} {v : Int} (R : RB H g) (hk : κ < 5) : RB (upz H (ciM κ) v) (wI g 80 (ctM κ) (ii v)) := by
  intro κ' hk'
  refine ⟨fun j hj => ?_, ?_⟩
  · rw [wI_ne (by omega), upz_n (bs_ci hk' hk hj)]
    exact (R κ' hk').1 j hj
  · rw [wI_self]
    by_cases e : κ' = κ
    · subst e; rw [upd_self, upz_s]
    · rw [upd_ne (fun z => e (ct_inj hk' hk z)), upz_n (fun z => e (ci_inj hk' hk z))]
      exact (R κ' hk').2
/-- a write into the veins read -/
theorem RB.vw {j : Nat} {v : Int} (R : RB H g) (hj : j < 52) : RB (upz H (10 + j) v) (wI g 88 j (ii v)) := by
  intro κ' hk'
  have e10 : bsM 1 + j = 10 + j := rfl
  refine ⟨fun i hi => ?_, ?_⟩
  · by_cases e : bsM κ' + i = 10 + j
    · obtain ⟨e1, e2⟩ := bs_sep hk' (by omega : 1 < 5) hi (show j < lgM 1 from hj) (by rw [e10]; exact e)
      subst e1; subst e2
      show (wI g 88 i (ii v)).1 88 i = ii (upz H (10 + i) v (bsM 1 + i))
      rw [wI_self, upd_self, e10, upz_s]
    · rw [upz_n e]
      by_cases e1 : κ' = 1
      · subst e1
        show (wI g 88 j (ii v)).1 88 i = _
        rw [wI_self, upd_ne (fun z => e (by rw [z]; rfl))]
        exact (R 1 hk').1 i hi
      · rw [wI_ne (by omega)]
        exact (R κ' hk').1 i hi
  · rw [wI_ne (by decide), upz_n (Ne.symm (fun z => bs_ci (κ := 1) (by omega) hk' (show j < lgM 1 from hj) (by rw [e10]; exact z)))]
    exact (R κ' hk').2
theorem RB.ext {H' : Nat → Int} (R : RB H g) (e : ∀ j, H' j = H j) : RB H' g := by rw [show H' = H from funext e]; exact R
theorem R_vein (ok : okB bs) {n q : Nat} {dp : Int} (hn : n < 4) (e : H 4 = n) (hp : HP H n) (hq : q ≤ bs.length) (X : GX bs 81 0 g1) (R : RB H g1) : RCo bs g1 dp (f_R_readVein (GH g1 q (-1) dp)) (clB bs 1 n q (beg H 1 n)) := by
  have hl := ok.1
  have F0 : R8 g1 (wI g1 80 35 (ii ((n : Int) + 1))) := R8.wc (by decide)
  have R1 : RB (upz H (ciM 1) ((n : Int) + 1)) (wI g1 80 35 (ii ((n : Int) + 1))) := R.ct (κ := 1) (by omega)
  have e35 : g1.1 80 35 = ii n := by have := (R 1 (by omega)).2; rw [show ciM 1 = 4 from rfl, e] at this; exact this
  have G35 : (GH g1 q (-1) dp).1 80 35 = ii n := e35
  have w35 : wI (GH g1 q (-1) dp) 80 35 (ii ((n : Int) + 1)) = GH (wI g1 80 35 (ii ((n : Int) + 1))) q (-1) dp := GH_w80 (by decide) (by decide) (by decide)
  have G35' : (GH (wI g1 80 35 (ii ((n : Int) + 1))) q (-1) dp).1 80 35 = ii ((n : Int) + 1) := by show (wI g1 80 35 (ii ((n : Int) + 1))).1 80 35 = _; rw [wI_self, upd_self]
  have er : (ii 13) * (ii ((n : Int) + 1) - (ii 1)) = ii ((13 * n : Nat) : Int) := by rw [ii_sub, ii_mul]; congr 1; omega
  have it := R_items ok (κ := 1) (n := n) (q := q) (dp := dp) (by omega) (by omega) (show n < cpM 1 from hn) (show H (ciM 1) = n from e) hp hq (X.r8 F0) R1
  have io := itF_ok ok (n := n) (m := n) (by omega) (show 1 < 5 by omega) 7 (fun _ => false) q (beg H 1 n) hq (by decide) (hp.bg (by omega) (by omega) (show n < cpM 1 from hn) e) ((beg_vld (by omega) (by omega) (show n < cpM 1 from hn) e).mpr (Or.inr ⟨rfl, rfl⟩))
  have est : f_R_readVein (GH g1 q (-1) dp) = (f_R_readItems (ii 118) 52 88 (ii ((13 * n : Nat) : Int)) 2 (GH (wI g1 80 35 (ii ((n : Int) + 1))) q (-1) dp)).bind fun q1 => if ((wI q1 88 (13 * n + 3) (ii 0)).1 80 11) = (ii (-1)) then (f_R_look (wI q1 88 (13 * n + 3) (ii 0))).bind fun q2 => if q2.1 = (ii 58) then (f_R_readWays 52 88 (ii ((13 * n + 4 : Nat) : Int)) (ii 1) (wI q2.2 80 10 ((q2.2.1 80 10) + (ii 1)))).bind fun q3 => some (wI q3.2 88 (13 * n + 3) q3.1) else some q2.2 else some (wI q1 88 (13 * n + 3) (ii 0)) := by
    unfold f_R_readVein
    have a3 : ii ((13 * n : Nat) : Int) + ii 3 = ii ((13 * n + 3 : Nat) : Int) := by rw [ii_add]; rfl
    have a4 : ii ((13 * n : Nat) : Int) + ii 4 = ii ((13 * n + 4 : Nat) : Int) := by rw [ii_add]; rfl
    have i3 : inb (ii ((13 * n + 3 : Nat) : Int)) 52 = true := by rw [ii_inb (by omega) (by omega)]; omega
    have n3 : (ii ((13 * n + 3 : Nat) : Int)).toNatClampNeg = 13 * n + 3 := by rw [ii_nat (by omega) (by omega), Int.toNat_natCast]
    rw [G35, ii_add, w35, G35', er, a3, a4, n3]
    simp only [i3, if_true]
  rw [est]
  have it' : match itF bs 1 n 7 (fun _ => false) q (beg H 1 n) with
    | .inl e => ∃ g2 p, f_R_readItems (ii 118) 52 88 (ii ((13 * n : Nat) : Int)) 2 (GH (wI g1 80 35 (ii ((n : Int) + 1))) q (-1) dp) = some (GH g2 p e dp) ∧ R8 (wI g1 80 35 (ii ((n : Int) + 1))) g2
    | .inr (p, H') => ∃ g2, f_R_readItems (ii 118) 52 88 (ii ((13 * n : Nat) : Int)) 2 (GH (wI g1 80 35 (ii ((n : Int) + 1))) q (-1) dp) = some (GH g2 p (-1) dp) ∧ R8 (wI g1 80 35 (ii ((n : Int) + 1))) g2 ∧ RB H' g2 := it
  refine RCo.tr F0 ?_
  unfold clB
  generalize itF bs 1 n 7 (fun _ => false) q (beg H 1 n) = r at *
  rcases r with e | ⟨p, H'⟩
  · obtain ⟨g2, p, z1, z2⟩ := it'
    have io' : e ≤ bs.length := io
    refine ⟨wI g2 88 (13 * n + 3) (ii 0), p, ?_, z2.tr (R8.w (κ := 1) (by omega))⟩
    rw [bind_eq z1, GH_w (by decide), GH_f, if_neg (by rw [ii_eq (by omega) (by omega) (by omega) (by omega)]; omega)]
  · obtain ⟨g2, z1, z2, z3⟩ := it'
    simp only at io ⊢
    obtain ⟨i1, i2, i3, i4, i5, i6⟩ := io
    rw [if_pos trivial]
    have F3 : R8 (wI g1 80 35 (ii ((n : Int) + 1))) (wI g2 88 (13 * n + 3) (ii 0)) := z2.tr (R8.w (κ := 1) (by omega))
    have X3 := (X.r8 F0).r8 F3
    have R3 : RB (upz H' (10 + (13 * n + 3)) 0) (wI g2 88 (13 * n + 3) (ii 0)) := z3.vw (by omega)
    refine RCo.tr F3 ?_
    rw [bind_eq z1, GH_w (by decide), GH_f, if_pos rfl]
    generalize wI g2 88 (13 * n + 3) (ii 0) = g3 at *
    have e1 := G_lk X3 (ft := -1) (dp := dp) i2
    rw [i3] at e1
    have hc := ch_lo ok p
    rw [bind_eq e1]
    simp only
    unfold coF
    rw [i3]
    by_cases q1 : ch bs p = 58
    · have hlt : p < bs.length := ch_lt (by omega)
      rw [if_pos q1, if_pos (by rw [q1]), GH_a, ii_add ((p : Nat) : Int), GH_inc]
      have rw1 := R_rways (oa := 88) (n1 := 52) (b := 13 * n + 4) (a := 1) (by decide) (by decide) (by omega) (Or.inl rfl) (by omega) ok (dp := dp) (q := p + 1) (by omega) X3
      have ow := wyF_ok (ok := ok) 8 (p + 1) [] (by omega) (by simp) (by simp)
      have e1' : ii (1 : Int) = ii ((1 : Nat) : Int) := rfl
      rw [← e1'] at rw1
      have fr : ∀ g4, WFr 88 (13 * n + 4) 1 g3 g4 → ∀ v, R8 g3 (wI g4 88 (13 * n + 3) v) := fun g4 F v => by
        refine R8.tr ⟨F.1, fun x h1 _ h3 _ _ _ => F.2.1 x h3, fun j _ => by rw [F.2.1 80 (by decide)]⟩ (R8.w (κ := 1) (by omega))
      generalize wyF bs 8 (p + 1) [] = r2 at *
      rcases r2 with e | ⟨p2, ws⟩
      · obtain ⟨i', g4, y1, y2⟩ := rw1
        refine ⟨wI g4 88 (13 * n + 3) i', e, ?_, fr g4 y2 i'⟩
        rw [bind_eq y1]
        simp only
        rw [GH_w (by decide)]
      · simp only at rw1 ow ⊢
        have hp2 := sk_lo ow.1
        by_cases q2 : spM 6 (ch bs (sk bs p2)) = -1
        · rw [if_pos q2] at rw1
          obtain ⟨g4, y1, y2, y3, _, y5⟩ := rw1
          refine Or.inl ⟨wI g4 88 (13 * n + 3) (ii ws.length), sk bs p2, sk_sk p2, hp2.2, ?_, fr g4 y2 _, ?_⟩
          · rw [bind_eq y1]
            simp only
            rw [GH_w (by decide)]
          · intro κ hk
            refine ⟨fun j hj => ?_, ?_⟩
            · by_cases ek : κ = 1
              · subst ek
                have hj' : j < 52 := hj
                show (wI g4 88 (13 * n + 3) (ii ws.length)).1 88 j = ii (wfi H' n ws (10 + j))
                have r3 := (R3 1 (by omega)).1 j hj
                have r3' : g3.1 88 j = ii (upz H' (10 + (13 * n + 3)) 0 (10 + j)) := r3
                rw [wI_self]
                by_cases ej : j = 13 * n + 3
                · rw [ej, upd_self, show 10 + (13 * n + 3) = 10 + 13 * n + 3 by omega, wf_l]
                · rw [upd_ne ej]
                  rw [upz_n (by omega)] at r3'
                  by_cases ej2 : 13 * n + 4 ≤ j ∧ j < 13 * n + 4 + ws.length
                  · obtain ⟨u, hu⟩ : ∃ u, u = j - (13 * n + 4) := ⟨_, rfl⟩
                    have := y3 u (by omega)
                    rw [show 13 * n + 4 + 1 * u = j by omega] at this
                    rw [this, show 10 + j = 10 + 13 * n + 4 + u by omega, wf_w (by omega)]
                  · have ey : g4.1 88 j = g3.1 88 j := by
                      by_cases ej3 : j < 13 * n + 4
                      · exact y2.2.2 j (Or.inl ej3)
                      · exact y5 j (by omega)
                    rw [ey, r3']
                    unfold wfi
                    rw [if_neg (by omega), if_neg (by omega)]
              · have r3 := (R3 κ hk).1 j hj
                have hne : 86 + 2 * κ ≠ 88 := by omega
                rw [wI_ne hne, y2.2.1 _ hne, r3, upz_n (fun z => ek (bs_sep hk (show 1 < 5 by omega) hj (show 13 * n + 3 < lgM 1 by show 13 * n + 3 < 52; omega) (by rw [z]; rfl)).1)]
                congr 1
                symm
                unfold wfi
                have hs : ∀ i, i < 52 → bsM κ + j ≠ 10 + i := fun i hi z => ek (bs_sep hk (show 1 < 5 by omega) hj (show i < lgM 1 from hi) (by rw [z]; rfl)).1
                have h8 := ow.2.1
                rw [if_neg (fun z => hs (13 * n + 3) (by omega) (by omega)), if_neg (fun z => hs (bsM κ + j - 10) (by omega) (by omega))]
            · have hci := ci_lo hk
              rw [wI_ne (by decide), y2.2.1 80 (by decide), (R3 κ hk).2, upz_n (by omega), wf_n ow.2.1 (by omega)]
        · rw [if_neg q2] at rw1
          obtain ⟨i', g4, y1, y2⟩ := rw1
          refine Or.inr ⟨q2, wI g4 88 (13 * n + 3) i', sk bs p2, ?_, fr g4 y2 i'⟩
          rw [bind_eq y1]
          simp only
          rw [GH_w (by decide)]
    · rw [if_neg q1, if_neg (by rw [ii_eq (by omega) (by omega) (by omega) (by omega)]; exact q1)]
      refine Or.inl ⟨g3, p, rfl, i2, rfl, R8.rf _, R3.ext (fun j => ?_)⟩
      unfold wfi upz
      by_cases ej : j = 10 + 13 * n + 3
      · rw [if_pos ej, if_pos (by omega)]; rfl
      · rw [if_neg ej, if_neg (show ¬ (10 + 13 * n + 4 ≤ j ∧ j < 10 + 13 * n + 4 + ([] : List Nat).length) by simp), if_neg (by omega)]
end RO
