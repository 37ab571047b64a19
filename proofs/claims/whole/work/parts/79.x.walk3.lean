/-! walks: fault and text -/
section WT3
variable {S : ST} {B : Nat} {h g h' g' h1 g1 : AH} {bs : List Int}
theorem R_starts {n1 : Nat} {l : Int32} (g : AH) : f_R_starts n1 81 (ii 0) l g = some (GH (wI (wI (wR g 80 5 81) 80 8 (ii 0)) 80 9 l) 0 (-1) (vI (g.1 80 12))) := by
  unfold f_R_starts
  congr 1
  apply heap_ext
  · intro x
    by_cases e : x = 80
    · subst e
      funext j
      rw [GH_80]
      simp only [wI_self, wR_1]
      by_cases e1 : j = 11
      · rw [e1, upd_self]; rfl
      · rw [upd_ne e1]
        by_cases e2 : j = 10
        · rw [e2, upd_self]; rfl
        · rw [upd_ne e2, if_neg e2, if_neg e1]
          by_cases e3 : j = 12
          · rw [if_pos e3, e3, upd_ne (by decide), upd_ne (by decide)]; exact vI_ii _
          · rw [if_neg e3]
    · rw [GH_n e, wI_ne e, wI_ne e, wI_ne e, wI_ne e]
  · rfl
theorem R_st_gx (t : TP 80 6 81 sb g bs) (ok : okB bs) : GX bs 81 0 (wI (wI (wR g 80 5 81) 80 8 (ii 0)) 80 9 (ii bs.length)) := by
  have hl := ok.1
  have hsh := sh81
  refine ⟨?_, ?_, ?_, by omega, by decide, fun j hj => ?_, ok, by omega, by omega⟩
  · show (wR g 80 5 81).2.2 80 5 = 81
    rw [wR_rd]; rfl
  · rw [wI_self, upd_ne (by decide), wI_self, upd_self]; rfl
  · rw [wI_self, upd_self]
  · rw [wI_ne (by decide), wI_ne (by decide), wR_1, Nat.zero_add]; exact t.2 j hj
theorem RS.st {l : Int32} : RS g (wI (wI (wR g 80 5 81) 80 8 (ii 0)) 80 9 l) := by
  refine ⟨⟨fun L j hj => by rw [wI_ne (by decide), wI_ne (by decide)]; exact L j hj, fun o ho => ?_, fun j _ => by rw [wI_ne (by decide), wI_ne (by decide)]; rfl, fun j _ => by rw [wI_ne (by decide), wI_ne (by decide)]; rfl, fun j hj => ?_⟩, fun o ho => by rw [wI_ne (by omega), wI_ne (by omega)]; rfl, fun o ho => ?_⟩
  · rw [wI_ne (fun z => by subst z; exact absurd ho (by decide)), wI_ne (fun z => by subst z; exact absurd ho (by decide))]; rfl
  · rw [wI_self, upd_ne (fun z => by subst z; exact absurd hj (by decide)), wI_self, upd_ne (fun z => by subst z; exact absurd hj (by decide))]; rfl
  · funext j
    show (wR g 80 5 81).2.2 o j = _
    rw [wR_rd, if_neg (by omega)]
theorem RS.gh {p : Nat} {ft dp : Int} : RS g (GH g p ft dp) := by
  refine ⟨⟨fun L j hj => by rw [GH_n (by decide)]; exact L j hj, fun o ho => GH_n (fun z => by subst z; exact absurd ho (by decide)), fun j _ => by rw [GH_n (by decide)], fun j _ => by rw [GH_n (by decide)], fun j hj => ?_⟩, fun o ho => GH_n (by omega), fun o ho => by rw [GH_2]⟩
  rw [GH_80, if_neg (fun z => by subst z; exact absurd hj (by decide)), if_neg (fun z => by subst z; exact absurd hj (by decide)), if_neg (fun z => by subst z; exact absurd hj (by decide))]
theorem RS.w9 (w : W9 g g1) : RS g g1 := by
  refine ⟨⟨fun L j hj => by rw [w.2.1 84 (by decide) (by decide)]; exact L j hj, fun o ho => w.2.1 o (fun z => by subst z; exact absurd ho (by decide)) (fun z => by subst z; exact absurd ho (by decide)), w.2.2.1, w.2.2.2, fun j _ => by rw [w.2.1 80 (by decide) (by decide)]⟩, fun o ho => w.2.1 o (by omega) (by omega), fun o _ => by rw [w.1]⟩
theorem R_wfault (t : TP 80 6 81 sb g bs) (ok : okB bs) : (match stF bs 8 0 [] with
    | .inl e => ∃ g1, f_R_fault (ii 2) g = some (ii e, g1) ∧ RS g g1
    | .inr A => ∃ g1, f_R_fault (ii 2) g = some (ii (-1), g1) ∧ RS g g1 ∧ WSo A g1 ∧ g1.1 96 4 = ii A.length) := by
  have hFU := fu_1000
  have t0 : TP 80 6 81 sb (wI g 80 0 (ii 0)) bs := ⟨by rw [wI_self, upd_ne (by decide)]; exact t.1, fun j hj => by rw [wI_ne (by decide)]; exact t.2 j hj⟩
  have Kt := RS.t0 g (v := ii 0)
  have e0 : f_R_fault (ii 2) g = (f_R_readWalks (wI g 80 0 (ii 0))).bind fun q => some (q.1 80 11, q) := by
    unfold f_R_fault
    rw [if_neg (by decide), if_neg (by decide), Option.bind_some, if_neg (by decide), Option.bind_some, if_pos rfl]
    cases f_R_readWalks (wI g 80 0 (ii 0)) <;> rfl
  rw [e0]
  generalize wI g 80 0 (ii 0) = g0 at *
  have X := R_st_gx t0 ok
  have K1 := RS.st (g := g0) (l := ii bs.length)
  have e1 : f_R_readWalks g0 = R_readWalks_L19 FU (ii 0) (ii 0) (ii 1) (GH (wI (wI (wR g0 80 5 81) 80 8 (ii 0)) 80 9 (ii bs.length)) 0 (-1) (vI (g0.1 80 12))) := by
    unfold f_R_readWalks
    generalize FU = F at *
    rw [t0.1, bind_eq (R_starts g0)]
  rw [e1]
  generalize wI (wI (wR g0 80 5 81) 80 8 (ii 0)) 80 9 (ii bs.length) = gs at *
  have key := R_rw rfl ok (dp := vI (g0.1 80 12)) 7 0 [] 0 FU gs (by omega) (by omega) (by simp) (by omega) X (fun j hj => absurd hj (by simp))
  have key' : GWo gs (vI (g0.1 80 12)) (R_readWalks_L19 FU (ii 0) (ii 0) (ii 1) (GH gs 0 (-1) (vI (g0.1 80 12)))) (stF bs 8 0 []) := key
  generalize stF bs 8 0 [] = r at *
  rcases r with e | A
  · obtain ⟨g2, p, z1, z2⟩ := key'
    refine ⟨_, by rw [bind_eq z1, GH_f], (Kt.tr K1).tr ((RS.w9 z2).tr RS.gh)⟩
  · obtain ⟨g2, p, z1, z2, z3, z4⟩ := key'
    exact ⟨_, by rw [bind_eq z1, GH_f], (Kt.tr K1).tr ((RS.w9 z2).tr RS.gh), fun j hj => by rw [GH_n (by decide)]; exact z3 j hj, by rw [GH_n (by decide)]; exact z4⟩
/-- what was read is such as walks are -/
theorem stF_ok (ok : okB bs) : ∀ (k q : Nat) (ac : List (Nat × Nat)), q ≤ bs.length → ac.length + 8 * k ≤ 64 → (∀ x ∈ ac, x.1 ≤ 9 ∧ x.2 ≤ 3) → (match stF bs k q ac with
    | .inl e => e ≤ bs.length
    | .inr A => A.length ≤ 64 ∧ ∀ x ∈ A, x.1 ≤ 9 ∧ x.2 ≤ 3)
  | 0, q, ac, hq, hl, ha => hq
  | k + 1, q, ac, hq, hl, ha => by
    have hk := sk_lo hq
    unfold stF
    by_cases q1 : 48 ≤ ch bs (sk bs q) ∧ ch bs (sk bs q) ≤ 57
    · rw [if_pos q1]
      have hlt : sk bs q < bs.length := ch_lt (by omega)
      have ow := wyF_ok (ok := ok) 8 (sk bs q + 1) [] (by omega) (by simp) (by simp)
      generalize wyF bs 8 (sk bs q + 1) [] = r at *
      rcases r with e | ⟨p, ws⟩
      · exact ow
      · simp only at ow ⊢
        have hp := sk_lo ow.1
        have hA : (ac ++ pr2 (ch bs (sk bs q) - 48).toNat ws).length ≤ ac.length + 8 := by rw [List.length_append, pr2_len]; omega
        have hB : ∀ x ∈ ac ++ pr2 (ch bs (sk bs q) - 48).toNat ws, x.1 ≤ 9 ∧ x.2 ≤ 3 := fun x hx => by
          rcases List.mem_append.mp hx with z | z
          · exact ha x z
          · unfold pr2 at z
            obtain ⟨w, hw, e⟩ := List.mem_map.mp z
            rw [← e]
            exact ⟨by omega, ow.2.2 w hw⟩
        by_cases q2 : ch bs (sk bs p) = -1
        · rw [if_pos q2]; exact ⟨by omega, hB⟩
        · rw [if_neg q2]
          by_cases q3 : ch bs (sk bs p) = 59 ∧ k ≠ 0
          · rw [if_pos q3]
            have := ch_lt (bs := bs) (p := sk bs p) (by omega)
            exact stF_ok ok k _ _ (by omega) (by omega) hB
          · rw [if_neg q3]; exact hp.2
    · rw [if_neg q1]; exact hk.2
theorem WX.ks {o q : Nat} {A : List (Nat × Nat)} (X : WX bs h o q A h1) (ho : 70 ≤ o ∧ o ≤ 78) (e : ww h 4 = o) : CKs h h1 ∧ KR h h1 := by
  obtain ⟨x1, x2, x3, x4, x5⟩ := X
  refine ⟨⟨fun x hx hs hp => ?_, x3 1 (by decide), by rw [x1 33 (by decide) (by omega) (by omega)], fun x hx _ => ?_, by rw [x2]⟩, ⟨fun x hx => x1 x (by omega) (by omega) (by omega), fun x hx => by rw [x2], by rw [x2]⟩⟩
  · unfold spP at hp
    refine x1 x (fun z => by subst z; exact absurd hs (by decide)) (fun z => hp (by omega)) (fun z => hp (by omega))
  · simp only [List.mem_cons, List.not_mem_nil, or_false] at hx
    rw [x1 x (by omega) (by omega) (by omega)]
theorem k_fault2 (V : VS S) (C : CRep S B h) (R : RRep S g) : Call S B h g (f_HF_fault (ii 2) h) (f_R_fault (ii 2) g) := by
  have hw4 := C.2.2.2.2.2.2.2.1 4 (by omega)
  have hw : 70 ≤ ww h 4 ∧ ww h 4 ≤ 78 := by simp only [List.mem_cons, List.not_mem_nil, or_false] at hw4; omega
  have e9 : h.2.2 9 0 = ww h 4 := rfl
  have c := C_wfault V.1 C.1 hw.1 e9
  have r := R_wfault R.1 V.1
  have e0 : f_HF_fault (ii 2) h = f_WR_faultOf h := by
    unfold f_HF_fault
    rw [if_neg (by decide), if_neg (by decide), if_pos rfl]
    cases f_WR_faultOf h <;> rfl
  rw [e0]
  generalize stF (sB S) 8 0 [] = z at *
  rcases z with e | A
  · obtain ⟨h1, A, z1, z2⟩ := c
    obtain ⟨g1, y1, y2⟩ := r
    exact call_ks V C R z1 y1 (z2.ks hw rfl).1 (z2.ks hw rfl).2 y2
  · obtain ⟨h1, p, z1, z2⟩ := c
    obtain ⟨g1, y1, y2, _⟩ := r
    exact call_ks V C R z1 y1 (z2.ks hw rfl).1 (z2.ks hw rfl).2 y2
end WT3
