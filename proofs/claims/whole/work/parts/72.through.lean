/-! the reference goes through a law -/
theorem sh81 : (shA 81).2 = 240 ∧ (shA 82).2 = 960 := by decide +kernel
section TH
variable {bs : List Int} {g : AH}
theorem G_go {T b0 n1 : Nat} (hT : T = 81 ∨ T = 82) (ok : okB bs) (hb : b0 + bs.length ≤ (shA T).2) (ht : ∀ j, j < bs.length → g.1 T (b0 + j) = sb (bs.getD j 0)) {L : Nat → Int32} (hL : LTR g L) : ∃ g', f_R_goThrough n1 T (ii b0) (ii bs.length) g = some g' ∧ RS g g' ∧ (g'.2.1 = g.2.1 ∧ ∀ x, x ≠ 80 → g'.1 x = g.1 x) ∧ (match pLaw bs with
    | .inl e => e ≤ bs.length ∧ g'.1 80 11 = ii e
    | .inr C => g'.1 80 11 = ii (-1) ∧ g'.1 80 14 = wrthF L C false []) := by
  have hl := ok.1
  have hsh : (shA T).2 ≤ 960 ∧ T ≠ 80 := by
    have := sh81
    rcases hT with e | e <;> subst e <;> omega
  unfold f_R_goThrough f_R_starts
  rw [Option.bind_some]
  obtain ⟨gs, hgs⟩ : ∃ gs, gs = (wI (wI (wI (wI (wI (wI (wI (wI (wR g 80 5 T) 80 8 (ii b0)) 80 9 (ii bs.length)) 80 10 (ii 0)) 80 11 (ii (-1))) 80 13 (ii 121)) 80 12 (ii 0)) 80 17 (ii 0)) 80 14 (ii 0)) := ⟨_, rfl⟩
  rw [← hgs]
  have rd : ∀ j, gs.1 80 j = if j = 14 then ii 0 else if j = 17 then ii 0 else if j = 12 then ii 0 else if j = 13 then ii 121 else if j = 11 then ii (-1) else if j = 10 then ii 0 else if j = 9 then ii bs.length else if j = 8 then ii b0 else g.1 80 j := by
    intro j
    rw [hgs]
    simp only [wI_self, upd]
    rfl
  have rn : ∀ x, x ≠ 80 → gs.1 x = g.1 x := by
    intro x hx
    rw [hgs, wI_ne hx, wI_ne hx, wI_ne hx, wI_ne hx, wI_ne hx, wI_ne hx, wI_ne hx, wI_ne hx]; rfl
  have r2 : gs.2 = (wR g 80 5 T).2 := by rw [hgs]; rfl
  clear hgs
  have r5 : gs.2.2 80 5 = T := by
    rw [r2]
    show (wR g 80 5 T).2.2 80 5 = T
    rw [wR_rd]; simp
  have X : GX bs T b0 gs := ⟨r5, rd 8, rd 9, hb, hsh.2, fun j hj => by rw [rn T hsh.2]; exact ht j hj, ok, by omega, by omega⟩
  have hLs : LTR gs L := by unfold LTR; rw [rn 84 (by decide)]; exact hL
  have hN : GN gs := ⟨rd 13, rd 17⟩
  have e0 : gs = GH (gF gs none) 0 (-1) 0 := by
    apply heap_ext
    · intro x
      by_cases e : x = 80
      · subst e
        funext j
        rw [GH_80]
        show gs.1 80 j = if j = 10 then _ else if j = 11 then _ else if j = 12 then _ else gs.1 80 j
        by_cases e1 : j = 10
        · subst e1; rw [if_pos rfl]; exact rd 10
        · rw [if_neg e1]
          by_cases e2 : j = 11
          · subst e2; rw [if_pos rfl]; exact rd 11
          · rw [if_neg e2]
            by_cases e3 : j = 12
            · subst e3; rw [if_pos rfl]; exact rd 12
            · rw [if_neg e3]
      · rw [GH_n e]; rfl
    · rfl
  have keep : ∀ (fo : Option Int32) (p : Nat) (ft dp : Int), RS g (GH (gF gs fo) p ft dp) ∧ (GH (gF gs fo) p ft dp).2.1 = g.2.1 ∧ ∀ x, x ≠ 80 → (GH (gF gs fo) p ft dp).1 x = g.1 x := by
    intro fo p ft dp
    have ex : ∀ x, x ≠ 80 → (GH (gF gs fo) p ft dp).1 x = g.1 x := by
      intro x hx
      rw [GH_n hx]
      cases fo with
      | none => exact rn x hx
      | some v =>
        show (setF gs v).1 x = _
        unfold setF; rw [wI_ne hx, wI_ne hx]; exact rn x hx
    have e80 : ∀ j, j ∈ [6, 7, 30, 31, 32, 33, 34, 39, 43, 45, 52, 55] → (GH (gF gs fo) p ft dp).1 80 j = g.1 80 j := by
      intro j hj
      have hj2 : j ≠ 10 ∧ j ≠ 11 ∧ j ≠ 12 ∧ j ≠ 14 ∧ j ≠ 17 ∧ j ≠ 13 ∧ j ≠ 9 ∧ j ≠ 8 := by
        simp only [List.mem_cons, List.not_mem_nil, or_false] at hj; omega
      obtain ⟨h1, h2, h3, h4, h5, h6, h7, h8⟩ := hj2
      have e1 : gs.1 80 j = g.1 80 j := by rw [rd j]; simp only [h1, h2, h3, h4, h5, h6, h7, h8, if_false]
      rw [GH_80, if_neg h1, if_neg h2, if_neg h3]
      cases fo with
      | none => exact e1
      | some v =>
        show (setF gs v).1 80 j = _
        unfold setF; rw [wI_self, upd_ne h4, wI_self, upd_ne h5]; exact e1
    have e22 : ∀ o, o < 80 → (GH (gF gs fo) p ft dp).2.2 o = g.2.2 o := by
      intro o ho
      have : (GH (gF gs fo) p ft dp).2 = gs.2 := by cases fo <;> rfl
      rw [this, r2]
      funext j
      show (wR g 80 5 T).2.2 o j = _
      rw [wR_rd, if_neg (by omega)]
    exact ⟨⟨⟨fun l j hj => by rw [ex 84 (by decide)]; exact l j hj, fun o ho => ex o (by intro z; subst z; revert ho; decide), fun j _ => by rw [ex 95 (by decide)], fun j _ => by rw [ex 96 (by decide)], e80⟩, fun o ho => ex o (by omega), e22⟩, by
      have : (GH (gF gs fo) p ft dp).2 = gs.2 := by cases fo <;> rfl
      rw [this, r2]; rfl, ex⟩
  have hFU := fu_1000
  generalize FU = F at *
  have h250 : 240 < 250 := by omega
  have main : GLs bs gs L ((f_R_clause (GH (gF gs none) 0 (-1) 0)).bind fun q2 => R_goThrough_L32 F q2) (pLaw bs) := by
    unfold pLaw
    generalize (250 : Nat) = G at *
    exact G_lp X hLs hN bs.length 0 F G [] none (by omega) (by omega) (by omega) (by omega) (fun R => rfl)
  rw [← e0] at main
  revert main
  cases pLaw bs with
  | inl e =>
    rintro ⟨he, fo, p', dp', h1⟩
    obtain ⟨k1, k2⟩ := keep fo p' e dp'
    exact ⟨_, h1, k1, k2, he, GH_f⟩
  | inr C =>
    rintro ⟨fo, q, h1, h2⟩
    obtain ⟨k1, k2⟩ := keep fo q (-1) 0
    refine ⟨_, h1, k1, k2, GH_f, ?_⟩
    rw [h2]
    cases fo with
    | none => exact rd 14
    | some v =>
      show (setF gs v).1 80 14 = v
      unfold setF; rw [wI_self, upd_self]
end TH
