section HP
variable {Γ : AG} {p : Program} {e : Env} {R : Room} {s : State} {m : MethodId} {args : Array Value} {below : List Frame} {meth : Method} {c : Code} {cc : ByteArray} {nL own : Nat} {Q : State → Prop} {lv lv' : LV} {st st' : List AV} {h h' : AH} {pc pc' len : Nat} {g : Prop}
theorem kvA_str {n o : Nat} (hv : okV (vr 31 n o)) : o < 10 := by
  rcases hv with ⟨-, -, a⟩ | ⟨a, -⟩ | ⟨a, -⟩ | ⟨a, -⟩
  · exact a
  all_goals (exfalso; revert a; decide)
theorem kvA_val {n o : Nat} (hv : okV (vr 32 n o)) : o < 10 ∧ n = stL o := by
  rcases hv with ⟨a, -⟩ | ⟨-, a⟩ | ⟨a, -⟩ | ⟨a, -⟩
  · exfalso; revert a; decide
  · exact a
  all_goals (exfalso; revert a; decide)
theorem kvA_sta {n o : Nat} (hv : okV (vr 30 n o)) : o < 4 ∧ n = taL o := by
  rcases hv with ⟨a, -⟩ | ⟨a, -⟩ | ⟨-, a⟩ | ⟨a, -⟩
  · exfalso; revert a; decide
  · exfalso; revert a; decide
  · exact a
  · exfalso; revert a; decide
theorem str_len {o : Nat} (ho : o < 10) : (am_str.map List.length).getD o 0 = stL o := by
  have h : ∀ o, o < 10 → (am_str.map List.length).getD o 0 = stL o := by decide +kernel
  exact h o ho
theorem sp_getfield {k : Nat} (C : Cx Γ p s m args c cc nL own) (ho : own < 18) (hd : decode cc pc = .ok (.getfield k, len)) (hl : len = ilen (.getfield k)) (hs : stp own (pc, .getfield k, len) lv st h = some (pc', lv', st', h', g)) (hg : g) (w : WH Γ p e R s m args below meth c nL Q pc' lv' st' h') : WH Γ p e R s m args below meth c nL Q pc lv st h := by
  obtain ⟨hx, hb, hml, hown, hts, hK, hN, hT⟩ := C
  subst hl
  simp only [stp] at hs
  split at hs
  · rename_i ci j nest pos kk n o st0 hq
    split at hs
    · rename_i hkc
      subst hkc
      split at hs
      · rename_i v hv
        obtain ⟨rfl, rfl, rfl, rfl, rfl⟩ := some5 hs
        have hch := chF_ok own ho _ (fnd_mem hq)
        unfold chF at hch
        intro oh ol os H locs ls hP hD hS hL
        obtain ⟨ov, os0⟩ := okS_cons.mp os
        split at hch
        · rename_i q hcl
          simp only at hcl hch
          rw [Bool.and_eq_true, decide_eq_true_eq] at hch
          obtain ⟨hj, hch⟩ := hch
          have hk13 : kk < 13 := by
            rcases Nat.lt_or_ge kk 13 with hlt | hge
            · exact hlt
            · rw [cl_no kk hge] at hcl; cases hcl
          have hsh := okV_ref (by omega) ov
          obtain ⟨okv, hcv⟩ := rdF_ok (Γ := Γ) hsh hk13 oh hv
          have hq3 : q.2.2 = nfA kk := by
            have := cl_fk kk hk13
            rw [hcl] at this
            exact Option.some.inj this
          have he := wsA_at Γ h (sh_lt hsh)
          rw [ceA_obj hsh hk13] at he
          have hfs : ((List.range (nfA kk)).map (fvA Γ kk o h))[j]? = some (cv Γ v) := by
            rw [hcv]
            simp [← hq3, hj]
          have k2 := w oh ol (okS_cons.mpr ⟨okv, os0⟩) H locs ls hP hD hS hL
          rw [List.map_cons] at k2
          show W p (gl Γ) e R s m args below meth c H locs 0 0 Q (F0 m pc ls (cv Γ (vr kk n o) :: st0.map (cv Γ)))
          rw [cv_ref (by omega)]
          split at hch
          · rw [decide_eq_true_eq] at hch
            exact va_get hx hb hts (r_fld hcl (j := 0)) hown hK hP o he hcl j hj (hts _ (gw_t _ hch rfl)) (fun _ z => z) hfs hd k2
          · rw [Bool.and_eq_true, decide_eq_true_eq, decide_eq_true_eq] at hch
            exact va_getN hx hb hts (r_fld hcl (j := 0)) hown hK hP o he hcl j hj (va_Nw.use rfl (hN _ (nw_t _ hch.2 rfl))) (fun _ z => z) hfs hd k2
        · rename_i hcl
          simp only [Bool.and_eq_true, decide_eq_true_eq] at hch
          obtain ⟨⟨hk31, -⟩, hch⟩ := hch
          subst hk31
          have ho10 := kvA_str ov
          show W p (gl Γ) e R s m args below meth c H locs 0 0 Q (F0 m pc ls (cv Γ (vr 31 n o) :: st0.map (cv Γ)))
          rw [cv_str]
          simp only [rdF, if_true] at hv
          split at hch
          · rename_i hj0
            rw [decide_eq_true_eq] at hch
            rw [if_pos hj0] at hv
            cases hv
            have k2 := w oh ol (okS_cons.mpr ⟨Or.inr (Or.inl ⟨rfl, ho10, rfl⟩), os0⟩) H locs ls hP hD hS hL
            rw [List.map_cons, cv_val] at k2
            exact vk_getf hx hb (hT.1.1 o ho10).2.2.1 hS hown (hts _ (gw_t _ hch rfl)) (fun _ z => z) hd k2
          · rename_i hj0
            rw [if_neg hj0] at hv
            cases hv
            simp only [Bool.and_eq_true, decide_eq_true_eq] at hch
            have k2 := w oh ol (okS_cons.mpr ⟨trivial, os0⟩) H locs ls hP hD hS hL
            rw [List.map_cons] at k2
            exact vk_getf hx hb (hT.1.1 o ho10).2.1 hS hown (hts _ (gw_t _ hch.2 rfl)) (fun _ z => z) hd k2
      · cases hs
    · cases hs
  · cases hs
theorem sp_getstatic {k : Nat} (C : Cx Γ p s m args c cc nL own) (ho : own < 18) (hd : decode cc pc = .ok (.getstatic k, len)) (hl : len = ilen (.getstatic k)) (hs : stp own (pc, .getstatic k, len) lv st h = some (pc', lv', st', h', g)) (hg : g) (w : WH Γ p e R s m args below meth c nL Q pc' lv' st' h') : WH Γ p e R s m args below meth c nL Q pc lv st h := by
  obtain ⟨hx, hb, hml, hown, hts, hK, hN, hT⟩ := C
  subst hl
  simp only [stp] at hs
  split at hs
  · rename_i t nest pos hq
    obtain ⟨rfl, rfl, rfl, rfl, rfl⟩ := some5 hs
    have hch := chS_ok own ho _ (fnd_mem hq)
    simp only [chS, if_true, Bool.and_eq_true, decide_eq_true_eq] at hch
    obtain ⟨⟨ht, -⟩, hch⟩ := hch
    intro oh ol os H locs ls hP hD hS hL
    have k2 := w oh ol (okS_cons.mpr ⟨Or.inr (Or.inr (Or.inl ⟨rfl, ht, rfl⟩)), os⟩) H locs ls hP hD hS hL
    rw [List.map_cons, cv_sta] at k2
    exact va_getsN hx hb (hT.2.2.1 t ht).1 hS hown (va_Nw.use rfl (hN _ (nw_t _ hch rfl))) (fun _ z => z) hd k2
  · rename_i t nest pos hq
    obtain ⟨rfl, rfl, rfl, rfl, rfl⟩ := some5 hs
    have hch := chS_ok own ho _ (fnd_mem hq)
    simp only [chS, Bool.and_eq_true, decide_eq_true_eq] at hch
    rw [if_neg (by decide)] at hch
    simp only [Bool.and_eq_true, decide_eq_true_eq] at hch
    intro oh ol os H locs ls hP hD hS hL
    have k2 := w oh ol (okS_cons.mpr ⟨trivial, os⟩) H locs ls hP hD hS hL
    exact va_gets hx hb hT.2.2.2.1 hS hown (hts _ (gw_t _ hch.2 rfl)) (fun _ z => z) hd k2
  · cases hs
end HP
