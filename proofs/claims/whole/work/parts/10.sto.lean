section STO
variable {Γ : AG} {p : Program} {e : Env} {R : Room} {s : State} {m : MethodId} {args : Array Value} {below : List Frame} {meth : Method} {c : Code} {cc : ByteArray} {nL own : Nat} {Q : State → Prop} {lv lv' : LV} {st st' : List AV} {h h' : AH} {pc pc' len : Nat} {g : Prop}
theorem up2_ne {α : Type} {f : Nat → Nat → α} {o o' : Nat} {z : Nat → α} (n : o' ≠ o) : up2 f o z o' = f o' := by simp [up2, n]
theorem up2_self {α : Type} {f : Nat → Nat → α} {o : Nat} {z : Nat → α} : up2 f o z o = z := by simp [up2]
theorem fvA_congr {ci o j : Nat} {h h' : AH} (e1 : h'.1 o = h.1 o) (e2 : h'.2.1 o = h.2.1 o) (e3 : h'.2.2 o = h.2.2 o) : fvA Γ ci o h' j = fvA Γ ci o h j := by
  unfold fvA
  rw [e1, e2, e3]
theorem ceA_congr {o : Nat} {h h' : AH} (e1 : h'.1 o = h.1 o) (e2 : h'.2.1 o = h.2.1 o) (e3 : h'.2.2 o = h.2.2 o) : ceA Γ h' o = ceA Γ h o := by
  unfold ceA
  rw [e1, e2, e3]
  have : fvA Γ (shA o).1 o h' = fvA Γ (shA o).1 o h := funext fun j => fvA_congr e1 e2 e3
  rw [this]
theorem ce_wI {o j o' : Nat} {v : Int32} (n : o' ≠ o) : ceA Γ (wI h o j v) o' = ceA Γ h o' := ceA_congr (by simp [wI, up2_ne n]) rfl rfl
theorem ce_wL {o j o' : Nat} {v : Int64} (n : o' ≠ o) : ceA Γ (wL h o j v) o' = ceA Γ h o' := ceA_congr rfl (by simp [wL, up2_ne n]) rfl
theorem ce_wR {o j o' v : Nat} (n : o' ≠ o) : ceA Γ (wR h o j v) o' = ceA Γ h o' := ceA_congr rfl rfl (by simp [wR, up2_ne n])
theorem ce_wA {o o' : Nat} {v : Nat → Int32} (n : o' ≠ o) : ceA Γ (wA h o v) o' = ceA Γ h o' := ceA_congr (by simp [wA, up2_ne n]) rfl rfl
theorem okH_wI {o j : Nat} {v : Int32} (oh : okH h) : okH (wI h o j v) := oh
theorem okH_wL {o j : Nat} {v : Int64} (oh : okH h) : okH (wL h o j v) := oh
theorem okH_wA {o : Nat} {v : Nat → Int32} (oh : okH h) : okH (wA h o v) := oh
theorem sp_iastore (C : Cx Γ p s m args c cc nL own) (ho : own < 18) (hd : decode cc pc = .ok (.iastore, len)) (hl : len = ilen .iastore) (hs : stp own (pc, .iastore, len) lv st h = some (pc', lv', st', h', g)) (hg : g) (w : WH Γ p e R s m args below meth c nL Q pc' lv' st' h') : WH Γ p e R s m args below meth c nL Q pc lv st h := by
  obtain ⟨hx, hb, hml, hown, hts, hK, hN, hT⟩ := C
  subst hl
  simp only [stp] at hs
  split at hs
  · rename_i y i n o st0
    obtain ⟨rfl, rfl, rfl, rfl, rfl⟩ := some5 hs
    intro oh ol os H locs ls hP hD hS hL
    obtain ⟨-, os1⟩ := okS_cons.mp os
    obtain ⟨-, os1⟩ := okS_cons.mp os1
    obtain ⟨ov, os2⟩ := okS_cons.mp os1
    have hsh := okV_ref (by decide) ov
    have he := wsA_at Γ h (sh_lt hsh)
    rw [ceA_int hsh (Or.inl rfl)] at he
    have hset := wsA_set Γ h (wI h o i.toNatClampNeg y) (o := o) (fun o' n => ce_wI n)
    rw [ceA_int hsh (Or.inl rfl)] at hset
    have hz : (wI h o i.toNatClampNeg y).1 o = upd (h.1 o) i.toNatClampNeg y := up2_self
    rw [hz] at hset
    refine va_iast hx hb hK hP hD hS o 0 he rfl (inb_in hg) hd (fun H1 locs1 hP1 hD1 hS1 => ?_)
    rw [hset] at hP1 hD1
    exact w (okH_wI oh) ol os2 H1 locs1 ls hP1 hD1 hS1 hL
  · cases hs
theorem sp_bastore (C : Cx Γ p s m args c cc nL own) (ho : own < 18) (hd : decode cc pc = .ok (.bastore, len)) (hl : len = ilen .bastore) (hs : stp own (pc, .bastore, len) lv st h = some (pc', lv', st', h', g)) (hg : g) (w : WH Γ p e R s m args below meth c nL Q pc' lv' st' h') : WH Γ p e R s m args below meth c nL Q pc lv st h := by
  obtain ⟨hx, hb, hml, hown, hts, hK, hN, hT⟩ := C
  subst hl
  simp only [stp] at hs
  split at hs
  · rename_i y i n o st0
    obtain ⟨rfl, rfl, rfl, rfl, rfl⟩ := some5 hs
    intro oh ol os H locs ls hP hD hS hL
    obtain ⟨-, os1⟩ := okS_cons.mp os
    obtain ⟨-, os1⟩ := okS_cons.mp os1
    obtain ⟨ov, os2⟩ := okS_cons.mp os1
    have hsh := okV_ref (by decide) ov
    have he := wsA_at Γ h (sh_lt hsh)
    rw [ceA_int hsh (Or.inr (Or.inl rfl))] at he
    have hset := wsA_set Γ h (wI h o i.toNatClampNeg y.toInt8.toInt32) (o := o) (fun o' n => ce_wI n)
    rw [ceA_int hsh (Or.inr (Or.inl rfl))] at hset
    have hz : (wI h o i.toNatClampNeg y.toInt8.toInt32).1 o = upd (h.1 o) i.toNatClampNeg y.toInt8.toInt32 := up2_self
    rw [hz] at hset
    refine va_bast hx hb hK hP hD hS o 1 he rfl (inb_in hg) hd (fun H1 locs1 hP1 hD1 hS1 => ?_)
    rw [vp_nar_byte] at hP1 hD1
    rw [hset] at hP1 hD1
    exact w (okH_wI oh) ol os2 H1 locs1 ls hP1 hD1 hS1 hL
  · rename_i y i n o st0
    obtain ⟨rfl, rfl, rfl, rfl, rfl⟩ := some5 hs
    intro oh ol os H locs ls hP hD hS hL
    obtain ⟨-, os1⟩ := okS_cons.mp os
    obtain ⟨-, os1⟩ := okS_cons.mp os1
    obtain ⟨ov, os2⟩ := okS_cons.mp os1
    have hsh := okV_ref (by decide) ov
    have he := wsA_at Γ h (sh_lt hsh)
    rw [ceA_int hsh (Or.inr (Or.inr rfl))] at he
    have hset := wsA_set Γ h (wI h o i.toNatClampNeg (vp_nar .boolean y)) (o := o) (fun o' n => ce_wI n)
    rw [ceA_int hsh (Or.inr (Or.inr rfl))] at hset
    have hz : (wI h o i.toNatClampNeg (vp_nar .boolean y)).1 o = upd (h.1 o) i.toNatClampNeg (vp_nar .boolean y) := up2_self
    rw [hz] at hset
    refine va_zast hx hb hK hP hD hS o 2 he rfl (inb_in hg) hd (fun H1 locs1 hP1 hD1 hS1 => ?_)
    rw [hset] at hP1 hD1
    exact w (okH_wI oh) ol os2 H1 locs1 ls hP1 hD1 hS1 hL
  · cases hs
theorem sp_lastore (C : Cx Γ p s m args c cc nL own) (ho : own < 18) (hd : decode cc pc = .ok (.lastore, len)) (hl : len = ilen .lastore) (hs : stp own (pc, .lastore, len) lv st h = some (pc', lv', st', h', g)) (hg : g) (w : WH Γ p e R s m args below meth c nL Q pc' lv' st' h') : WH Γ p e R s m args below meth c nL Q pc lv st h := by
  obtain ⟨hx, hb, hml, hown, hts, hK, hN, hT⟩ := C
  subst hl
  simp only [stp] at hs
  split at hs
  · rename_i y i n o st0
    obtain ⟨rfl, rfl, rfl, rfl, rfl⟩ := some5 hs
    intro oh ol os H locs ls hP hD hS hL
    obtain ⟨-, os1⟩ := okS_cons.mp os
    obtain ⟨-, os1⟩ := okS_cons.mp os1
    obtain ⟨ov, os2⟩ := okS_cons.mp os1
    have hsh := okV_ref (by decide) ov
    have he := wsA_at Γ h (sh_lt hsh)
    rw [ceA_long hsh] at he
    have hset := wsA_set Γ h (wL h o i.toNatClampNeg y) (o := o) (fun o' n => ce_wL n)
    rw [ceA_long hsh] at hset
    have hz : (wL h o i.toNatClampNeg y).2.1 o = vp_updL (h.2.1 o) i.toNatClampNeg y := up2_self
    rw [hz] at hset
    refine va_last hx hb hK hP hD hS o 3 he rfl (inb_in hg) hd (fun H1 locs1 hP1 hD1 hS1 => ?_)
    rw [hset] at hP1 hD1
    exact w (okH_wL oh) ol os2 H1 locs1 ls hP1 hD1 hS1 hL
  · cases hs
theorem okH_wR_arr {o j q k n : Nat} (hs : am_sh[o]? = some (k, n)) (hk : (k = 24 ∧ am_sh[q]? = some (5, 0)) ∨ (k = 25 ∧ am_sh[q]? = some (7, 0))) (oh : okH h) : okH (wR h o j q) := by
  have hne : ∀ o' ci, am_sh[o']? = some (ci, 0) → (∀ z, (fkA ci z).1 = 3 ∨ (fkA ci z).1 = 5 → o' ≠ o) := by
    intro o' ci h1 z h2 h3
    subst h3
    have h4 : (k, n) = (ci, 0) := Option.some.inj (hs.symm.trans h1)
    have h5 : k = ci := congrArg Prod.fst h4
    subst h5
    have h6 : ∀ z, fkA k z = (9, 0, 0, 0) := by
      intro z
      have h7 : am_fk.length = 13 := by decide
      unfold fkA
      rw [List.getD_eq_getElem?_getD (l := am_fk), List.getElem?_eq_none (by rcases hk with ⟨a, -⟩ | ⟨a, -⟩ <;> omega)]
      rfl
    rw [h6 z] at h2
    omega
  refine ⟨fun o' ci z h1 h2 => ?_, fun o' ci z h1 h2 => ?_, fun o' n' z h1 h2 => ?_, fun o' n' z h1 h2 => ?_⟩
  · simp only [wR]
    rw [up2_ne (hne o' ci h1 z (Or.inl h2))]
    exact oh.1 o' ci z h1 h2
  · simp only [wR]
    rw [up2_ne (hne o' ci h1 z (Or.inr h2))]
    exact oh.2.1 o' ci z h1 h2
  · by_cases ho : o' = o
    · subst ho
      have h4 : (k, n) = (24, n') := Option.some.inj (hs.symm.trans h1)
      have h5 : k = 24 := congrArg Prod.fst h4
      subst h5
      simp only [wR, up2_self, va_up]
      split
      · rcases hk with ⟨-, a⟩ | ⟨a, -⟩
        · exact a
        · omega
      · exact oh.2.2.1 o' n' z h1 h2
    · simp only [wR, up2_ne ho]
      exact oh.2.2.1 o' n' z h1 h2
  · by_cases ho : o' = o
    · subst ho
      have h4 : (k, n) = (25, n') := Option.some.inj (hs.symm.trans h1)
      have h5 : k = 25 := congrArg Prod.fst h4
      subst h5
      simp only [wR, up2_self, va_up]
      split
      · rcases hk with ⟨a, -⟩ | ⟨-, a⟩
        · omega
        · exact a
      · exact oh.2.2.2 o' n' z h1 h2
    · simp only [wR, up2_ne ho]
      exact oh.2.2.2 o' n' z h1 h2
theorem up_some (f : Nat → Nat) (i q : Nat) (s : Nat → Nat) : (fun j => some (s (va_up f i q j))) = va_up (fun j => some (s (f j))) i (some (s q)) := by
  funext j
  by_cases hj : j = i
  · subst hj; simp [va_up]
  · simp [va_up, hj]
theorem sp_aastore (C : Cx Γ p s m args c cc nL own) (ho : own < 18) (hd : decode cc pc = .ok (.aastore, len)) (hl : len = ilen .aastore) (hs : stp own (pc, .aastore, len) lv st h = some (pc', lv', st', h', g)) (hg : g) (w : WH Γ p e R s m args below meth c nL Q pc' lv' st' h') : WH Γ p e R s m args below meth c nL Q pc lv st h := by
  obtain ⟨hx, hb, hml, hown, hts, hK, hN, hT⟩ := C
  subst hl
  simp only [stp] at hs
  split at hs
  · rename_i nq q i n o st0
    obtain ⟨rfl, rfl, rfl, rfl, rfl⟩ := some5 hs
    intro oh ol os H locs ls hP hD hS hL
    obtain ⟨oq, os1⟩ := okS_cons.mp os
    obtain ⟨-, os1⟩ := okS_cons.mp os1
    obtain ⟨ov, os2⟩ := okS_cons.mp os1
    have hsh := okV_ref (by decide) ov
    have hsq := okV_ref (by decide) oq
    have hn0 := obj_len hsq (by decide)
    subst hn0
    have he := wsA_at Γ h (sh_lt hsh)
    rw [ceA_ref hsh (Or.inl rfl)] at he
    have hq := wsA_at Γ h (sh_lt hsq)
    rw [ceA_obj hsq (by decide)] at hq
    have hset := wsA_set Γ h (wR h o i.toNatClampNeg q) (o := o) (fun o' n => ce_wR n)
    rw [ceA_ref hsh (Or.inl rfl)] at hset
    have hz : (wR h o i.toNatClampNeg q).2.2 o = va_up (h.2.2 o) i.toNatClampNeg q := up2_self
    rw [hz, up_some] at hset
    refine va_astq (r := (am_cl.getD 5 ("", F_Law, 0))) hx hb hK hP hD hS o 4 q 5 he rfl hq rfl (inb_in hg) hd (fun H1 locs1 hP1 hD1 hS1 => ?_)
    rw [hset] at hP1 hD1
    exact w (okH_wR_arr hsh (Or.inl ⟨rfl, hsq⟩) oh) ol os2 H1 locs1 ls hP1 hD1 hS1 hL
  · rename_i nq q i n o st0
    obtain ⟨rfl, rfl, rfl, rfl, rfl⟩ := some5 hs
    intro oh ol os H locs ls hP hD hS hL
    obtain ⟨oq, os1⟩ := okS_cons.mp os
    obtain ⟨-, os1⟩ := okS_cons.mp os1
    obtain ⟨ov, os2⟩ := okS_cons.mp os1
    have hsh := okV_ref (by decide) ov
    have hsq := okV_ref (by decide) oq
    have hn0 := obj_len hsq (by decide)
    subst hn0
    have he := wsA_at Γ h (sh_lt hsh)
    rw [ceA_ref hsh (Or.inr rfl)] at he
    have hq := wsA_at Γ h (sh_lt hsq)
    rw [ceA_obj hsq (by decide)] at hq
    have hset := wsA_set Γ h (wR h o i.toNatClampNeg q) (o := o) (fun o' n => ce_wR n)
    rw [ceA_ref hsh (Or.inr rfl)] at hset
    have hz : (wR h o i.toNatClampNeg q).2.2 o = va_up (h.2.2 o) i.toNatClampNeg q := up2_self
    rw [hz, up_some] at hset
    refine va_astq (r := (am_cl.getD 7 ("", F_Walks, 0))) hx hb hK hP hD hS o 5 q 7 he rfl hq rfl (inb_in hg) hd (fun H1 locs1 hP1 hD1 hS1 => ?_)
    rw [hset] at hP1 hD1
    exact w (okH_wR_arr hsh (Or.inr ⟨rfl, hsq⟩) oh) ol os2 H1 locs1 ls hP1 hD1 hS1 hL
  · cases hs
end STO
