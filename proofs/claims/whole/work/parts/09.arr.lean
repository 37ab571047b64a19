section AR
variable {Γ : AG} {p : Program} {e : Env} {R : Room} {s : State} {m : MethodId} {args : Array Value} {below : List Frame} {meth : Method} {c : Code} {cc : ByteArray} {nL own : Nat} {Q : State → Prop} {lv lv' : LV} {st st' : List AV} {h h' : AH} {pc pc' len : Nat} {g : Prop}
theorem in_lt {i : Int32} {n : Nat} (h : inb i n = true) : i.toNatClampNeg < n := by
  simp only [inb, Bool.and_eq_true, decide_eq_true_eq] at h
  exact h.2
theorem sp_iaload (C : Cx Γ p s m args c cc nL own) (ho : own < 18) (hd : decode cc pc = .ok (.iaload, len)) (hl : len = ilen .iaload) (hs : stp own (pc, .iaload, len) lv st h = some (pc', lv', st', h', g)) (hg : g) (w : WH Γ p e R s m args below meth c nL Q pc' lv' st' h') : WH Γ p e R s m args below meth c nL Q pc lv st h := by
  obtain ⟨hx, hb, hml, hown, hts, hK, hN, hT⟩ := C
  subst hl
  simp only [stp] at hs
  split at hs
  · rename_i i n o st0
    obtain ⟨rfl, rfl, rfl, rfl, rfl⟩ := some5 hs
    intro oh ol os H locs ls hP hD hS hL
    obtain ⟨-, os1⟩ := okS_cons.mp os
    obtain ⟨ov, os2⟩ := okS_cons.mp os1
    have hsh := okV_ref (by decide) ov
    have he := wsA_at Γ h (sh_lt hsh)
    rw [ceA_int hsh (Or.inl rfl)] at he
    exact va_iald hx hb hK hP o 0 he rfl (inb_in hg) hd (w oh ol (okS_cons.mpr ⟨trivial, os2⟩) H locs ls hP hD hS hL)
  · rename_i i n o st0
    obtain ⟨rfl, rfl, rfl, rfl, rfl⟩ := some5 hs
    intro oh ol os H locs ls hP hD hS hL
    obtain ⟨-, os1⟩ := okS_cons.mp os
    obtain ⟨ov, os2⟩ := okS_cons.mp os1
    obtain ⟨h1, h2⟩ := kvA_sta ov
    subst h2
    exact va_ti hx hb (hT.2.2.1 o h1).2 hS (inb_in hg) rfl hd (w oh ol (okS_cons.mpr ⟨trivial, os2⟩) H locs ls hP hD hS hL)
  · cases hs
theorem sp_baload (C : Cx Γ p s m args c cc nL own) (ho : own < 18) (hd : decode cc pc = .ok (.baload, len)) (hl : len = ilen .baload) (hs : stp own (pc, .baload, len) lv st h = some (pc', lv', st', h', g)) (hg : g) (w : WH Γ p e R s m args below meth c nL Q pc' lv' st' h') : WH Γ p e R s m args below meth c nL Q pc lv st h := by
  obtain ⟨hx, hb, hml, hown, hts, hK, hN, hT⟩ := C
  subst hl
  simp only [stp] at hs
  split at hs
  · rename_i i n o st0
    obtain ⟨rfl, rfl, rfl, rfl, rfl⟩ := some5 hs
    intro oh ol os H locs ls hP hD hS hL
    obtain ⟨-, os1⟩ := okS_cons.mp os
    obtain ⟨ov, os2⟩ := okS_cons.mp os1
    have hsh := okV_ref (by decide) ov
    have he := wsA_at Γ h (sh_lt hsh)
    rw [ceA_int hsh (Or.inr (Or.inl rfl))] at he
    exact va_bald hx hb hK hP o 1 he rfl (inb_in hg) hd (w oh ol (okS_cons.mpr ⟨trivial, os2⟩) H locs ls hP hD hS hL)
  · rename_i i n o st0
    obtain ⟨rfl, rfl, rfl, rfl, rfl⟩ := some5 hs
    intro oh ol os H locs ls hP hD hS hL
    obtain ⟨-, os1⟩ := okS_cons.mp os
    obtain ⟨ov, os2⟩ := okS_cons.mp os1
    have hsh := okV_ref (by decide) ov
    have he := wsA_at Γ h (sh_lt hsh)
    rw [ceA_int hsh (Or.inr (Or.inr rfl))] at he
    exact va_zald hx hb hK hP o 2 he rfl (inb_in hg) hd (w oh ol (okS_cons.mpr ⟨trivial, os2⟩) H locs ls hP hD hS hL)
  · rename_i i n o st0
    obtain ⟨rfl, rfl, rfl, rfl, rfl⟩ := some5 hs
    intro oh ol os H locs ls hP hD hS hL
    obtain ⟨-, os1⟩ := okS_cons.mp os
    obtain ⟨ov, os2⟩ := okS_cons.mp os1
    obtain ⟨h1, h2⟩ := kvA_val ov
    subst h2
    have h3 := (hT.1.1 o h1).2.2.2
    rw [str_len h1] at h3
    exact va_tb hx hb h3 hS (inb_in hg) rfl hd (w oh ol (okS_cons.mpr ⟨trivial, os2⟩) H locs ls hP hD hS hL)
  · cases hs
theorem sp_laload (C : Cx Γ p s m args c cc nL own) (ho : own < 18) (hd : decode cc pc = .ok (.laload, len)) (hl : len = ilen .laload) (hs : stp own (pc, .laload, len) lv st h = some (pc', lv', st', h', g)) (hg : g) (w : WH Γ p e R s m args below meth c nL Q pc' lv' st' h') : WH Γ p e R s m args below meth c nL Q pc lv st h := by
  obtain ⟨hx, hb, hml, hown, hts, hK, hN, hT⟩ := C
  subst hl
  simp only [stp] at hs
  split at hs
  · rename_i i n o st0
    obtain ⟨rfl, rfl, rfl, rfl, rfl⟩ := some5 hs
    intro oh ol os H locs ls hP hD hS hL
    obtain ⟨-, os1⟩ := okS_cons.mp os
    obtain ⟨ov, os2⟩ := okS_cons.mp os1
    have hsh := okV_ref (by decide) ov
    have he := wsA_at Γ h (sh_lt hsh)
    rw [ceA_long hsh] at he
    exact va_lald hx hb hK hP o 3 he rfl (inb_in hg) hd (w oh ol (okS_cons.mpr ⟨trivial, os2⟩) H locs ls hP hD hS hL)
  · cases hs
theorem sp_aaload (C : Cx Γ p s m args c cc nL own) (ho : own < 18) (hd : decode cc pc = .ok (.aaload, len)) (hl : len = ilen .aaload) (hs : stp own (pc, .aaload, len) lv st h = some (pc', lv', st', h', g)) (hg : g) (w : WH Γ p e R s m args below meth c nL Q pc' lv' st' h') : WH Γ p e R s m args below meth c nL Q pc lv st h := by
  obtain ⟨hx, hb, hml, hown, hts, hK, hN, hT⟩ := C
  subst hl
  simp only [stp] at hs
  split at hs
  · rename_i i n o st0
    obtain ⟨rfl, rfl, rfl, rfl, rfl⟩ := some5 hs
    intro oh ol os H locs ls hP hD hS hL
    obtain ⟨-, os1⟩ := okS_cons.mp os
    obtain ⟨ov, os2⟩ := okS_cons.mp os1
    have hsh := okV_ref (by decide) ov
    have he := wsA_at Γ h (sh_lt hsh)
    rw [ceA_ref hsh (Or.inl rfl)] at he
    have hr := oh.2.2.1 o n _ hsh (in_lt hg)
    exact va_aldq hx hb hK hP o 4 he rfl (inb_in hg) hd (w oh ol (okS_cons.mpr ⟨Or.inr (Or.inr (Or.inr ⟨by decide, hr⟩)), os2⟩) H locs ls hP hD hS hL)
  · rename_i i n o st0
    obtain ⟨rfl, rfl, rfl, rfl, rfl⟩ := some5 hs
    intro oh ol os H locs ls hP hD hS hL
    obtain ⟨-, os1⟩ := okS_cons.mp os
    obtain ⟨ov, os2⟩ := okS_cons.mp os1
    have hsh := okV_ref (by decide) ov
    have he := wsA_at Γ h (sh_lt hsh)
    rw [ceA_ref hsh (Or.inr rfl)] at he
    have hr := oh.2.2.2 o n _ hsh (in_lt hg)
    exact va_aldq hx hb hK hP o 5 he rfl (inb_in hg) hd (w oh ol (okS_cons.mpr ⟨Or.inr (Or.inr (Or.inr ⟨by decide, hr⟩)), os2⟩) H locs ls hP hD hS hL)
  · cases hs
theorem i32_nat (n : Nat) : Int32.ofNat n = ii (n : Int) := by
  apply Int32.toBitVec_inj.mp
  simp [ii, Int32.ofInt, Int32.ofNat, BitVec.ofInt_natCast]
theorem sp_arraylength (C : Cx Γ p s m args c cc nL own) (ho : own < 18) (hd : decode cc pc = .ok (.arraylength, len)) (hl : len = ilen .arraylength) (hs : stp own (pc, .arraylength, len) lv st h = some (pc', lv', st', h', g)) (hg : g) (w : WH Γ p e R s m args below meth c nL Q pc' lv' st' h') : WH Γ p e R s m args below meth c nL Q pc lv st h := by
  obtain ⟨hx, hb, hml, hown, hts, hK, hN, hT⟩ := C
  subst hl
  simp only [stp] at hs
  split at hs
  · rename_i k n o st0
    split at hs
    · rename_i hk
      obtain ⟨rfl, rfl, rfl, rfl, rfl⟩ := some5 hs
      intro oh ol os H locs ls hP hD hS hL
      obtain ⟨ov, os⟩ := okS_cons.mp os
      have k2 := w oh ol (okS_cons.mpr ⟨trivial, os⟩) H locs ls hP hD hS hL
      rcases hk with rfl | rfl | rfl | rfl | rfl | rfl | rfl | rfl
      · have hsh := okV_ref (by decide) ov
        have he := wsA_at Γ h (sh_lt hsh)
        rw [ceA_int hsh (Or.inl rfl)] at he
        exact va_alen hx hb hK hP o 0 he rfl (i32_nat n) hd k2
      · have hsh := okV_ref (by decide) ov
        have he := wsA_at Γ h (sh_lt hsh)
        rw [ceA_int hsh (Or.inr (Or.inl rfl))] at he
        exact va_alen hx hb hK hP o 1 he rfl (i32_nat n) hd k2
      · have hsh := okV_ref (by decide) ov
        have he := wsA_at Γ h (sh_lt hsh)
        rw [ceA_int hsh (Or.inr (Or.inr rfl))] at he
        exact va_alen hx hb hK hP o 2 he rfl (i32_nat n) hd k2
      · have hsh := okV_ref (by decide) ov
        have he := wsA_at Γ h (sh_lt hsh)
        rw [ceA_long hsh] at he
        exact va_alen hx hb hK hP o 3 he rfl (i32_nat n) hd k2
      · have hsh := okV_ref (by decide) ov
        have he := wsA_at Γ h (sh_lt hsh)
        rw [ceA_ref hsh (Or.inl rfl)] at he
        exact va_alen hx hb hK hP o 4 he rfl (i32_nat n) hd k2
      · have hsh := okV_ref (by decide) ov
        have he := wsA_at Γ h (sh_lt hsh)
        rw [ceA_ref hsh (Or.inr rfl)] at he
        exact va_alen hx hb hK hP o 5 he rfl (i32_nat n) hd k2
      · obtain ⟨h1, h2⟩ := kvA_sta ov
        subst h2
        exact va_tlen hx hb (hT.2.2.1 o h1).2 hS (i32_nat _) hd k2
      · obtain ⟨h1, h2⟩ := kvA_val ov
        subst h2
        have h3 := (hT.1.1 o h1).2.2.2
        rw [str_len h1] at h3
        exact va_tlen hx hb h3 hS (i32_nat _) hd k2
    · cases hs
  · cases hs
end AR
