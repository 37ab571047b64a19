def kdT (k : Nat) (t : Option FieldType) : Bool := match k, t with
  | 0, some .int => true
  | 6, some .boolean => true
  | 1, some .long => true
  | 3, some (.object _) => true
  | 5, some (.array _) => true
  | 2, _ => true
  | 4, _ => true
  | _, _ => false
theorem kd_ok : ∀ ci, ci < 13 → ∀ q, am_cl[ci]? = some q → ∀ j, j < q.2.2 → kdT (fkA ci j).1 (parseFieldDescriptor (q.2.1 j).2.2.1) = true ∧ ((fkA ci j).1 ≠ 2 → (fkA ci j).1 ≠ 4 → (q.2.1 j).2.2.2 = false) := by
  intro ci hc q hq
  have hlt : ∀ k, k < 13 → (match am_cl[k]? with | some q => (List.range q.2.2).all (fun j => kdT (fkA k j).1 (parseFieldDescriptor (q.2.1 j).2.2.1) && (decide ((fkA k j).1 = 2) || decide ((fkA k j).1 = 4) || !(q.2.1 j).2.2.2)) | none => true) = true := by decide +kernel
  have h1 := hlt ci hc
  rw [hq] at h1
  simp only [List.all_eq_true, List.mem_range, Bool.and_eq_true, Bool.or_eq_true, decide_eq_true_eq, Bool.not_eq_true'] at h1
  intro j hj
  obtain ⟨a, b⟩ := h1 j hj
  refine ⟨a, fun n2 n4 => ?_⟩
  rcases b with (b | b) | b
  · exact absurd b n2
  · exact absurd b n4
  · exact b
theorem cl_nm : ∀ ci, ci < 13 → ∀ q, am_cl[ci]? = some q → (∃ ty0 : Nat → FieldType, ∀ k, k < q.2.2 → parseFieldDescriptor (q.2.1 k).2.2.1 = some (ty0 k)) ∧ ∀ a, a < q.2.2 → ∀ b, b < q.2.2 → a ≠ b → (q.2.1 a).2.1 ≠ (q.2.1 b).2.1 := by
  intro ci hc q hq
  match ci, hc, hq with
  | 0, _, hq => cases hq; exact ⟨⟨T_HF, ty_HF⟩, nm_HF⟩
  | 1, _, hq => cases hq; exact ⟨⟨T_Tape, ty_Tape⟩, nm_Tape⟩
  | 2, _, hq => cases hq; exact ⟨⟨T_HR, ty_HR⟩, nm_HR⟩
  | 3, _, hq => cases hq; exact ⟨⟨T_Heath, ty_Heath⟩, nm_Heath⟩
  | 4, _, hq => cases hq; exact ⟨⟨T_LR, ty_LR⟩, nm_LR⟩
  | 5, _, hq => cases hq; exact ⟨⟨T_Law, ty_Law⟩, nm_Law⟩
  | 6, _, hq => cases hq; exact ⟨⟨T_WR, ty_WR⟩, nm_WR⟩
  | 7, _, hq => cases hq; exact ⟨⟨T_Walks, ty_Walks⟩, nm_Walks⟩
  | 8, _, hq => cases hq; exact ⟨⟨T_Moor, ty_Moor⟩, nm_Moor⟩
  | 9, _, hq => cases hq; exact ⟨⟨T_Acts, ty_Acts⟩, nm_Acts⟩
  | 10, _, hq => cases hq; exact ⟨⟨T_Heard, ty_Heard⟩, nm_Heard⟩
  | 11, _, hq => cases hq; exact ⟨⟨T_Plan, ty_Plan⟩, nm_Plan⟩
  | 12, _, hq => cases hq; exact ⟨⟨T_R, ty_R⟩, nm_R⟩
section PUT
variable {Γ : AG} {p : Program} {e : Env} {R : Room} {s : State} {m : MethodId} {args : Array Value} {below : List Frame} {meth : Method} {c : Code} {cc : ByteArray} {nL own : Nat} {Q : State → Prop} {lv lv' : LV} {st st' : List AV} {h h' : AH} {pc pc' len : Nat} {g : Prop}
/-- what a stored field means for the cell -/
theorem fld_set {ci o j n : Nat} {v : Value} {h2 : AH} (hs : am_sh[o]? = some (ci, n)) (hc : ci < 13) (hj : j < nfA ci) (e1 : ∀ k, k ≠ j → fvA Γ ci o h2 k = fvA Γ ci o h k) (e2 : fvA Γ ci o h2 j = v) (e3 : ∀ o', o' ≠ o → ceA Γ h2 o' = ceA Γ h o') :
    (wsA Γ h).set o (gs Γ o, .inr (ci, ((List.range (nfA ci)).map (fvA Γ ci o h)).set j v)) = wsA Γ h2 := by
  have hset := wsA_set Γ h h2 (o := o) e3
  rw [ceA_obj hs hc] at hset
  rw [← hset]
  congr 4
  apply List.ext_getElem?
  intro k
  by_cases hk : k = j
  · subst hk
    rw [List.getElem?_set_self (by simpa using hj), List.getElem?_map, List.getElem?_range hj]
    simp [e2]
  · rw [List.getElem?_set_ne (Ne.symm hk), List.getElem?_map, List.getElem?_map]
    rcases Nat.lt_or_ge k (nfA ci) with hl | hl
    · rw [List.getElem?_range hl]; simp [e1 k hk]
    · rw [List.getElem?_eq_none (by simpa using hl)]; rfl
theorem fv_upd {k j : Nat} (hk : k ≠ j) (f : Nat → Int32) (v : Int32) : upd f j v k = f k := by simp [upd, hk]
theorem fv_updL {k j : Nat} (hk : k ≠ j) (f : Nat → Int64) (v : Int64) : vp_updL f j v k = f k := by simp [vp_updL, hk]
theorem fv_updR {k j : Nat} (hk : k ≠ j) (f : Nat → Nat) (v : Nat) : va_up f j v k = f k := by simp [va_up, hk]
theorem okH_wR_fld {o j q ci : Nat} (hs : am_sh[o]? = some (ci, 0)) (hc : ci < 13) (hk : ((fkA ci j).1 = 3 ∧ am_sh[q]? = some ((fkA ci j).2.1, 0)) ∨ ((fkA ci j).1 = 5 ∧ ∃ n, am_sh[q]? = some (21, n))) (oh : okH h) : okH (wR h o j q) := by
  have key : ∀ o' z, (wR h o j q).2.2 o' z = if o' = o ∧ z = j then q else h.2.2 o' z := by
    intro o' z
    by_cases h1 : o' = o
    · subst h1
      by_cases h2 : z = j
      · subst h2; simp [wR, up2_self, va_up]
      · simp [wR, up2_self, va_up, h2]
    · simp [wR, up2_ne h1, h1]
  have ne24 : ∀ o' k n, k = 24 ∨ k = 25 → am_sh[o']? = some (k, n) → o' ≠ o := by
    intro o' k n hk' h1 h2
    subst h2
    have h3 : (ci, 0) = (k, n) := Option.some.inj (hs.symm.trans h1)
    have h4 : ci = k := congrArg Prod.fst h3
    omega
  refine ⟨fun o' ci' z h1 h2 => ?_, fun o' ci' z h1 h2 => ?_, fun o' n' z h1 h2 => ?_, fun o' n' z h1 h2 => ?_⟩
  · rw [key]
    split
    · rename_i hz
      obtain ⟨rfl, rfl⟩ := hz
      have h3 : (ci, 0) = (ci', 0) := Option.some.inj (hs.symm.trans h1)
      have h4 : ci = ci' := congrArg Prod.fst h3
      subst h4
      rcases hk with ⟨-, a⟩ | ⟨a, -⟩
      · exact a
      · omega
    · exact oh.1 o' ci' z h1 h2
  · rw [key]
    split
    · rename_i hz
      obtain ⟨rfl, rfl⟩ := hz
      have h3 : (ci, 0) = (ci', 0) := Option.some.inj (hs.symm.trans h1)
      have h4 : ci = ci' := congrArg Prod.fst h3
      subst h4
      rcases hk with ⟨a, -⟩ | ⟨-, a⟩
      · omega
      · exact a
    · exact oh.2.1 o' ci' z h1 h2
  · rw [key, if_neg (fun z' => ne24 o' 24 n' (Or.inl rfl) h1 z'.1)]
    exact oh.2.2.1 o' n' z h1 h2
  · rw [key, if_neg (fun z' => ne24 o' 25 n' (Or.inr rfl) h1 z'.1)]
    exact oh.2.2.2 o' n' z h1 h2
theorem kd_ty {k : Nat} {t : FieldType} (h : kdT k (some t) = true) : (k = 0 → t = .int) ∧ (k = 6 → t = .boolean) ∧ (k = 1 → t = .long) ∧ (k = 3 → ∃ z, t = .object z) ∧ (k = 5 → ∃ z, t = .array z) := by
  unfold kdT at h
  split at h <;> simp_all
/-- the store itself -/
theorem put_go (C : Cx Γ p s m args c cc nL own) (ho : own < 18) {k ci j nest pos n o : Nat} (hd : decode cc pc = .ok (.putfield k, 3)) (hq : fnd k (am_cpf.getD own []) = some (ci, j, nest, pos)) {v : AV} {st0 : List AV} {h2 : AH} (hci : ci < 13) (hk : (fkA ci j).1 ≠ 2) (hk4 : (fkA ci j).1 ≠ 4) (hnar : ∀ t, kdT (fkA ci j).1 (some t) = true → narrow t (cv Γ v) = cv Γ v ∧ fits t (cv Γ v) = true)
    (hsh : am_sh[o]? = some (ci, n)) (e1 : ∀ k, k ≠ j → fvA Γ ci o h2 k = fvA Γ ci o h k) (e2 : fvA Γ ci o h2 j = cv Γ v) (e3 : ∀ o', o' ≠ o → ceA Γ h2 o' = ceA Γ h o')
    {H : Heap} {locs : List Loc} {ls : Array Slot} (hP : va_P (gD Γ) am_cl (wsA Γ h) H) (hD : va_D (gA Γ) (wsA Γ h)) (hS : va_S (gA Γ) s.heap H locs)
    (kk : ∀ (H1 : Heap) (locs1 : List Loc), va_P (gD Γ) am_cl (wsA Γ h2) H1 → va_D (gA Γ) (wsA Γ h2) → va_S (gA Γ) s.heap H1 locs1 → W p (gl Γ) e R s m args below meth c H1 locs1 0 0 Q (F0 m (pc + 3) ls (st0.map (cv Γ)))) :
    W p (gl Γ) e R s m args below meth c H locs 0 0 Q (F0 m pc ls (cv Γ v :: .ref (gs Γ o) :: st0.map (cv Γ))) := by
  obtain ⟨hx, hb, hml, hown, hts, hK, hN, hT⟩ := C
  have hch := chF_ok own ho _ (fnd_mem hq)
  unfold chF at hch
  have he := wsA_at Γ h (sh_lt hsh)
  rw [ceA_obj hsh hci] at he
  split at hch
  · rename_i q hcl
    simp only at hcl hch
    rw [Bool.and_eq_true, decide_eq_true_eq] at hch
    obtain ⟨hj, hch⟩ := hch
    have hq3 : q.2.2 = nfA ci := by
      have := cl_fk ci hci
      rw [hcl] at this
      exact Option.some.inj this
    obtain ⟨⟨ty0, hty⟩, hnm⟩ := cl_nm ci hci q hcl
    obtain ⟨hkt, hfin⟩ := kd_ok ci hci q hcl j hj
    have hpd := hty j hj
    rw [hpd] at hkt
    obtain ⟨hn1, hn2⟩ := hnar _ hkt
    have hset := fld_set (Γ := Γ) (h := h) (h2 := h2) (v := cv Γ v) hsh hci (by rw [← hq3]; exact hj) e1 e2 e3
    split at hch
    · rw [decide_eq_true_eq] at hch
      refine va_put hx hb hts (r_fld hcl (j := 0)) ty0 hty hnm hown hK hP hD hS o he hcl j hj (hts _ (gw_t _ hch rfl)) (fun _ z => z) (hfin hk hk4) hpd hn1 hn2 (by simp [← hq3, hj]) hd (fun H1 locs1 hP1 hD1 hS1 => ?_)
      rw [hset] at hP1 hD1
      exact kk H1 locs1 hP1 hD1 hS1
    · rw [Bool.and_eq_true, decide_eq_true_eq, decide_eq_true_eq] at hch
      refine va_putN hx hb hts (r_fld hcl (j := 0)) ty0 hty hnm hown hK hP hD hS o he hcl j hj (va_Nw.use rfl (hN _ (nw_t _ hch.2 rfl))) (fun _ z => z) (hfin hk hk4) hpd hn1 hn2 (by simp [← hq3, hj]) hd (fun H1 locs1 hP1 hD1 hS1 => ?_)
      rw [hset] at hP1 hD1
      exact kk H1 locs1 hP1 hD1 hS1
  · simp only [Bool.and_eq_true, decide_eq_true_eq] at hch
    omega
theorem sp_putfield {k : Nat} (C : Cx Γ p s m args c cc nL own) (ho : own < 18) (hd : decode cc pc = .ok (.putfield k, len)) (hl : len = ilen (.putfield k)) (hs : stp own (pc, .putfield k, len) lv st h = some (pc', lv', st', h', g)) (hg : g) (w : WH Γ p e R s m args below meth c nL Q pc' lv' st' h') : WH Γ p e R s m args below meth c nL Q pc lv st h := by
  subst hl
  simp only [stp] at hs
  split at hs
  · rename_i ci j nest pos v kk n o st0 hq
    split at hs
    · rename_i hkc
      subst hkc
      split at hs
      · rename_i h2 g2 hv
        obtain ⟨rfl, rfl, rfl, rfl, rfl⟩ := some5 hs
        intro oh ol os H locs ls hP hD hS hL
        obtain ⟨ow, os1⟩ := okS_cons.mp os
        obtain ⟨ov, os2⟩ := okS_cons.mp os1
        have hci : kk < 13 := by
          rcases Nat.lt_or_ge kk 13 with hlt | hge
          · exact hlt
          · exfalso
            have h7 : am_fk.length = 13 := by decide
            have h8 : fkA kk j = (9, 0, 0, 0) := by
              unfold fkA
              rw [List.getD_eq_getElem?_getD (l := am_fk), List.getElem?_eq_none (by omega)]
              rfl
            unfold wrF at hv
            rw [h8] at hv
            simp at hv
        have hsh := okV_ref (by omega) ov
        have hn0 := obj_len hsh hci
        subst hn0
        show W p (gl Γ) e R s m args below meth c H locs 0 0 Q (F0 m pc ls (cv Γ v :: cv Γ (vr kk 0 o) :: st0.map (cv Γ)))
        rw [cv_ref (by omega)]
        unfold wrF at hv
        split at hv
        · rename_i x hk
          cases hv
          refine put_go C ho hd hq hci (by omega) (by omega) (fun t ht => ?_) hsh (fun k' hk' => ?_) ?_ (fun o' no => ce_wI no) hP hD hS (fun H1 locs1 hP1 hD1 hS1 => w (okH_wI oh) ol os2 H1 locs1 ls hP1 hD1 hS1 hL)
          · have := (kd_ty ht).1 hk
            subst this
            exact ⟨rfl, rfl⟩
          · simp only [fvA, wI, up2_self, fv_upd hk']
          · simp [fvA, hk, wI, up2_self, upd, cv]
        · rename_i x hk
          cases hv
          refine put_go C ho hd hq hci (by omega) (by omega) (fun t ht => ?_) hsh (fun k' hk' => ?_) ?_ (fun o' no => ce_wI no) hP hD hS (fun H1 locs1 hP1 hD1 hS1 => w (okH_wI oh) ol os2 H1 locs1 ls hP1 hD1 hS1 hL)
          · have := (kd_ty ht).2.1 hk
            subst this
            rcases hg with rfl | rfl <;> exact ⟨rfl, rfl⟩
          · simp only [fvA, wI, up2_self, fv_upd hk']
          · simp [fvA, hk, wI, up2_self, upd, cv]
        · rename_i x hk
          cases hv
          refine put_go C ho hd hq hci (by omega) (by omega) (fun t ht => ?_) hsh (fun k' hk' => ?_) ?_ (fun o' no => ce_wL no) hP hD hS (fun H1 locs1 hP1 hD1 hS1 => w (okH_wL oh) ol os2 H1 locs1 ls hP1 hD1 hS1 hL)
          · have := (kd_ty ht).2.2.1 hk
            subst this
            exact ⟨rfl, rfl⟩
          · simp only [fvA, wL, up2_self, fv_updL hk']
          · simp [fvA, hk, wL, up2_self, vp_updL, cv]
        · rename_i k3 n3 q3 hk
          split at hv
          · rename_i hk3
            cases hv
            have hk30 : k3 < 30 := by
              have h3 : ∀ ci, ci < 13 → ∀ j, j < 60 → (fkA ci j).1 = 3 → (fkA ci j).2.1 < 13 := by decide +kernel
              rcases Nat.lt_or_ge j 60 with hj | hj
              · have := h3 kk hci j hj hk
                omega
              · rw [fk_big kk j hj] at hk; cases hk
            have hsq := okV_ref hk30 ow
            have hk13 : k3 < 13 := by
              have h3 : ∀ ci, ci < 13 → ∀ j, j < 60 → (fkA ci j).1 = 3 → (fkA ci j).2.1 < 13 := by decide +kernel
              rcases Nat.lt_or_ge j 60 with hj | hj
              · have := h3 kk hci j hj hk
                omega
              · rw [fk_big kk j hj] at hk; cases hk
            have hn3 := obj_len hsq hk13
            subst hn3
            refine put_go (v := vr k3 0 q3) C ho hd hq hci (by omega) (by omega) (fun t ht => ?_) hsh (fun k' hk' => ?_) ?_ (fun o' no => ce_wR no) hP hD hS (fun H1 locs1 hP1 hD1 hS1 => w (okH_wR_fld hsh hci (Or.inl ⟨hk, by rw [← hk3]; exact hsq⟩) oh) ol os2 H1 locs1 ls hP1 hD1 hS1 hL)
            · obtain ⟨z, hz⟩ := (kd_ty ht).2.2.2.1 hk
              subst hz
              exact ⟨rfl, rfl⟩
            · simp only [fvA, wR, up2_self, fv_updR hk']
            · rw [cv_ref hk30]; simp [fvA, hk, wR, up2_self, va_up]
          · cases hv
        · rename_i k3 n3 q3 hk
          split at hv
          · rename_i hk3
            cases hv
            subst hk3
            have hsq := okV_ref (by decide) ow
            refine put_go (v := vr 21 n3 q3) C ho hd hq hci (by omega) (by omega) (fun t ht => ?_) hsh (fun k' hk' => ?_) ?_ (fun o' no => ce_wR no) hP hD hS (fun H1 locs1 hP1 hD1 hS1 => w (okH_wR_fld hsh hci (Or.inr ⟨hk, n3, hsq⟩) oh) ol os2 H1 locs1 ls hP1 hD1 hS1 hL)
            · obtain ⟨z, hz⟩ := (kd_ty ht).2.2.2.2 hk
              subst hz
              exact ⟨rfl, rfl⟩
            · simp only [fvA, wR, up2_self, fv_updR hk']
            · rw [cv_ref (by decide)]; simp [fvA, hk, wR, up2_self, va_up]
          · cases hv
        · cases hv
      · cases hs
    · cases hs
  · cases hs
end PUT
