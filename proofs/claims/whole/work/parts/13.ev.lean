section MV
variable {Γ : AG} {h : AH}
theorem nest_of {w : Cond} (h : am_nest w = true) : (∃ a i b n d z, w = .fieldLinkNest a i b n d z) ∨ ∃ a i x z, w = .methodLinkNest a i x z := by
  unfold am_nest at h
  split at h
  · exact Or.inl ⟨_, _, _, _, _, _, rfl⟩
  · exact Or.inr ⟨_, _, _, _, rfl⟩
  · cases h
theorem nw_warm {s U : State} (hW : s.WarmedH U.vm) (hN : ∀ w ∈ nw, va_Nw w s) : ∀ w ∈ nw, va_Nw w U := by
  intro w hw
  have h2 := hN w hw
  rcases nest_of (List.mem_filter.mp hw).2 with ⟨a, i, b, n, d, z, rfl⟩ | ⟨a, i, x, z, rfl⟩
  · exact va_Nw.warmF hW h2
  · exact va_Nw.warmM hW h2
theorem nw_same {s U : State} (e : s.vm = U.vm) (hN : ∀ w ∈ nw, va_Nw w s) : ∀ w ∈ nw, va_Nw w U := by
  intro w hw
  have h2 := hN w hw
  rcases nest_of (List.mem_filter.mp hw).2 with ⟨a, i, b, n, d, z, rfl⟩ | ⟨a, i, x, z, rfl⟩
  · exact va_Nw.same rfl e h2
  · exact va_Nw.same rfl e h2
theorem stA_warm {s U : State} {H : Heap} (hW : s.WarmedH U.vm) (hk : ∀ a : Nat, a < s.heap.size → ¬ gA Γ a → H[a]? = s.heap[a]?) (hT : stA Γ s s.heap) : stA Γ U H :=
  ⟨(hT.1.moved hW.alike).kept hk, fun own r h1 h2 => vk_R.warm hW (hT.2.1 own r h1 h2), fun t ht => ⟨((hT.2.2.1 t ht).1.moved hW.alike).kept hk, ((hT.2.2.1 t ht).2.moved hW.alike).kept hk⟩, (hT.2.2.2.1.moved hW.alike).kept hk, (hT.2.2.2.2.moved hW.alike).kept hk⟩
theorem stA_same {s U : State} (e : U.vm = s.vm) (eh : U.heap = s.heap) (hT : stA Γ s s.heap) : stA Γ U U.heap := by
  have ha : s.vm.Alike U.vm := by rw [e]; exact Vm.Alike.refl _
  rw [eh]
  exact ⟨hT.1.moved ha, fun own r h1 h2 => vk_R.same e (hT.2.1 own r h1 h2), fun t ht => ⟨(hT.2.2.1 t ht).1.moved ha, (hT.2.2.1 t ht).2.moved ha⟩, hT.2.2.2.1.moved ha, hT.2.2.2.2.moved ha⟩
theorem Wd_blind (av : List Value) : FrameBlind (va_Pc av (Wd Γ h)) := by
  intro a U g mk hp
  obtain ⟨h0, h1, h2, h3, h4, h5, h6⟩ := hp
  exact ⟨h0, h1, h2, va_K.moved (u := U) (U := U.calling g mk a) (Vm.Alike.refl U.vm) h3, nw_same (s := U) (U := U.calling g mk a) rfl h4, stA_same (s := U) (U := U.calling g mk a) rfl rfl h5, h6⟩
theorem Wd_of {s U : State} {H : Heap} {locs : List Loc} (hK : va_K (gD Γ) am_cl (tyA Γ) s) (hN : ∀ w ∈ nw, va_Nw w s) (hT : stA Γ s s.heap) (oh : okH h) (hP : va_P (gD Γ) am_cl (wsA Γ h) H) (hD : va_D (gA Γ) (wsA Γ h)) (hS : va_S (gA Γ) s.heap H locs) (hU : U.heap = H) (hW : s.WarmedH U.vm) : Wd Γ h U :=
  ⟨by rw [hU]; exact hP, hD, hK.moved hW.alike, nw_warm hW hN, by rw [hU]; exact stA_warm hW hS.2.1 hT, oh⟩
end MV
section EVR
variable {Γ : AG} {μ : AM} {pc pc' : Nat} {lv lv' : LV} {st st' : List AV} {h h' h'' : AH} {r : Option AV} {g : Prop}
theorem tabAt {i : Nat} {x : Nat × Instr × Nat} (ht : tabOk (mb μ) (mt μ)) (hi : (mt μ)[i]? = some x) : decode (mb μ) x.1 = .ok (x.2.1, x.2.2) := ht x (List.mem_of_getElem? hi)
/-! returns -/
theorem Ev.iret (i : Nat) {x : Int32} (ht : tabOk (mb μ) (mt μ)) (hi : (mt μ)[i]? = some (pc, .ireturn, 1)) (hr : mr μ = some .int) : Ev Γ μ pc lv [vi x] h (some (vi x)) h := by
  intro p e s m args below meth c C hrt hlk oh ol os H locs ls hP hD hS hL
  obtain ⟨hx, hb, hml, hown, hts, hK, hN, hT⟩ := id C
  have hd := tabAt ht hi
  have hq : ∀ t : State, t.heap = H → s.WarmedH t.vm → QA Γ (some (vi x)) h args s (.returned (some (.int x))) t := fun t hh hW => ⟨⟨rfl, fun v hv => by cases hv; trivial, Wd_of hK hN hT oh hP hD hS hh hW⟩, hS.F hh⟩
  exact W.iret hx hb (hrt.trans hr) hq (fun q hq => hS.2.2 q hq) hd hlk
theorem Ev.zret (i : Nat) {x : Int32} {ty : FieldType} (ht : tabOk (mb μ) (mt μ)) (hi : (mt μ)[i]? = some (pc, .ireturn, 1)) (hr : mr μ = some ty) (hn : narrow ty (.int x) = .int x) : Ev Γ μ pc lv [vi x] h (some (vi x)) h := by
  intro p e s m args below meth c C hrt hlk oh ol os H locs ls hP hD hS hL
  obtain ⟨hx, hb, hml, hown, hts, hK, hN, hT⟩ := id C
  have hd := tabAt ht hi
  have hq : ∀ t : State, t.heap = H → s.WarmedH t.vm → QA Γ (some (vi x)) h args s (.returned (some (.int x))) t := fun t hh hW => ⟨⟨rfl, fun v hv => by cases hv; trivial, Wd_of hK hN hT oh hP hD hS hh hW⟩, hS.F hh⟩
  exact W.zret hx hb (hrt.trans hr) hn hq (fun q hq => hS.2.2 q hq) hd hlk
theorem nbool {x : Int32} (hx : x = 0 ∨ x = 1) : narrow .boolean (.int x) = .int x := by rcases hx with rfl | rfl <;> rfl
theorem Ev.lret (i : Nat) {x : Int64} (ht : tabOk (mb μ) (mt μ)) (hi : (mt μ)[i]? = some (pc, .lreturn, 1)) (hr : mr μ = some .long) : Ev Γ μ pc lv [vl x] h (some (vl x)) h := by
  intro p e s m args below meth c C hrt hlk oh ol os H locs ls hP hD hS hL
  obtain ⟨hx, hb, hml, hown, hts, hK, hN, hT⟩ := id C
  have hd := tabAt ht hi
  have hq : ∀ t : State, t.heap = H → s.WarmedH t.vm → QA Γ (some (vl x)) h args s (.returned (some (.long x))) t := fun t hh hW => ⟨⟨rfl, fun v hv => by cases hv; trivial, Wd_of hK hN hT oh hP hD hS hh hW⟩, hS.F hh⟩
  exact W.lret hx hb (hrt.trans hr) hq (fun q hq => hS.2.2 q hq) hd hlk
theorem Ev.vret (i : Nat) (ht : tabOk (mb μ) (mt μ)) (hi : (mt μ)[i]? = some (pc, .return_, 1)) (hr : mr μ = none) : Ev Γ μ pc lv [] h none h := by
  intro p e s m args below meth c C hrt hlk oh ol os H locs ls hP hD hS hL
  obtain ⟨hx, hb, hml, hown, hts, hK, hN, hT⟩ := id C
  have hd := tabAt ht hi
  have hq : ∀ t : State, t.heap = H → s.WarmedH t.vm → QA Γ (none) h args s (.returned (none)) t := fun t hh hW => ⟨⟨rfl, fun v hv => (by cases hv), Wd_of hK hN hT oh hP hD hS hh hW⟩, hS.F hh⟩
  exact W.vret hx hb (hrt.trans hr) hq (fun q hq => hS.2.2 q hq) hd hlk
theorem Ev.aret (i : Nat) {k n q : Nat} {rt : FieldType} (ht : tabOk (mb μ) (mt μ)) (hi : (mt μ)[i]? = some (pc, .areturn, 1)) (hr : mr μ = some rt) (hrt : (∃ n, rt = .object n) ∨ ∃ t, rt = .array t) : Ev Γ μ pc lv [vr k n q] h (some (vr k n q)) h := by
  intro p e s m args below meth c C hm hlk oh ol os H locs ls hP hD hS hL
  obtain ⟨hx, hb, hml, hown, hts, hK, hN, hT⟩ := id C
  have hd := tabAt ht hi
  have hq : ∀ t : State, t.heap = H → s.WarmedH t.vm → QA Γ (some (vr k n q)) h args s (.returned (some (cv Γ (vr k n q)))) t := fun t hh hW => ⟨⟨rfl, fun v hv => by cases hv; exact os _ List.mem_cons_self, Wd_of hK hN hT oh hP hD hS hh hW⟩, hS.F hh⟩
  exact W.aret hx hb (hm.trans hr) hrt (Or.inr ⟨_, rfl⟩) hq (fun q hq => hS.2.2 q hq) hd hlk
/-! branches -/
theorem Ev.if_eq (i tgt : Nat) {x : Int32} {off : Int} (ht : tabOk (mb μ) (mt μ)) (hi : (mt μ)[i]? = some (pc, .ifCond .eq off, 3)) (hto : (pc : Int) + off = (tgt : Int)) (kt : x = 0 → Ev Γ μ tgt lv st h r h') (kf : ¬ x = 0 → Ev Γ μ (pc + 3) lv st h r h') : Ev Γ μ pc lv (vi x :: st) h r h' := by
  intro p e s m args below meth c C hrt hlk oh ol os H locs ls hP hD hS hL
  obtain ⟨hx, hb, -⟩ := id C
  have hd := tabAt ht hi
  exact lv_if_eq hx hb hd hto (fun q => kt q p e s m args below meth c C hrt hlk oh ol (okS_cons.mp os).2 H locs ls hP hD hS hL) (fun q => kf q p e s m args below meth c C hrt hlk oh ol (okS_cons.mp os).2 H locs ls hP hD hS hL)
theorem Ev.if_ne (i tgt : Nat) {x : Int32} {off : Int} (ht : tabOk (mb μ) (mt μ)) (hi : (mt μ)[i]? = some (pc, .ifCond .ne off, 3)) (hto : (pc : Int) + off = (tgt : Int)) (kt : ¬ x = 0 → Ev Γ μ tgt lv st h r h') (kf : x = 0 → Ev Γ μ (pc + 3) lv st h r h') : Ev Γ μ pc lv (vi x :: st) h r h' := by
  intro p e s m args below meth c C hrt hlk oh ol os H locs ls hP hD hS hL
  obtain ⟨hx, hb, -⟩ := id C
  have hd := tabAt ht hi
  exact lv_if_ne hx hb hd hto (fun q => kt q p e s m args below meth c C hrt hlk oh ol (okS_cons.mp os).2 H locs ls hP hD hS hL) (fun q => kf q p e s m args below meth c C hrt hlk oh ol (okS_cons.mp os).2 H locs ls hP hD hS hL)
theorem Ev.if_lt (i tgt : Nat) {x : Int32} {off : Int} (ht : tabOk (mb μ) (mt μ)) (hi : (mt μ)[i]? = some (pc, .ifCond .lt off, 3)) (hto : (pc : Int) + off = (tgt : Int)) (kt : x < 0 → Ev Γ μ tgt lv st h r h') (kf : ¬ x < 0 → Ev Γ μ (pc + 3) lv st h r h') : Ev Γ μ pc lv (vi x :: st) h r h' := by
  intro p e s m args below meth c C hrt hlk oh ol os H locs ls hP hD hS hL
  obtain ⟨hx, hb, -⟩ := id C
  have hd := tabAt ht hi
  exact lv_if_lt hx hb hd hto (fun q => kt q p e s m args below meth c C hrt hlk oh ol (okS_cons.mp os).2 H locs ls hP hD hS hL) (fun q => kf q p e s m args below meth c C hrt hlk oh ol (okS_cons.mp os).2 H locs ls hP hD hS hL)
theorem Ev.if_ge (i tgt : Nat) {x : Int32} {off : Int} (ht : tabOk (mb μ) (mt μ)) (hi : (mt μ)[i]? = some (pc, .ifCond .ge off, 3)) (hto : (pc : Int) + off = (tgt : Int)) (kt : 0 ≤ x → Ev Γ μ tgt lv st h r h') (kf : ¬ 0 ≤ x → Ev Γ μ (pc + 3) lv st h r h') : Ev Γ μ pc lv (vi x :: st) h r h' := by
  intro p e s m args below meth c C hrt hlk oh ol os H locs ls hP hD hS hL
  obtain ⟨hx, hb, -⟩ := id C
  have hd := tabAt ht hi
  exact lv_if_ge hx hb hd hto (fun q => kt q p e s m args below meth c C hrt hlk oh ol (okS_cons.mp os).2 H locs ls hP hD hS hL) (fun q => kf q p e s m args below meth c C hrt hlk oh ol (okS_cons.mp os).2 H locs ls hP hD hS hL)
theorem Ev.if_gt (i tgt : Nat) {x : Int32} {off : Int} (ht : tabOk (mb μ) (mt μ)) (hi : (mt μ)[i]? = some (pc, .ifCond .gt off, 3)) (hto : (pc : Int) + off = (tgt : Int)) (kt : 0 < x → Ev Γ μ tgt lv st h r h') (kf : ¬ 0 < x → Ev Γ μ (pc + 3) lv st h r h') : Ev Γ μ pc lv (vi x :: st) h r h' := by
  intro p e s m args below meth c C hrt hlk oh ol os H locs ls hP hD hS hL
  obtain ⟨hx, hb, -⟩ := id C
  have hd := tabAt ht hi
  exact lv_if_gt hx hb hd hto (fun q => kt q p e s m args below meth c C hrt hlk oh ol (okS_cons.mp os).2 H locs ls hP hD hS hL) (fun q => kf q p e s m args below meth c C hrt hlk oh ol (okS_cons.mp os).2 H locs ls hP hD hS hL)
theorem Ev.if_le (i tgt : Nat) {x : Int32} {off : Int} (ht : tabOk (mb μ) (mt μ)) (hi : (mt μ)[i]? = some (pc, .ifCond .le off, 3)) (hto : (pc : Int) + off = (tgt : Int)) (kt : x ≤ 0 → Ev Γ μ tgt lv st h r h') (kf : ¬ x ≤ 0 → Ev Γ μ (pc + 3) lv st h r h') : Ev Γ μ pc lv (vi x :: st) h r h' := by
  intro p e s m args below meth c C hrt hlk oh ol os H locs ls hP hD hS hL
  obtain ⟨hx, hb, -⟩ := id C
  have hd := tabAt ht hi
  exact lv_if_le hx hb hd hto (fun q => kt q p e s m args below meth c C hrt hlk oh ol (okS_cons.mp os).2 H locs ls hP hD hS hL) (fun q => kf q p e s m args below meth c C hrt hlk oh ol (okS_cons.mp os).2 H locs ls hP hD hS hL)
theorem Ev.icmp_eq (i tgt : Nat) {x y : Int32} {off : Int} (ht : tabOk (mb μ) (mt μ)) (hi : (mt μ)[i]? = some (pc, .if_icmp .eq off, 3)) (hto : (pc : Int) + off = (tgt : Int)) (kt : x = y → Ev Γ μ tgt lv st h r h') (kf : ¬ x = y → Ev Γ μ (pc + 3) lv st h r h') : Ev Γ μ pc lv (vi y :: vi x :: st) h r h' := by
  intro p e s m args below meth c C hrt hlk oh ol os H locs ls hP hD hS hL
  obtain ⟨hx, hb, -⟩ := id C
  have hd := tabAt ht hi
  exact lv_icmp_eq hx hb hd hto (fun q => kt q p e s m args below meth c C hrt hlk oh ol (okS_cons.mp (okS_cons.mp os).2).2 H locs ls hP hD hS hL) (fun q => kf q p e s m args below meth c C hrt hlk oh ol (okS_cons.mp (okS_cons.mp os).2).2 H locs ls hP hD hS hL)
theorem Ev.icmp_ne (i tgt : Nat) {x y : Int32} {off : Int} (ht : tabOk (mb μ) (mt μ)) (hi : (mt μ)[i]? = some (pc, .if_icmp .ne off, 3)) (hto : (pc : Int) + off = (tgt : Int)) (kt : ¬ x = y → Ev Γ μ tgt lv st h r h') (kf : x = y → Ev Γ μ (pc + 3) lv st h r h') : Ev Γ μ pc lv (vi y :: vi x :: st) h r h' := by
  intro p e s m args below meth c C hrt hlk oh ol os H locs ls hP hD hS hL
  obtain ⟨hx, hb, -⟩ := id C
  have hd := tabAt ht hi
  exact lv_icmp_ne hx hb hd hto (fun q => kt q p e s m args below meth c C hrt hlk oh ol (okS_cons.mp (okS_cons.mp os).2).2 H locs ls hP hD hS hL) (fun q => kf q p e s m args below meth c C hrt hlk oh ol (okS_cons.mp (okS_cons.mp os).2).2 H locs ls hP hD hS hL)
theorem Ev.icmp_lt (i tgt : Nat) {x y : Int32} {off : Int} (ht : tabOk (mb μ) (mt μ)) (hi : (mt μ)[i]? = some (pc, .if_icmp .lt off, 3)) (hto : (pc : Int) + off = (tgt : Int)) (kt : x < y → Ev Γ μ tgt lv st h r h') (kf : ¬ x < y → Ev Γ μ (pc + 3) lv st h r h') : Ev Γ μ pc lv (vi y :: vi x :: st) h r h' := by
  intro p e s m args below meth c C hrt hlk oh ol os H locs ls hP hD hS hL
  obtain ⟨hx, hb, -⟩ := id C
  have hd := tabAt ht hi
  exact lv_icmp_lt hx hb hd hto (fun q => kt q p e s m args below meth c C hrt hlk oh ol (okS_cons.mp (okS_cons.mp os).2).2 H locs ls hP hD hS hL) (fun q => kf q p e s m args below meth c C hrt hlk oh ol (okS_cons.mp (okS_cons.mp os).2).2 H locs ls hP hD hS hL)
theorem Ev.icmp_ge (i tgt : Nat) {x y : Int32} {off : Int} (ht : tabOk (mb μ) (mt μ)) (hi : (mt μ)[i]? = some (pc, .if_icmp .ge off, 3)) (hto : (pc : Int) + off = (tgt : Int)) (kt : y ≤ x → Ev Γ μ tgt lv st h r h') (kf : ¬ y ≤ x → Ev Γ μ (pc + 3) lv st h r h') : Ev Γ μ pc lv (vi y :: vi x :: st) h r h' := by
  intro p e s m args below meth c C hrt hlk oh ol os H locs ls hP hD hS hL
  obtain ⟨hx, hb, -⟩ := id C
  have hd := tabAt ht hi
  exact lv_icmp_ge hx hb hd hto (fun q => kt q p e s m args below meth c C hrt hlk oh ol (okS_cons.mp (okS_cons.mp os).2).2 H locs ls hP hD hS hL) (fun q => kf q p e s m args below meth c C hrt hlk oh ol (okS_cons.mp (okS_cons.mp os).2).2 H locs ls hP hD hS hL)
theorem Ev.icmp_gt (i tgt : Nat) {x y : Int32} {off : Int} (ht : tabOk (mb μ) (mt μ)) (hi : (mt μ)[i]? = some (pc, .if_icmp .gt off, 3)) (hto : (pc : Int) + off = (tgt : Int)) (kt : y < x → Ev Γ μ tgt lv st h r h') (kf : ¬ y < x → Ev Γ μ (pc + 3) lv st h r h') : Ev Γ μ pc lv (vi y :: vi x :: st) h r h' := by
  intro p e s m args below meth c C hrt hlk oh ol os H locs ls hP hD hS hL
  obtain ⟨hx, hb, -⟩ := id C
  have hd := tabAt ht hi
  exact lv_icmp_gt hx hb hd hto (fun q => kt q p e s m args below meth c C hrt hlk oh ol (okS_cons.mp (okS_cons.mp os).2).2 H locs ls hP hD hS hL) (fun q => kf q p e s m args below meth c C hrt hlk oh ol (okS_cons.mp (okS_cons.mp os).2).2 H locs ls hP hD hS hL)
theorem Ev.icmp_le (i tgt : Nat) {x y : Int32} {off : Int} (ht : tabOk (mb μ) (mt μ)) (hi : (mt μ)[i]? = some (pc, .if_icmp .le off, 3)) (hto : (pc : Int) + off = (tgt : Int)) (kt : x ≤ y → Ev Γ μ tgt lv st h r h') (kf : ¬ x ≤ y → Ev Γ μ (pc + 3) lv st h r h') : Ev Γ μ pc lv (vi y :: vi x :: st) h r h' := by
  intro p e s m args below meth c C hrt hlk oh ol os H locs ls hP hD hS hL
  obtain ⟨hx, hb, -⟩ := id C
  have hd := tabAt ht hi
  exact lv_icmp_le hx hb hd hto (fun q => kt q p e s m args below meth c C hrt hlk oh ol (okS_cons.mp (okS_cons.mp os).2).2 H locs ls hP hD hS hL) (fun q => kf q p e s m args below meth c C hrt hlk oh ol (okS_cons.mp (okS_cons.mp os).2).2 H locs ls hP hD hS hL)
/-! switches -/
theorem Ev.tabIn (i tgt : Nat) {x : Int32} (k : Int) {d lo hi : Int} {offs : Array Int} {len : Nat} {off : Int} (ht : tabOk (mb μ) (mt μ)) (hi' : (mt μ)[i]? = some (pc, .tableswitch d lo hi offs, len)) (hx : x = ii k) (h1 : (decide ((ii k).toInt = k) && decide (lo ≤ k) && decide (k ≤ hi) && decide (offs[(k - lo).toNat]? = some off)) = true) (hto : (pc : Int) + off = (tgt : Int)) (w : Ev Γ μ tgt lv st h r h') : Ev Γ μ pc lv (vi x :: st) h r h' := by
  subst hx
  simp only [Bool.and_eq_true, decide_eq_true_eq] at h1
  obtain ⟨⟨⟨a1, a2⟩, a3⟩, a4⟩ := h1
  intro p e s m args below meth c C hrt hlk oh ol os H locs ls hP hD hS hL
  obtain ⟨hx, hb, -⟩ := id C
  have hd := tabAt ht hi'
  exact lv_tableIn hx hb hd (by rw [a1]; omega) (by rw [a1]; omega) (by rw [a1]; exact a4) hto (w p e s m args below meth c C hrt hlk oh ol (okS_cons.mp os).2 H locs ls hP hD hS hL)
theorem outOf {x : Int32} {lo : Int} (n : Nat) (hlo : -1000 ≤ lo) (hn : lo + n ≤ 1000) (hx : ∀ k, k < n → x ≠ ii (lo + k)) : x.toInt < lo ∨ lo + n - 1 < x.toInt := by
  by_cases h1 : x.toInt < lo
  · exact Or.inl h1
  · by_cases h2 : lo + n - 1 < x.toInt
    · exact Or.inr h2
    · exfalso
      refine hx (x.toInt - lo).toNat (by omega) ?_
      have : lo + ((x.toInt - lo).toNat : Int) = x.toInt := by omega
      rw [this]
      exact (Int32.ofInt_toInt x).symm
theorem Ev.tabOut (i tgt : Nat) {x : Int32} {d lo hi : Int} {offs : Array Int} {len : Nat} (n : Nat) (ht : tabOk (mb μ) (mt μ)) (hi' : (mt μ)[i]? = some (pc, .tableswitch d lo hi offs, len)) (hn : (decide (-1000 ≤ lo) && decide (lo + n ≤ 1000) && decide (hi = lo + n - 1)) = true) (hx : ∀ k, k < n → x ≠ ii (lo + k)) (hto : (pc : Int) + d = (tgt : Int)) (w : Ev Γ μ tgt lv st h r h') : Ev Γ μ pc lv (vi x :: st) h r h' := by
  simp only [Bool.and_eq_true, decide_eq_true_eq] at hn
  obtain ⟨⟨a1, a2⟩, rfl⟩ := hn
  intro p e s m args below meth c C hrt hlk oh ol os H locs ls hP hD hS hL
  obtain ⟨hx', hb, -⟩ := id C
  have hd := tabAt ht hi'
  exact lv_tableOut hx' hb hd (outOf n a1 a2 hx) hto (w p e s m args below meth c C hrt hlk oh ol (okS_cons.mp os).2 H locs ls hP hD hS hL)
theorem Ev.look (i tgt : Nat) {x : Int32} {d off : Int} {ps : Array (Int × Int)} {len : Nat} (ht : tabOk (mb μ) (mt μ)) (hi' : (mt μ)[i]? = some (pc, .lookupswitch d ps, len)) (hp : (ps.toList.zip (ps.toList.drop 1)).all (fun (a, next) => a.1 < next.1) = true) (ho : Op.lookupswitch.offset ps.toList d x.toInt = off) (hto : (pc : Int) + off = (tgt : Int)) (w : Ev Γ μ tgt lv st h r h') : Ev Γ μ pc lv (vi x :: st) h r h' := by
  intro p e s m args below meth c C hrt hlk oh ol os H locs ls hP hD hS hL
  obtain ⟨hx, hb, -⟩ := id C
  have hd := tabAt ht hi'
  exact lv_lookup hx hb hd hp ho hto (w p e s m args below meth c C hrt hlk oh ol (okS_cons.mp os).2 H locs ls hP hD hS hL)
/-! the entry -/
def enL : List AV → LV
  | [] => []
  | .inr (.inl x) :: l => some (vl x) :: none :: enL l
  | v :: l => some v :: enL l
def enP (n : Nat) (av : List AV) : LV := enL av ++ List.replicate (n - (enL av).length) none
theorem enL_len (av : List AV) : (enL av).length = (lg_sl (av.map (cv Γ))).length := by
  induction av with
  | nil => rfl
  | cons v av ih =>
    rcases v with x | x | x
    · simp only [enL, List.length_cons, List.map_cons, lg_sl, List.flatMap_cons] at ih ⊢
      rw [ih]
      simp [cv, Value.category]
    · simp only [enL, List.length_cons, List.map_cons, lg_sl, List.flatMap_cons] at ih ⊢
      rw [ih]
      simp [cv, Value.category]
    · simp only [enL, List.length_cons, List.map_cons, lg_sl, List.flatMap_cons] at ih ⊢
      rw [ih]
      simp [cv, Value.category]
theorem enL_get (av : List AV) : ∀ (b i : Nat) (v : AV), (enL av)[i]? = some (some v) → (b + i, cv Γ v) ∈ lv_args b (av.map (cv Γ)) ∧ v ∈ av := by
  induction av with
  | nil => intro b i v h; simp [enL] at h
  | cons u av ih =>
    intro b i v h
    rcases u with x | x | x
    · cases i with
      | zero => simp only [enL, List.getElem?_cons_zero] at h; cases h; exact ⟨List.mem_cons_self, List.mem_cons_self⟩
      | succ i =>
        simp only [enL, List.getElem?_cons_succ] at h
        obtain ⟨a, b'⟩ := ih (b + 1) i v h
        refine ⟨List.mem_cons_of_mem _ ?_, List.mem_cons_of_mem _ b'⟩
        rw [show b + (i + 1) = b + 1 + i by omega]
        exact a
    · cases i with
      | zero => simp only [enL, List.getElem?_cons_zero] at h; cases h; exact ⟨List.mem_cons_self, List.mem_cons_self⟩
      | succ i =>
        simp only [enL, List.getElem?_cons_succ] at h
        cases i with
        | zero => simp at h
        | succ i =>
          simp only [List.getElem?_cons_succ] at h
          obtain ⟨a, b'⟩ := ih (b + 2) i v h
          refine ⟨List.mem_cons_of_mem _ ?_, List.mem_cons_of_mem _ b'⟩
          rw [show b + (i + 1 + 1) = b + 2 + i by omega]
          exact a
    · cases i with
      | zero => simp only [enL, List.getElem?_cons_zero] at h; cases h; exact ⟨List.mem_cons_self, List.mem_cons_self⟩
      | succ i =>
        simp only [enL, List.getElem?_cons_succ] at h
        obtain ⟨a, b'⟩ := ih (b + 1) i v h
        refine ⟨List.mem_cons_of_mem _ ?_, List.mem_cons_of_mem _ b'⟩
        rw [show b + (i + 1) = b + 1 + i by omega]
        exact a
theorem enP_get {n i : Nat} {av : List AV} {v : AV} (h : (enP n av)[i]? = some (some v)) : (enL av)[i]? = some (some v) := by
  unfold enP at h
  rcases Nat.lt_or_ge i (enL av).length with hl | hl
  · rwa [List.getElem?_append_left hl] at h
  · rw [List.getElem?_append_right hl] at h
    have := List.mem_of_getElem? h
    rw [List.mem_replicate] at this
    cases this.2
theorem Ev.met {av : List AV} (hpl : plainName (my μ).cls = true) (hown : (my μ).cls = am_own.getD (mo μ) "") (hn : (enL av).length ≤ ml μ) (w : Ev Γ μ 0 (enP (ml μ) av) [] h r h') : MetA Γ μ av h r h' := by
  intro hav
  refine Met.ofW (cc := mb μ) (maxL := ml μ) (ret := mr μ) hpl rfl ?_
  intro p e s m args below meth c s₁ B hml hv
  obtain ⟨rfl, hP, hD, hK, hN, hT, oh⟩ := hv
  have hts : ∀ w ∈ (Cond.code (my μ) (mb μ) (ml μ) (mr μ) :: gw), w.before ((av.map (cv Γ)).toArray) s = true := atoms_spec (ws := Cond.code (my μ) (mb μ) (ml μ) (mr μ) :: gw) B.pre
  rw [lg_entry_eq]
  have hent := lv_entry (av.map (cv Γ)) (n := ml μ) (by rw [← enL_len (Γ := Γ)]; exact hn)
  refine w p e s m _ below meth c ⟨B.exec, B.bytes, hml, by rw [← hown]; exact findClass_of_methodNamed B.named, fun w hw => hts w (List.mem_cons_of_mem _ hw), hK, hN, hT⟩ B.returns B.notSynchronized oh ?_ (fun v hv => by cases hv) s.heap [] _ hP hD va_S.rf ?_
  · intro i v hv
    exact hav v (enL_get (Γ := Γ) av 0 i v (enP_get hv)).2
  · refine ⟨hent.1, hent.2.1, by simp only [enP, List.length_append, List.length_replicate]; omega, fun i v hv => ?_⟩
    have := hent.2.2 _ (enL_get (Γ := Γ) av 0 i v (enP_get hv)).1
    simpa using this
/-! calls -/
def catS (st : List AV) : Nat := (st.map catA).sum
theorem catS_eq (st : List AV) : ((st.map (cv Γ)).map fun v => v.category).sum = catS st := by
  unfold catS
  rw [List.map_map]
  congr 1
  apply List.map_congr_left
  intro v _
  exact cv_cat Γ v
theorem call_cont {p : Program} {e : Env} {R : Room} {s : State} {m : MethodId} {args a : Array Value} {below : List Frame} {meth : Method} {c : Code} {nL : Nat} {Q : State → Prop} {H : Heap} {locs : List Loc} {ls : Array Slot} {st0 : List Value} {rest : List AV} {r1 : Option AV} {h1 : AH}
    (hr : va_Run p (gl Γ) e R s m args below meth c H locs 0 0 0 0 (F0 m pc ls st0) (rest.map (cv Γ)) (QA Γ r1 h1 a) (gA Γ)) (hS : va_S (gA Γ) s.heap H locs) (hL : hasL Γ ls nL lv) (ol : okL lv) (os : okS rest)
    (w : WH Γ p e R s m args below meth c nL Q (pc + 3) lv (r1.toList ++ rest) h1) : W p (gl Γ) e R s m args below meth c H locs 0 0 Q (F0 m pc ls st0) := by
  intro T hT X
  obtain ⟨v, st₀, t, T', L, h0, X', hL', e1, e2, ⟨⟨hv, hok, hWd⟩, hz, hk⟩, stp⟩ := hr T hT X
  have hv2 : v = r1.map (cv Γ) := by cases hv; rfl
  subst hv2
  rw [h0] at hz hk
  have hst : (r1.map (cv Γ)).toList ++ rest.map (cv Γ) = (r1.toList ++ rest).map (cv Γ) := by cases r1 <;> simp
  obtain ⟨t2, a1, b1⟩ := w hWd.2.2.2.2.2 ol (fun v hv => by
      rcases List.mem_append.mp hv with h | h
      · cases r1 with
        | none => simp at h
        | some z => simp at h; subst h; exact hok _ rfl
      · exact os v h) T'.heap (locs ++ L) ls (by rw [e1]; exact hWd.1) hWd.2.1
    ⟨Nat.le_trans hS.1 (by rw [e1]; exact hz), fun q h1 h2 => by rw [e1, hk q (Nat.lt_of_lt_of_le h1 hS.1) h2]; exact hS.2.1 q h1 h2, fun q hq => by
      rcases List.mem_append.mp hq with h | h
      · exact hS.2.2 q h
      · exact hL' q h⟩ hL T' rfl X'
  rw [← hst] at a1
  exact ⟨t2, stp t2 a1, b1⟩
/-- the words of a call -/
def cB (ν : AM) (n : Nat) : Prop := Cond.initialized (my ν).cls ∈ gw ∧ Cond.code (my ν) (mb ν) (ml ν) (mr ν) ∈ gw ∧ ((my ν).cls ≠ "java/lang/invoke/MethodHandle" ∧ (my ν).cls ≠ "java/lang/invoke/VarHandle") ∧ (parseMethodDescriptor (my ν).desc).map (fun d => d.parameters.length) = some n ∧ ml ν ≤ 45
def cV (ν : AM) : Prop := Cond.instanceMethod (my ν) ∈ gw ∧ Cond.selects (my ν).cls (my ν) (my ν) ∈ gw
theorem good_gw {ν : AM} {n : Nat} (b : cB ν n) : GoodIn gw (Cond.code (my ν) (mb ν) (ml ν) (mr ν) :: gw) := by
  intro w hw
  rcases List.mem_cons.mp hw with rfl | hw
  · exact ⟨b.2.1, good_of_word (List.mem_filter.mp b.2.1).2⟩
  · exact ⟨hw, good_of_word (List.mem_filter.mp hw).2⟩
theorem cB_call {ν : AM} {n own idx : Nat} {s : State} {args : Array Value} (b : cB ν n) (hts : ∀ w ∈ gw, w.before args s = true) (hl : Cond.methodLink (am_own.getD own "") idx (my ν) ∈ gw) (hlev : mv ν + 1 ≤ mv μ) :
    CallB (rmA (mv μ)) s args (am_own.getD own "") idx (my ν) (mb ν) (ml ν) (mr ν) (.code (my ν) (mb ν) (ml ν) (mr ν) :: gw) (rmA (mv ν)) 0 0 n := by
  obtain ⟨b1, b2, b3, b4, b5⟩ := b
  refine callB_of n hts (good_gw (n := n) ⟨b1, b2, b3, b4, b5⟩) rfl rfl rfl (hts _ b1) (hts _ hl) ⟨b3.1, b3.2, b4⟩ ⟨hlev, ?_⟩
  show 8 + (ml ν + 11) + 64 * mv ν ≤ 64 * mv μ
  omega
theorem cB_callN {ν : AM} {n own idx : Nat} {s : State} {args : Array Value} (b : cB ν n) (hts : ∀ w ∈ gw, w.before args s = true) (hN : ∀ w ∈ nw, va_Nw w s) (hl : Cond.methodLinkNest (am_own.getD own "") idx (my ν) "HeathForks" ∈ nw) (hlev : mv ν + 1 ≤ mv μ) :
    va_CN (rmA (mv μ)) s args (am_own.getD own "") idx (my ν) "HeathForks" (mb ν) (ml ν) (mr ν) (.code (my ν) (mb ν) (ml ν) (mr ν) :: gw) (rmA (mv ν)) 0 0 n := by
  obtain ⟨b1, b2, b3, b4, b5⟩ := b
  refine va_cnB n hts (good_gw (n := n) ⟨b1, b2, b3, b4, b5⟩) rfl rfl rfl (hN _ hl) (hts _ b1) ⟨b3.1, b3.2, b4⟩ ⟨hlev, ?_⟩
  show 8 + (ml ν + 11) + 64 * mv ν ≤ 64 * mv μ
  omega
theorem recv_obj {ci n o : Nat} {s : State} {H : Heap} {C : String} (hK : va_K (gD Γ) am_cl (tyA Γ) s) (hP : va_P (gD Γ) am_cl (wsA Γ h) H) (ov : okV (vr ci n o)) (hc : (am_cl[ci]?).map (fun q => q.1) = some C) : ∃ cellB : Cell, H[gs Γ o]? = some cellB ∧ cellB.vm.isStatics = false ∧ s.vm.findClass C = some cellB.cls := by
  have hci : ci < 13 := by
    rcases Nat.lt_or_ge ci 13 with hlt | hge
    · exact hlt
    · rw [cl_no ci hge] at hc; cases hc
  have hsh := okV_ref (by omega) ov
  have he := wsA_at Γ h (sh_lt hsh)
  rw [ceA_obj hsh hci] at he
  cases hq : am_cl[ci]? with
  | none => rw [hq] at hc; cases hc
  | some q =>
    rw [hq] at hc
    cases hc
    exact va_recv hK hP (ci := ci) (q0 := o) hq he
/-- the stack at a call: the arguments (the last on top), the receiver, the rest -/
theorem Ev.callV (i n : Nat) {idx : Nat} {ν : AM} {av rest : List AV} {ci nn o : Nat} {r1 : Option AV} {h1 : AH} (ht : tabOk (mb μ) (mt μ)) (hi : (mt μ)[i]? = some (pc, .invokevirtual idx, 3)) (b : cB ν n) (v : cV ν) (hl : Cond.methodLink (am_own.getD (mo μ) "") idx (my ν) ∈ gw) (hlev : mv ν + 1 ≤ mv μ) (hn : av.length = n) (hst : st = av.reverse ++ vr ci nn o :: rest)
    (hci : (am_cl[ci]?).map (fun q => q.1) = some (my ν).cls ∨ (ci = 31 ∧ (my ν).cls = "java/lang/String")) (hcat : catS rest ≤ 8) (hM : MetA Γ ν (vr ci nn o :: av) h r1 h1) (w : Ev Γ μ (pc + 3) lv (r1.toList ++ rest) h1 r h') : Ev Γ μ pc lv st h r h' := by
  subst hst
  intro p e s m args below meth c C hrt hlk oh ol os H locs ls hP hD hS hL
  obtain ⟨hx, hb, hml, hown, hts, hK, hN, hT⟩ := id C
  have hd := tabAt ht hi
  have ov : okV (vr ci nn o) := os _ (by simp)
  have oa : ∀ z ∈ av, okV z := fun z hz => os z (by simp [hz])
  have orr : okS rest := fun z hz => os z (by simp [hz])
  have hcvr : ∃ a, cv Γ (vr ci nn o) = .ref a ∧ ∃ cellB : Cell, H[a]? = some cellB ∧ cellB.vm.isStatics = false ∧ s.vm.findClass (my ν).cls = some cellB.cls := by
    rcases hci with hc | ⟨rfl, hc⟩
    · refine ⟨gs Γ o, cv_ref ?_, recv_obj hK hP ov hc⟩
      rcases Nat.lt_or_ge ci 13 with hlt | hge
      · omega
      · rw [cl_no ci hge] at hc; cases hc
    · refine ⟨gK Γ o, cv_str, ?_⟩
      rw [hc]
      exact vk_recv hT.1 (kvA_str ov) hS
  obtain ⟨a, ha, hcell⟩ := hcvr
  have hMe := hM (fun z hz => by rcases List.mem_cons.mp hz with rfl | hz; exact ov; exact oa z hz)
  rw [List.map_cons, ha] at hMe
  rw [List.map_append, List.map_cons, List.map_reverse, ha]
  exact call_cont (va_runV (As := av.map (cv Γ)) ⟨hx, hb, hml, hown, hts⟩ hMe ⟨cB_call b hts hl hlev, hts _ v.1, hts _ v.2⟩ ⟨Wd_blind _, hcell, fun U hU hW => ⟨rfl, Wd_of hK hN hT oh hP hD hS hU hW⟩⟩ rfl (by simpa using hn) (by rw [hL.1]) rfl (by rw [catS_eq]; show 2 * 0 + _ ≤ 8; omega) hd ⟨Nat.zero_le _, Nat.zero_le _⟩) hS hL ol orr (w p e s m args below meth c C hrt hlk)
theorem Ev.callVN (i n : Nat) {idx : Nat} {ν : AM} {av rest : List AV} {ci nn o : Nat} {r1 : Option AV} {h1 : AH} (ht : tabOk (mb μ) (mt μ)) (hi : (mt μ)[i]? = some (pc, .invokevirtual idx, 3)) (b : cB ν n) (v : cV ν) (hl : Cond.methodLinkNest (am_own.getD (mo μ) "") idx (my ν) "HeathForks" ∈ nw) (hlev : mv ν + 1 ≤ mv μ) (hn : av.length = n) (hst : st = av.reverse ++ vr ci nn o :: rest)
    (hci : (am_cl[ci]?).map (fun q => q.1) = some (my ν).cls) (hcat : catS rest ≤ 8) (hM : MetA Γ ν (vr ci nn o :: av) h r1 h1) (w : Ev Γ μ (pc + 3) lv (r1.toList ++ rest) h1 r h') : Ev Γ μ pc lv st h r h' := by
  subst hst
  intro p e s m args below meth c C hrt hlk oh ol os H locs ls hP hD hS hL
  obtain ⟨hx, hb, hml, hown, hts, hK, hN, hT⟩ := id C
  have hd := tabAt ht hi
  have ov : okV (vr ci nn o) := os _ (by simp)
  have oa : ∀ z ∈ av, okV z := fun z hz => os z (by simp [hz])
  have orr : okS rest := fun z hz => os z (by simp [hz])
  have ha : cv Γ (vr ci nn o) = .ref (gs Γ o) := by
    refine cv_ref ?_
    rcases Nat.lt_or_ge ci 13 with hlt | hge
    · omega
    · rw [cl_no ci hge] at hci; cases hci
  have hMe := hM (fun z hz => by rcases List.mem_cons.mp hz with rfl | hz; exact ov; exact oa z hz)
  rw [List.map_cons, ha] at hMe
  rw [List.map_append, List.map_cons, List.map_reverse, ha]
  exact call_cont (va_runVN (As := av.map (cv Γ)) ⟨hx, hb, hml, hown, hts⟩ hMe ⟨cB_callN b hts hN hl hlev, hts _ v.1, hts _ v.2⟩ ⟨Wd_blind _, recv_obj hK hP ov hci, fun U hU hW => ⟨rfl, Wd_of hK hN hT oh hP hD hS hU hW⟩⟩ rfl (by simpa using hn) (by rw [hL.1]) rfl (by rw [catS_eq]; show 2 * 0 + _ ≤ 8; omega) hd ⟨Nat.zero_le _, Nat.zero_le _⟩) hS hL ol orr (w p e s m args below meth c C hrt hlk)
theorem Ev.callS (i n : Nat) {idx : Nat} {ν : AM} {av rest : List AV} {r1 : Option AV} {h1 : AH} (ht : tabOk (mb μ) (mt μ)) (hi : (mt μ)[i]? = some (pc, .invokestatic idx, 3)) (b : cB ν n) (v : Cond.static (my ν) ∈ gw) (hl : Cond.methodLink (am_own.getD (mo μ) "") idx (my ν) ∈ gw) (hlev : mv ν + 1 ≤ mv μ) (hn : av.length = n) (hst : st = av.reverse ++ rest)
    (hcat : catS rest ≤ 8) (hM : MetA Γ ν av h r1 h1) (w : Ev Γ μ (pc + 3) lv (r1.toList ++ rest) h1 r h') : Ev Γ μ pc lv st h r h' := by
  subst hst
  intro p e s m args below meth c C hrt hlk oh ol os H locs ls hP hD hS hL
  obtain ⟨hx, hb, hml, hown, hts, hK, hN, hT⟩ := id C
  have hd := tabAt ht hi
  have oa : ∀ z ∈ av, okV z := fun z hz => os z (by simp [hz])
  have orr : okS rest := fun z hz => os z (by simp [hz])
  have hMe := hM oa
  rw [List.map_append, List.map_reverse]
  exact call_cont (va_runS (As := av.map (cv Γ)) ⟨hx, hb, hml, hown, hts⟩ hMe ⟨cB_call b hts hl hlev, hts _ v⟩ ⟨Wd_blind _, fun U hU hW => ⟨rfl, Wd_of hK hN hT oh hP hD hS hU hW⟩⟩ rfl (by simpa using hn) (by rw [hL.1]) rfl (by rw [catS_eq]; show 2 * 0 + _ ≤ 8; omega) hd ⟨Nat.zero_le _, Nat.zero_le _⟩) hS hL ol orr (w p e s m args below meth c C hrt hlk)
theorem Ev.callSN (i n : Nat) {idx : Nat} {ν : AM} {av rest : List AV} {r1 : Option AV} {h1 : AH} (ht : tabOk (mb μ) (mt μ)) (hi : (mt μ)[i]? = some (pc, .invokestatic idx, 3)) (b : cB ν n) (v : Cond.static (my ν) ∈ gw) (hl : Cond.methodLinkNest (am_own.getD (mo μ) "") idx (my ν) "HeathForks" ∈ nw) (hlev : mv ν + 1 ≤ mv μ) (hn : av.length = n) (hst : st = av.reverse ++ rest)
    (hcat : catS rest ≤ 8) (hM : MetA Γ ν av h r1 h1) (w : Ev Γ μ (pc + 3) lv (r1.toList ++ rest) h1 r h') : Ev Γ μ pc lv st h r h' := by
  subst hst
  intro p e s m args below meth c C hrt hlk oh ol os H locs ls hP hD hS hL
  obtain ⟨hx, hb, hml, hown, hts, hK, hN, hT⟩ := id C
  have hd := tabAt ht hi
  have oa : ∀ z ∈ av, okV z := fun z hz => os z (by simp [hz])
  have orr : okS rest := fun z hz => os z (by simp [hz])
  have hMe := hM oa
  rw [List.map_append, List.map_reverse]
  exact call_cont (va_runSN (As := av.map (cv Γ)) ⟨hx, hb, hml, hown, hts⟩ hMe ⟨cB_callN b hts hN hl hlev, hts _ v, trivial⟩ ⟨Wd_blind _, fun U hU hW => ⟨rfl, Wd_of hK hN hT oh hP hD hS hU hW⟩⟩ rfl (by simpa using hn) (by rw [hL.1]) rfl (by rw [catS_eq]; show 2 * 0 + _ ≤ 8; omega) hd ⟨Nat.zero_le _, Nat.zero_le _⟩) hS hL ol orr (w p e s m args below meth c C hrt hlk)
end EVR
