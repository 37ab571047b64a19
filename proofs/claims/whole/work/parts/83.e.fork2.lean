/-! fork throws; the law's fork -/
section FY
variable {Γ : AG} {p : Program} {e : Env} {R : Room} {s : State} {m : MethodId} {args : Array Value} {below : List Frame} {meth : Method} {c : Code} {cc : ByteArray} {nL own : Nat} {Q : State → Prop} {lv lv' : LV} {st st' : List AV} {h h' h1 : AH} {pc pc' : Nat} {r : Option AV} {g : Prop} {a1 a2 : Int32}
/-- where a method throws: the world stands in the heap -/
def XG (Γ : AG) (h : AH) : String → State → State → Prop := fun E st t => E = nse ∧ va_P (gD Γ) am_cl (wsA Γ h) t.heap ∧ va_F (gA Γ) st t
def rmF : Room := { frames := 8, cells := 1, slots := 6, locals := 512 }
theorem atT : ∀ w ∈ (atN.filter vx_no).filter goodWord, w ∈ lw_tbl := by decide +kernel
theorem atNB : ∀ w ∈ (atN.filter vx_no).filter (fun w => !goodWord w), w ∈ xw := by decide +kernel
theorem gdF : ∀ w ∈ Cond.classLink "HeathForks" 183 nse :: Cond.initialized nse :: atN.filter vx_no, vx_ot w = true := by decide +kernel
theorem xw_use {w : Cond} (hw : w ∈ xw) (h : va_Nw w s) : w.before args s = true := by
  simp only [xw, List.mem_cons, List.not_mem_nil, or_false] at hw
  rcases hw with rfl | rfl | rfl | rfl <;> exact va_Nw.use rfl h
theorem hatF (hts : ∀ w ∈ gw, w.before args s = true) (hN : ∀ w ∈ xw, va_Nw w s) : ∀ w ∈ atN.filter vx_no, w.before args s = true :=
  vx_hat (fun w hw => hts w (List.mem_filter.mpr ⟨atT w hw, (List.mem_filter.mp hw).2⟩)) atNB (fun w hw => xw_use hw (hN w hw))
/-- 'throw new NoSuchElementException(text)': as the kit's row, over the words atN -/
theorem thrN {Qc : Array Value → State → Outcome → State → Prop} {XC : String → State → State → Prop} {free : Addr → Prop} {l : Launch} {H : Heap} {locs : List Loc} {ls : Array Slot} {cc : ByteArray} {pc sa : Nat} {text : String} {A : Nat → Prop} (hexec : p.tables.exec = Jvm.exec) (hb : c.code = cc) (hl : l.stackTraces = false)
    (hown : s.vm.findClass "HeathForks" = some m.cls) (hk : (Cond.classLink "HeathForks" 183 nse).before args s = true) (hini : (Cond.initialized nse).before args s = true) (hstr : vk_R "HeathForks" 185 text sa s) (hat : ∀ w ∈ atN.filter vx_no, w.before args s = true)
    (hU : vx_Zq Bundle.tN "UNASSIGNED_STACK" Bundle.steD A s s.heap) (hN : vx_Zq Bundle.tN "SUPPRESSED_SENTINEL" Bundle.listD A s s.heap) (hS : va_S A s.heap H locs) (hsize : ls.size = c.maxLocals)
    (d0 : decode cc pc = .ok (.new 183, 3)) (d3 : decode cc (pc + 3) = .ok (.dup, 1)) (d4 : decode cc (pc + 4) = .ok (.ldc 185, 2)) (d6 : decode cc (pc + 6) = .ok (.invokespecial 187, 3)) (d9 : decode cc (pc + 9) = .ok (.athrow, 1))
    (hout : ∀ x ∈ c.exceptionTable.toList, covers x (pc + 9) = false) (hRf : 5 < R.frames) (hRl : 82 ≤ R.locals) (hRc : 1 ≤ R.cells) (hRs : 6 ≤ R.slots) (hlocks : meth.locks = false)
    (hx : ∀ t : State, s.vm.Alike t.vm → H.size ≤ t.heap.size → (∀ q : Nat, q < H.size → t.heap[q]? = H[q]?) → XC nse s t) (hf : ∀ z ∈ locs, free z.base) :
    W p l e R s m args below meth c H locs 0 0 (vx_MQ below Qc XC args s 1 6 free) (F0 m pc ls []) := by
  intro T hT X
  have htr : e.platform.stackTraces = false := (show e.platform.stackTraces = l.stackTraces by rw [X.admits.platform]).trans hl
  have Y := vx_rebase X (R' := { frames := R.frames, locals := R.locals, cells := 1, slots := 6 }) (Nat.le_refl _) (Nat.le_refl _) (by show 0 + 1 ≤ R.cells; omega) (by show 0 + 6 ≤ R.slots; omega)
  obtain ⟨s', hA⟩ : ∃ z, z = (T.setVm s.vm).setFrames (.invoking m args :: below) := ⟨_, rfl⟩
  rw [← hA] at Y
  have hvm : s'.vm = s.vm := by rw [hA]; rfl
  have hhp : s'.heap = H := by rw [hA]; exact hT
  have hW0 : s.WarmedH s'.vm := by rw [hvm]; exact State.WarmedH.refl s
  have hat' : ∀ w ∈ atN.filter vx_no, w.before args s' = true := fun w hw => vx_ot_at hW0 hvm.symm (gdF w (List.mem_cons_of_mem _ (List.mem_cons_of_mem _ hw))) (hat w hw)
  have hk' : (Cond.classLink "HeathForks" 183 nse).before args s' = true := vx_ot_at hW0 hvm.symm (gdF _ List.mem_cons_self) hk
  have hini' : (Cond.initialized nse).before args s' = true := vx_ot_at hW0 hvm.symm (gdF _ (List.mem_cons_of_mem _ List.mem_cons_self)) hini
  have hU' : vx_Zq Bundle.tN "UNASSIGNED_STACK" Bundle.steD A s' s'.heap := by rw [hhp]; exact vx_Zq.moved hW0.alike (hU.kept hS.2.1)
  have hN' : vx_Zq Bundle.tN "SUPPRESSED_SENTINEL" Bundle.listD A s' s'.heap := by rw [hhp]; exact vx_Zq.moved hW0.alike (hN.kept hS.2.1)
  have h : ∀ w ∈ atN, w.before args s' = true := vx_own hat' (vx_isRefq hU'.1) (vx_isRefq hN'.1) hU'.2.word hN'.2.word
  have hown' : s'.vm.findClass "HeathForks" = some m.cls := by rw [hvm]; exact hown
  have hins : (Cond.instantiable nse 6).before args s' = true := h _ (by decide +kernel)
  obtain ⟨vm₁, cX, kX, hfX, hkX, -, -, X₁, st1⟩ := Y.newCold hexec (own := "HeathForks") (C := nse) (index := 183) (n := 6) hown' hk' hins hini'
    (g := F0 m pc ls []) rfl (by rw [hb]; exact d0) (Nat.le_refl _) (Nat.le_refl _)
  generalize hT1 : (T.setVm vm₁).pushCell { cls := cX, slots := kX.instanceTypes.map defaultValue, vm := .none } = T1 at X₁ st1
  have hcellA : T1.heap[T.heap.size]? = some (freshCell cX kX) := by rw [← hT1]; exact State.heap_pushCell_size _ _
  have d3' : decode c.code (pc + 3) = .ok (.dup, 1) := by rw [hb]; exact d3
  have d4' : decode c.code (pc + 4) = .ok (.ldc 185, 2) := by rw [hb]; exact d4
  have hstr' : vk_R "HeathForks" 185 text sa s' := vk_R.warm hW0 hstr
  obtain ⟨U, hsteps, hrun, hend, hW, hsame, ce, hce, hv9, hO⟩ := ctorN X₁ hexec htr hown' h (fun x hx => nomatch hx) hfX hkX hcellA (by rw [hhp, hT]; exact Nat.le_refl _) (msg := .ref sa) rfl
    (g := { method := m, pc := pc + 6, locals := ls, stack := .ref sa :: .ref T.heap.size :: .ref T.heap.size :: [], locked := none }) rfl hsize rfl rfl (rest := []) rfl
    (by rw [hb]; exact d6) (by rw [hb]; exact d9) hout hRf (by show 2 * 0 + (1 + 0) + 81 ≤ R.locals; omega) hlocks
  obtain ⟨f1, f2⟩ := vx_frame hsame
  rw [hhp] at f1 f2
  have hWs : s.WarmedH U.vm := State.WarmedH.trans hW0 hW
  have hcl : s.vm.findClass nse = some ce.cls := by
    rw [hvm] at hO
    exact hO
  have hall : s.sameButNew ({ U with vm := s.vm } : State) locs 1 6 := by
    subst hA
    obtain ⟨e1, e2⟩ := hsame
    rw [State.setFrames_setFrames] at e1
    have h2 : (T.setVm s.vm).sameButNew ({ U with vm := s.vm } : State) [] (0 + 1) (0 + 6) := ⟨e1, e2⟩
    have h3 := X.same.trans h2
    rw [List.append_nil] at h3
    exact h3.mono (by decide) (by decide)
  refine ⟨U, ?_, .threw T.heap.size, hrun, hend, Or.inr ⟨T.heap.size, rfl, nse, ce, locs, hx U hWs.alike f1 (fun q hq => f2 q hq (fun z hz => nomatch hz)), hce, hv9, hcl, hWs, hall, hf⟩⟩
  refine st1 _ ?_
  show Steps p.tables e below (T1.setTop { method := m, pc := pc + 3, locals := ls, stack := .ref T.heap.size :: [], locked := none }) _
  jvm_step X₁.here [X₁.here.top, hexec, d3', Value.category]
  exact X₁.ldcString hexec (own := "HeathForks") (text := text) (index := 185) (a := sa) hown' hstr'.1 hstr'.2
    (g := { method := m, pc := pc + 4, locals := ls, stack := .ref T.heap.size :: .ref T.heap.size :: [], locked := none }) rfl d4' _ hsteps
theorem throwF {Qc : Array Value → State → Outcome → State → Prop} (C : Cx Γ p s m args c prog_1_method_8_code 3 0) (hst : (gl Γ).stackTraces = false) (hX : EX Γ s s.heap) (hout : ∀ x ∈ c.exceptionTable.toList, False) (hlk : meth.locks = false) : WH Γ p e rmF s m args below meth c 3 (vx_MQ below Qc (XG Γ h) args s 1 6 (gA Γ)) 21 lv [] h := by
  intro oh ol os H locs ls hP hD hS hL
  obtain ⟨hx, hb, hml, hown, hts, hK, hN, hT⟩ := C
  exact thrN (text := am_strT.getD (8 : Int).toNat "") (sa := gK Γ (8 : Int).toNat) (A := gA Γ) hx hb hst hown (hts _ (gwt6 43 rfl rfl)) (hts _ (gwt1 23 rfl rfl)) (hT.2.1 0 (185, 1, 8, 1282) (by decide) rfl) (hatF hts hX.2.2) hX.1 hX.2.1 hS (hL.1.trans hml.symm)
    (tk_HF_fork (21, .new 183, 3) (List.mem_of_getElem? (i := 10) rfl)) (tk_HF_fork (24, .dup, 1) (List.mem_of_getElem? (i := 11) rfl)) (tk_HF_fork (25, .ldc 185, 2) (List.mem_of_getElem? (i := 12) rfl)) (tk_HF_fork (27, .invokespecial 187, 3) (List.mem_of_getElem? (i := 13) rfl)) (tk_HF_fork (30, .athrow, 1) (List.mem_of_getElem? (i := 14) rfl))
    (fun x hx => (hout x hx).elim) (by decide) (by decide) (by decide) (by decide) hlk
    (fun t _ hz hk => ⟨rfl, hP.kept (fun k x hx => hk x.1 ((hP k x hx).lt)), Nat.le_trans hS.1 hz, fun q h1 h2 => (hk q (Nat.lt_of_lt_of_le h1 hS.1)).trans (hS.2.1 q h1 h2)⟩)
    (fun z hz => hS.2.2 z hz)
theorem wh_start {av : List AV} {n : Nat} (hav : ∀ v ∈ av, okV v) (hn : (enL av).length ≤ n) (w : WH Γ p e R s m args below meth c n Q 0 (enP n av) [] h) (oh : okH h) (hP : va_P (gD Γ) am_cl (wsA Γ h) s.heap) (hD : va_D (gA Γ) (wsA Γ h)) : W p (gl Γ) e R s m args below meth c s.heap [] 0 0 Q (entryFrame m (av.map (cv Γ)).toArray n) := by
  rw [lg_entry_eq]
  have hent := lv_entry (av.map (cv Γ)) (n := n) (by rw [← enL_len (Γ := Γ)]; exact hn)
  refine w oh ?_ (fun v hv => by cases hv) s.heap [] _ hP hD va_S.rf ?_
  · intro i v hv
    exact hav v (enL_get (Γ := Γ) av 0 i v (enP_get hv)).2
  · refine ⟨hent.1, hent.2.1, by simp only [enP, List.length_append, List.length_replicate]; omega, fun i v hv => ?_⟩
    have := hent.2.2 _ (enL_get (Γ := Γ) av 0 i v (enP_get hv)).1
    simpa using this
theorem WH.if_eq (C : Cx Γ p s m args c cc nL own) {tgt : Nat} {x : Int32} {off : Int} (hd : decode cc pc = .ok (.ifCond .eq off, 3)) (hto : (pc : Int) + off = (tgt : Int)) (kt : x = 0 → WH Γ p e R s m args below meth c nL Q tgt lv st h) (kf : ¬ x = 0 → WH Γ p e R s m args below meth c nL Q (pc + 3) lv st h) : WH Γ p e R s m args below meth c nL Q pc lv (vi x :: st) h :=
  fun oh ol os H locs ls hP hD hS hL => lv_if_eq C.1 C.2.1 hd hto (fun q => kt q oh ol (okS_cons.mp os).2 H locs ls hP hD hS hL) (fun q => kf q oh ol (okS_cons.mp os).2 H locs ls hP hD hS hL)
theorem WH.if_lt (C : Cx Γ p s m args c cc nL own) {tgt : Nat} {x : Int32} {off : Int} (hd : decode cc pc = .ok (.ifCond .lt off, 3)) (hto : (pc : Int) + off = (tgt : Int)) (kt : x < 0 → WH Γ p e R s m args below meth c nL Q tgt lv st h) (kf : ¬ x < 0 → WH Γ p e R s m args below meth c nL Q (pc + 3) lv st h) : WH Γ p e R s m args below meth c nL Q pc lv (vi x :: st) h :=
  fun oh ol os H locs ls hP hD hS hL => lv_if_lt C.1 C.2.1 hd hto (fun q => kt q oh ol (okS_cons.mp os).2 H locs ls hP hD hS hL) (fun q => kf q oh ol (okS_cons.mp os).2 H locs ls hP hD hS hL)
theorem WH.icmp_le (C : Cx Γ p s m args c cc nL own) {tgt : Nat} {x y : Int32} {off : Int} (hd : decode cc pc = .ok (.if_icmp .le off, 3)) (hto : (pc : Int) + off = (tgt : Int)) (kt : x ≤ y → WH Γ p e R s m args below meth c nL Q tgt lv st h) (kf : ¬ x ≤ y → WH Γ p e R s m args below meth c nL Q (pc + 3) lv st h) : WH Γ p e R s m args below meth c nL Q pc lv (vi y :: vi x :: st) h :=
  fun oh ol os H locs ls hP hD hS hL => lv_icmp_le C.1 C.2.1 hd hto (fun q => kt q oh ol (okS_cons.mp (okS_cons.mp os).2).2 H locs ls hP hD hS hL) (fun q => kf q oh ol (okS_cons.mp (okS_cons.mp os).2).2 H locs ls hP hD hS hL)
theorem avF : ∀ v ∈ [vr 0 0 0, vi a1, vi a2], okV v := by
  intro v hv
  rcases List.mem_cons.mp hv with rfl | hv
  · exact ov0
  · rcases List.mem_cons.mp hv with rfl | hv
    · trivial
    · rw [List.mem_singleton.mp hv]; trivial
/-- fork of the class: it throws -/
theorem x_HF_fork (hst : (gl Γ).stackTraces = false) (ht : thF a1 a2 h) : vx_Met (gl Γ) (my m_HF_fork) (.code (my m_HF_fork) (mb m_HF_fork) (ml m_HF_fork) (mr m_HF_fork) :: gw) rmF (va_Pc ([vr 0 0 0, vi a1, vi a2].map (cv Γ)) (WdX Γ h)) (fun _ _ _ _ => False) (XG Γ h) 1 6 (gA Γ) := by
  refine vx_ofW (cc := mb m_HF_fork) (maxL := ml m_HF_fork) (ret := mr m_HF_fork) (by decide) rfl ?_
  intro p e s m args below meth c s₁ B hml hout hv
  obtain ⟨rfl, ⟨hP, hD, hK, hN, hT, oh⟩, hX⟩ := hv
  have hts := atoms_spec (ws := Cond.code (my m_HF_fork) (mb m_HF_fork) (ml m_HF_fork) (mr m_HF_fork) :: gw) B.pre
  have C : Cx Γ p s m ([vr 0 0 0, vi a1, vi a2].map (cv Γ)).toArray c prog_1_method_8_code 3 0 := ⟨B.exec, B.bytes, hml, findClass_of_methodNamed B.named, fun w hw => hts w (List.mem_cons_of_mem _ hw), hK, hN, hT⟩
  have hlk := B.notSynchronized
  refine wh_start avF (Nat.le_of_ble_eq_true rfl) ?_ oh hP hD
  show WH Γ p e rmF s m _ below meth c 3 _ 0 [some (vr 0 0 0), some (vi a1), some (vi a2)] [] h
  refine WH.blk (pc' := 5) (lv' := [some (vr 0 0 0), some (vi a1), some (vi a2)]) (st' := [vi a1, vr 3 0 (h.2.2 0 13)]) (h' := h) C (by decide) 0 3 tk_HF_fork rfl rfl ⟨trivial, trivial, trivial, trivial⟩ ?_
  refine WH.callV (ν := m_Heath_isFork) (av := [vi a1]) (rest := []) (r1 := some (vi (p_Heath_isFork (h.2.2 0 13) a1 h))) (h1 := h) (ci := 3) (nn := 0) (o := (h.2.2 0 13)) C (tk_HF_fork (5, .invokevirtual 180, 3) (List.mem_of_getElem? (i := 3) rfl)) bb_Heath_isFork vv_Heath_isFork lk_0_180 (by decide) (by decide) rfl rfl rfl (Nat.le_of_ble_eq_true rfl) (s_Heath_isFork Γ (h.2.2 0 13) a1 h) ?_
  show WH Γ p e rmF s m _ below meth c 3 _ 8 [some (vr 0 0 0), some (vi a1), some (vi a2)] [vi (p_Heath_isFork (h.2.2 0 13) a1 h)] h
  refine WH.if_eq C (tgt := 21) (tk_HF_fork (8, .ifCond .eq 13, 3) (List.mem_of_getElem? (i := 4) rfl)) (by decide) (fun _ => throwF C hst hX hout hlk) (fun hc1 => ?_)
  refine WH.blk (pc' := 12) (lv' := [some (vr 0 0 0), some (vi a1), some (vi a2)]) (st' := [vi a2]) (h' := h) C (by decide) 5 1 tk_HF_fork rfl rfl ⟨trivial, trivial⟩ ?_
  refine WH.if_lt C (tgt := 21) (tk_HF_fork (12, .ifCond .lt 9, 3) (List.mem_of_getElem? (i := 6) rfl)) (by decide) (fun _ => throwF C hst hX hout hlk) (fun hc2 => ?_)
  refine WH.blk (pc' := 18) (lv' := [some (vr 0 0 0), some (vi a1), some (vi a2)]) (st' := [vi (ii 6), vi a2]) (h' := h) C (by decide) 7 2 tk_HF_fork rfl rfl ⟨trivial, trivial, trivial⟩ ?_
  refine WH.icmp_le C (tgt := 31) (tk_HF_fork (18, .if_icmp .le 13, 3) (List.mem_of_getElem? (i := 9) rfl)) (by decide) (fun hc3 => ?_) (fun _ => throwF C hst hX hout hlk)
  rcases ht with z | z | z
  · exact absurd z hc1
  · exact absurd z hc2
  · exact absurd hc3 (Int32.not_le.mpr z)
/-! the law's fork -/
def y_LF : MethodName := ⟨"HeathForksLaw", "fork", "(LHeathForks;II[J)I"⟩
def tb_LF : List (Nat × Instr × Nat) := [(0, .aload_n 3, 1), (1, .iconst 0, 1), (2, .aload_n 0, 1), (3, .iload_n 1, 1), (4, .iload_n 2, 1), (5, .invokevirtual 7, 3), (8, .i2l, 1), (9, .lastore, 1), (10, .goto 7, 3), (13, .astore 4, 2), (15, .iconst 1, 1), (16, .ireturn, 1), (17, .iconst 0, 1), (18, .ireturn, 1)]
def m_LF : AM := (17, y_LF, method_3_code, tb_LF, 5, some .int, 4)
theorem tk_LF : tabOk method_3_code tb_LF := by unfold tabOk; decide +kernel
abbrev hh_LF : List (Nat × Nat × Nat × Nat) := [(0, 10, 13, 13)]
abbrev w_LF : List Cond := .codeWith y_LF method_3_code 5 (some .int) hh_LF :: gw
theorem lk_17_7 : Cond.methodLink (am_own.getD 17 "") 7 (my m_HF_fork) ∈ gw := gwt6 39 rfl rfl
theorem ov105 : okV (vr 23 1 105) := Or.inr (Or.inr (Or.inr ⟨by decide, rfl⟩))
theorem avLF : ∀ v ∈ [vr 0 0 0, vi a1, vi a2, vr 23 1 105], okV v := by
  intro v hv
  rcases List.mem_cons.mp hv with rfl | hv
  · exact ov0
  · rcases List.mem_cons.mp hv with rfl | hv
    · trivial
    · rcases List.mem_cons.mp hv with rfl | hv
      · trivial
      · rw [List.mem_singleton.mp hv]; exact ov105
theorem a_LF {x : Int32} (hx : f_HF_fork a1 a2 h = some x) : Met (gl Γ) y_LF w_LF (rmA 4) (va_Pc ([vr 0 0 0, vi a1, vi a2, vr 23 1 105].map (cv Γ)) (WdX Γ h)) (QA Γ (some (vi (ii 0))) (wL h 105 0 x.toInt64)) 0 0 (gA Γ) := by
  refine va_MetW (cc := method_3_code) (maxL := 5) (ret := some .int) (hh := hh_LF) (by decide) rfl ?_
  intro p e s m args below meth c s₁ B hml hv
  obtain ⟨rfl, ⟨hP, hD, hK, hN, hT, oh⟩, hX⟩ := hv
  have hts := atoms_spec (ws := w_LF) B.pre
  have C : Cx Γ p s m ([vr 0 0 0, vi a1, vi a2, vr 23 1 105].map (cv Γ)).toArray c method_3_code 5 17 := ⟨B.exec, B.bytes, hml, findClass_of_methodNamed B.named, fun w hw => hts w (List.mem_cons_of_mem _ hw), hK, hN, hT⟩
  have E : Ev Γ m_LF 0 [some (vr 0 0 0), some (vi a1), some (vi a2), some (vr 23 1 105), none] [] h (some (vi (ii 0))) (wL h 105 0 x.toInt64) := by
    refine Ev.blk (pc' := 5) (lv' := [some (vr 0 0 0), some (vi a1), some (vi a2), some (vr 23 1 105), none]) (st' := [vi a2, vi a1, vr 0 0 0, vi (ii 0), vr 23 1 105]) (h' := h) 0 5 (Nat.le_of_ble_eq_true rfl) tk_LF rfl rfl ⟨trivial, trivial, trivial, trivial, trivial, trivial⟩ ?_
    refine Ev.callV (ν := m_HF_fork) (av := [vi a1, vi a2]) (rest := [vi (ii 0), vr 23 1 105]) (r1 := some (vi x)) (h1 := h) (ci := 0) (nn := 0) (o := 0) 5 2 tk_LF rfl bb_HF_fork vv_HF_fork lk_17_7 (by decide) rfl rfl (Or.inl rfl) (Nat.le_of_ble_eq_true rfl) (s_HF_fork Γ a1 a2 h x hx) ?_
    show Ev Γ m_LF 8 [some (vr 0 0 0), some (vi a1), some (vi a2), some (vr 23 1 105), none] [vi x, vi (ii 0), vr 23 1 105] h _ _
    refine Ev.blk (pc' := 17) (lv' := [some (vr 0 0 0), some (vi a1), some (vi a2), some (vr 23 1 105), none]) (st' := []) (h' := wL h 105 0 x.toInt64) 6 3 (Nat.le_of_ble_eq_true rfl) tk_LF rfl rfl ?_ ?_
    · exact ⟨trivial, rfl, trivial, trivial⟩
    · refine Ev.blk (pc' := 18) (lv' := [some (vr 0 0 0), some (vi a1), some (vi a2), some (vr 23 1 105), none]) (st' := [vi (ii 0)]) (h' := wL h 105 0 x.toInt64) 12 1 (Nat.le_of_ble_eq_true rfl) tk_LF rfl rfl ⟨trivial, trivial⟩ ?_
      exact Ev.iret 13 tk_LF rfl rfl
  exact wh_start avLF (Nat.le_of_ble_eq_true rfl) (E p e s m _ below meth c C B.returns B.notSynchronized) oh hP hD
def rmG : Room := { frames := 10, cells := 1, slots := 6, locals := 700 }
set_option maxHeartbeats 1000000 in
theorem b_LF (hst : (gl Γ).stackTraces = false) (ht : thF a1 a2 h) : Met (gl Γ) y_LF w_LF rmG (va_Pc ([vr 0 0 0, vi a1, vi a2, vr 23 1 105].map (cv Γ)) (WdX Γ h)) (QA Γ (some (vi (ii 1))) h) 1 6 (gA Γ) := by
  refine va_MetW (cc := method_3_code) (maxL := 5) (ret := some .int) (hh := hh_LF) (by decide) rfl ?_
  intro p e s m args below meth c s₁ B hml hv
  obtain ⟨rfl, ⟨hP, hD, hK, hN, hT, oh⟩, hX⟩ := hv
  have hts := atoms_spec (ws := w_LF) B.pre
  have htb : c.exceptionTable.toList = tableOf hh_LF := vx_table (x := y_LF) B (hts _ List.mem_cons_self)
  have htg : ∀ w ∈ gw, w.before ([vr 0 0 0, vi a1, vi a2, vr 23 1 105].map (cv Γ)).toArray s = true := fun w hw => hts w (List.mem_cons_of_mem _ hw)
  have hown : s.vm.findClass "HeathForksLaw" = some m.cls := findClass_of_methodNamed B.named
  have C : Cx Γ p s m ([vr 0 0 0, vi a1, vi a2, vr 23 1 105].map (cv Γ)).toArray c method_3_code 5 17 := ⟨B.exec, B.bytes, hml, hown, htg, hK, hN, hT⟩
  have hlk := B.notSynchronized
  have hr := B.returns
  have hx := B.exec
  have hb := B.bytes
  refine wh_start avLF (Nat.le_of_ble_eq_true rfl) ?_ oh hP hD
  show WH Γ p e rmG s m _ below meth c 5 _ 0 [some (vr 0 0 0), some (vi a1), some (vi a2), some (vr 23 1 105), none] [] h
  refine WH.blk (pc' := 5) (lv' := [some (vr 0 0 0), some (vi a1), some (vi a2), some (vr 23 1 105), none]) (st' := [vi a2, vi a1, vr 0 0 0, vi (ii 0), vr 23 1 105]) (h' := h) C (by decide) 0 5 tk_LF rfl rfl ⟨trivial, trivial, trivial, trivial, trivial, trivial⟩ ?_
  clear hP hD
  intro oh ol os H locs ls hP hD hS hL
  have run := vx_runV (p := p) (e := e) (R := rmG) (s := s) (m := m) (below := below) (meth := meth) (c := c) (H := H) (locs := locs) (cells := 0) (slots := 0) (As := [.int a1, .int a2]) (rest := [.int (ii 0), .ref (gs Γ 105)]) (b := gs Γ 0) (C := "HeathForks") (g := F0 m 5 ls [.int a2, .int a1, .ref (gs Γ 0), .int (ii 0), .ref (gs Γ 105)]) ⟨hx, hb, hml, hown, htg⟩ (x_HF_fork hst ht) ⟨callB_of 2 htg (good_gw bb_HF_fork) rfl rfl rfl (htg _ bb_HF_fork.1) (htg _ lk_17_7) ⟨bb_HF_fork.2.2.1.1, bb_HF_fork.2.2.1.2, bb_HF_fork.2.2.2.1⟩ ⟨by decide, by decide⟩, htg _ vv_HF_fork.1, htg _ vv_HF_fork.2⟩ ⟨WdX_blind _, recv_obj hK hP ov0 rfl, fun U hU hW => ⟨rfl, Wd_of hK hN hT oh hP hD hS hU hW, EX.of hX hS hU hW⟩⟩ rfl rfl hL.1 rfl (Nat.le_of_ble_eq_true rfl) (tk_LF (5, .invokevirtual 7, 3) (List.mem_of_getElem? (i := 5) rfl)) ⟨by decide, by decide⟩
  intro T hTT X
  rcases run T hTT X with ⟨v, st₀, t, T', L, _, _, _, _, _, hF, _⟩ | ⟨q, st₀, t, T', L, E, ce, h0, X', hL', e1, e2, ⟨rfl, hPt, hF⟩, hce, hcv, hcl, stp⟩
  · exact hF.elim
  · obtain ⟨k1, k2, k3⟩ := vx_keep h0 e1 hS (fun _ _ h => h) (fun _ h => h) hL' hF
    have hP' : va_P (gD Γ) am_cl (wsA Γ h) T'.heap := by rw [e1]; exact hPt
    have kk : W p (gl Γ) e rmG s m ([vr 0 0 0, vi a1, vi a2, vr 23 1 105].map (cv Γ)).toArray below meth c T'.heap (locs ++ L) 1 6 (MQ below (QA Γ (some (vi (ii 1))) h) ([vr 0 0 0, vi a1, vi a2, vr 23 1 105].map (cv Γ)).toArray s 1 6 (gA Γ)) (F0 m 13 ls [.ref q]) := by
      refine lv_astore hx hb (tk_LF (13, .astore 4, 2) (List.mem_of_getElem? (i := 9) rfl)) (hasL_asc hL) (by decide) rfl (fun ls' _ => ?_)
      refine lv_iconst (v := ii 1) hx hb (tk_LF (15, .iconst 1, 1) (List.mem_of_getElem? (i := 10) rfl)) rfl ?_
      exact W.iret hx hb hr (fun t ht hW => ⟨⟨rfl, fun v hv => by cases hv; trivial, Wd_of hK hN hT oh hP' hD k3 ht hW⟩, k3.F ht⟩) (fun q hq => k3.2.2 q hq) (tk_LF (16, .ireturn, 1) (List.mem_of_getElem? (i := 11) rfl)) hlk
    obtain ⟨t2, b1, b2⟩ := vx_catch (pc := 5) (own := "HeathForksLaw") (name := nse) hown [] { startPc := 0, endPc := 10, handlerPc := 13, catchType := 13 } [] htb (fun z hz => by cases hz) (by decide) (by decide) (htg _ (gwt6 38 rfl rfl)) (xw_use (List.mem_cons_self) (hX.2.2 _ List.mem_cons_self)) (by rw [e1]; exact hce) hcv hcl kk T' rfl X'
    exact ⟨t2, stp.trans b1, b2⟩
end FY
