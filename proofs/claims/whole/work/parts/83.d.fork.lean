/-! fork, that may throw -/
section FX
variable {Γ : AG} {p : Program} {e : Env} {R : Room} {s : State} {m : MethodId} {args : Array Value} {below : List Frame} {meth : Method} {c : Code} {cc : ByteArray} {nL own : Nat} {Q : State → Prop} {lv lv' : LV} {st st' : List AV} {h h' h1 : AH} {pc pc' : Nat} {r : Option AV} {g : Prop}
def nse : String := "java/util/NoSuchElementException"
def xw : List Cond := [.castable nse nse, .declares ⟨"java/lang/RuntimeException", "<init>", "(Ljava/lang/String;)V"⟩, .declares ⟨"java/lang/Exception", "<init>", "(Ljava/lang/String;)V"⟩, .declares ⟨"java/lang/Throwable", "<init>", "(Ljava/lang/String;)V"⟩]
theorem xw_warm {U : State} (hW : s.WarmedH U.vm) (h : ∀ w ∈ xw, va_Nw w s) : ∀ w ∈ xw, va_Nw w U := by
  intro w hw
  have h2 := h w hw
  simp only [xw, List.mem_cons, List.not_mem_nil, or_false] at hw
  rcases hw with rfl | rfl | rfl | rfl
  · exact va_Nw.warmC hW h2
  · exact va_Nw.warmD hW h2
  · exact va_Nw.warmD hW h2
  · exact va_Nw.warmD hW h2
theorem xw_same {U : State} (e : s.vm = U.vm) (h : ∀ w ∈ xw, va_Nw w s) : ∀ w ∈ xw, va_Nw w U := by
  intro w hw
  have h2 := h w hw
  simp only [xw, List.mem_cons, List.not_mem_nil, or_false] at hw
  rcases hw with rfl | rfl | rfl | rfl <;> exact va_Nw.same rfl e h2
/-- what a throw needs of the JDK's statics and tables -/
def EX (Γ : AG) (U : State) (H : Heap) : Prop := vx_Zq Bundle.tN "UNASSIGNED_STACK" Bundle.steD (gA Γ) U H ∧ vx_Zq Bundle.tN "SUPPRESSED_SENTINEL" Bundle.listD (gA Γ) U H ∧ ∀ w ∈ xw, va_Nw w U
theorem EX.of {U : State} {H : Heap} {locs : List Loc} (hx : EX Γ s s.heap) (hS : va_S (gA Γ) s.heap H locs) (hU : U.heap = H) (hW : s.WarmedH U.vm) : EX Γ U U.heap := by
  rw [hU]
  exact ⟨(hx.1.moved hW.alike).kept hS.2.1, (hx.2.1.moved hW.alike).kept hS.2.1, xw_warm hW hx.2.2⟩
theorem EX.same {U : State} (e : U.vm = s.vm) (eh : U.heap = s.heap) (hx : EX Γ s s.heap) : EX Γ U U.heap := by
  have ha : s.vm.Alike U.vm := by rw [e]; exact Vm.Alike.refl _
  rw [eh]
  exact ⟨hx.1.moved ha, hx.2.1.moved ha, xw_same e.symm hx.2.2⟩
def WdX (Γ : AG) (h : AH) (U : State) : Prop := Wd Γ h U ∧ EX Γ U U.heap
theorem WdX_blind (av : List Value) : FrameBlind (va_Pc av (WdX Γ h)) := by
  intro a U g mk hp
  obtain ⟨h0, h1, h2⟩ := hp
  exact ⟨h0, (Wd_blind av a U g mk ⟨h0, h1⟩).2, EX.same (s := U) (U := U.calling g mk a) rfl rfl h2⟩
def XF (Γ : AG) (h : AH) : String → State → State → Prop := fun E st t => E = nse ∧ Wd Γ h t ∧ va_F (gA Γ) st t
/-! the abstract steps, any end -/
theorem WH.blk (C : Cx Γ p s m args c cc nL own) (ho : own < 18) {t : List (Nat × Instr × Nat)} (i k : Nat) (ht : tabOk cc t) (hil : ilAll ((t.drop i).take k) = true) (hs : blk own ((t.drop i).take k) pc lv st h = some (pc', lv', st', h', g)) (hg : g) (w : WH Γ p e R s m args below meth c nL Q pc' lv' st' h') : WH Γ p e R s m args below meth c nL Q pc lv st h :=
  blk_sound C ho _ (fun x hx => ⟨ht x (List.mem_of_mem_drop (List.mem_of_mem_take hx)), by simpa using List.all_eq_true.mp hil x hx⟩) hs hg w
theorem WH.callV (C : Cx Γ p s m args c cc nL own) {n idx ci nn o : Nat} {ν : AM} {av rest : List AV} {r1 : Option AV} (hd : decode cc pc = .ok (.invokevirtual idx, 3)) (b : cB ν n) (v : cV ν) (hl : Cond.methodLink (am_own.getD own "") idx (my ν) ∈ gw) (hlev : mv ν + 1 ≤ R.frames) (hlo : 8 + (ml ν + 11) + 64 * mv ν ≤ R.locals) (hn : av.length = n) (hst : st = av.reverse ++ vr ci nn o :: rest)
    (hci : (am_cl[ci]?).map (fun q => q.1) = some (my ν).cls) (hcat : catS rest ≤ 8) (hM : MetA Γ ν (vr ci nn o :: av) h r1 h1) (w : WH Γ p e R s m args below meth c nL Q (pc + 3) lv (r1.toList ++ rest) h1) : WH Γ p e R s m args below meth c nL Q pc lv st h := by
  subst hst
  intro oh ol os H locs ls hP hD hS hL
  obtain ⟨hx, hb, hml, hown, hts, hK, hN, hT⟩ := id C
  have ov : okV (vr ci nn o) := os _ (by simp)
  have oa : ∀ z ∈ av, okV z := fun z hz => os z (by simp [hz])
  have orr : okS rest := fun z hz => os z (by simp [hz])
  have ha : cv Γ (vr ci nn o) = .ref (gs Γ o) := by
    refine cv_ref ?_
    rcases Nat.lt_or_ge ci 13 with hlt | hge
    · omega
    · rw [cl_no ci hge] at hci; cases hci
  have hMe := hM (fun z hz => by rcases List.mem_cons.mp hz with rfl | hz; exact ov; exact oa z hz)
  rw [List.map_cons, ha] at hMe
  rw [List.map_append, List.map_cons, List.map_reverse, ha]
  exact call_cont (va_runV (As := av.map (cv Γ)) ⟨hx, hb, hml, hown, hts⟩ hMe ⟨callB_of n hts (good_gw b) rfl rfl rfl (hts _ b.1) (hts _ hl) ⟨b.2.2.1.1, b.2.2.1.2, b.2.2.2.1⟩ ⟨hlev, hlo⟩, hts _ v.1, hts _ v.2⟩ ⟨Wd_blind _, recv_obj hK hP ov hci, fun U hU hW => ⟨rfl, Wd_of hK hN hT oh hP hD hS hU hW⟩⟩ rfl (by simpa using hn) (by rw [hL.1]) rfl (by rw [catS_eq]; show 2 * 0 + _ ≤ 8; omega) hd ⟨Nat.zero_le _, Nat.zero_le _⟩) hS hL ol orr w
/-! fork of the class: it answers -/
theorem s_HF_fork (Γ : AG) (a1 a2 : Int32) (h : AH) (x : Int32) (hx : f_HF_fork a1 a2 h = some x) : MetA Γ m_HF_fork [vr 0 0 0, vi a1, vi a2] h (some (vi x)) h := by
  refine Ev.met rfl rfl (Nat.le_of_ble_eq_true rfl) ?_
  show Ev Γ m_HF_fork 0 [some (vr 0 0 0), some (vi a1), some (vi a2)] [] h _ _
  obtain ⟨r, hr⟩ : ∃ r : Option AV, r = some (vi x) := ⟨_, rfl⟩
  obtain ⟨h', hh⟩ : ∃ h' : AH, h' = h := ⟨_, rfl⟩
  have hP : r = some (vi x) ∧ h' = h := ⟨hr, hh⟩
  suffices hS : Ev Γ m_HF_fork 0 [some (vr 0 0 0), some (vi a1), some (vi a2)] [] h r h' by rw [hr, hh] at hS; exact hS
  clear hr hh
  unfold f_HF_fork at hx
  refine Ev.blk (pc' := 5) (lv' := [some (vr 0 0 0), some (vi a1), some (vi a2)]) (st' := [vi a1, vr 3 0 (h.2.2 0 13)]) (h' := h) 0 3 (Nat.le_of_ble_eq_true rfl) tk_HF_fork rfl rfl ⟨trivial, trivial, trivial, trivial⟩ ?_
  refine Ev.callV (ν := m_Heath_isFork) (av := [vi a1]) (rest := []) (r1 := some (vi (p_Heath_isFork (h.2.2 0 13) a1 h))) (h1 := h) (ci := 3) (nn := 0) (o := (h.2.2 0 13)) 3 1 tk_HF_fork rfl bb_Heath_isFork vv_Heath_isFork lk_0_180 (by decide) rfl rfl (Or.inl rfl) (Nat.le_of_ble_eq_true rfl) (s_Heath_isFork Γ (h.2.2 0 13) a1 h) ?_
  show Ev Γ m_HF_fork 8 [some (vr 0 0 0), some (vi a1), some (vi a2)] [vi (p_Heath_isFork (h.2.2 0 13) a1 h)] h r h'
  refine Ev.if_eq 4 21 tk_HF_fork rfl (by decide) (fun hc1 => ?_) (fun hc1 => ?_)
  · replace hx := ip hc1 hx
    cases hx
  replace hx := ia hc1 hx
  refine Ev.blk (pc' := 12) (lv' := [some (vr 0 0 0), some (vi a1), some (vi a2)]) (st' := [vi a2]) (h' := h) 5 1 (Nat.le_of_ble_eq_true rfl) tk_HF_fork rfl rfl ⟨trivial, trivial⟩ ?_
  refine Ev.if_lt 6 21 tk_HF_fork rfl (by decide) (fun hc2 => ?_) (fun hc2 => ?_)
  · replace hx := ip hc2 hx
    cases hx
  replace hx := ia hc2 hx
  refine Ev.blk (pc' := 18) (lv' := [some (vr 0 0 0), some (vi a1), some (vi a2)]) (st' := [vi (ii 6), vi a2]) (h' := h) 7 2 (Nat.le_of_ble_eq_true rfl) tk_HF_fork rfl rfl ⟨trivial, trivial, trivial⟩ ?_
  refine Ev.icmp_le 9 31 tk_HF_fork rfl (by decide) (fun hc3 => ?_) (fun hc3 => ?_)
  · replace hx := ip hc3 hx
    refine Ev.blk (pc' := 32) (lv' := [some (vr 0 0 0), some (vi a1), some (vi a2)]) (st' := [vi a2]) (h' := h) 15 1 (Nat.le_of_ble_eq_true rfl) tk_HF_fork rfl rfl ⟨trivial, trivial⟩ ?_
    refine Ev.if_ne 16 44 tk_HF_fork rfl (by decide) (fun hc4 => ?_) (fun hc4 => ?_)
    · replace hx := ia hc4 hx
      refine Ev.blk (pc' := 47) (lv' := [some (vr 0 0 0), some (vi a1), some (vi a2)]) (st' := [vi (ii 6), vi a2]) (h' := h) 22 2 (Nat.le_of_ble_eq_true rfl) tk_HF_fork rfl rfl ⟨trivial, trivial, trivial⟩ ?_
      refine Ev.icmp_ne 24 59 tk_HF_fork rfl (by decide) (fun hc5 => ?_) (fun hc5 => ?_)
      · replace hx := ia hc5 hx
        refine Ev.blk (pc' := 65) (lv' := [some (vr 0 0 0), some (vi a1), some (vi a2)]) (st' := [vi a2, vi a1, vr 3 0 (h.2.2 0 13)]) (h' := h) 30 4 (Nat.le_of_ble_eq_true rfl) tk_HF_fork rfl rfl ⟨trivial, trivial, trivial, trivial, trivial⟩ ?_
        obtain ⟨q1, hq, hx⟩ := bd hx
        refine Ev.callV (ν := m_Heath_trait) (av := [vi a1, vi a2]) (rest := []) (r1 := some (vi q1)) (h1 := h) (ci := 3) (nn := 0) (o := (h.2.2 0 13)) 34 2 tk_HF_fork rfl bb_Heath_trait vv_Heath_trait lk_0_196 (by decide) rfl rfl (Or.inl rfl) (Nat.le_of_ble_eq_true rfl) (s_Heath_trait Γ (h.2.2 0 13) a1 a2 h _ hq) ?_
        show Ev Γ m_HF_fork 68 [some (vr 0 0 0), some (vi a1), some (vi a2)] [vi q1] h r h'
        obtain rfl := Option.some.inj hx
        obtain ⟨rfl, rfl⟩ := hP
        exact Ev.iret 35 tk_HF_fork rfl rfl
      · replace hx := ip hc5 hx
        refine Ev.blk (pc' := 55) (lv' := [some (vr 0 0 0), some (vi a1), some (vi a2)]) (st' := [vi a1, vr 8 0 13]) (h' := h) 25 3 (Nat.le_of_ble_eq_true rfl) tk_HF_fork rfl rfl ⟨trivial, trivial, trivial, trivial⟩ ?_
        obtain ⟨q1, hq, hx⟩ := bd hx
        refine Ev.callV (ν := m_Moor_payOf) (av := [vi a1]) (rest := []) (r1 := some (vi q1)) (h1 := h) (ci := 8) (nn := 0) (o := 13) 28 1 tk_HF_fork rfl bb_Moor_payOf vv_Moor_payOf lk_0_193 (by decide) rfl rfl (Or.inl rfl) (Nat.le_of_ble_eq_true rfl) (s_Moor_payOf Γ 13 a1 h _ hq) ?_
        show Ev Γ m_HF_fork 58 [some (vr 0 0 0), some (vi a1), some (vi a2)] [vi q1] h r h'
        obtain rfl := Option.some.inj hx
        obtain ⟨rfl, rfl⟩ := hP
        exact Ev.iret 29 tk_HF_fork rfl rfl
    · replace hx := ip hc4 hx
      refine Ev.blk (pc' := 40) (lv' := [some (vr 0 0 0), some (vi a1), some (vi a2)]) (st' := [vi a1, vr 8 0 13]) (h' := h) 17 3 (Nat.le_of_ble_eq_true rfl) tk_HF_fork rfl rfl ⟨trivial, trivial, trivial, trivial⟩ ?_
      obtain ⟨q1, hq, hx⟩ := bd hx
      refine Ev.callV (ν := m_Moor_placeOf) (av := [vi a1]) (rest := []) (r1 := some (vi q1)) (h1 := h) (ci := 8) (nn := 0) (o := 13) 20 1 tk_HF_fork rfl bb_Moor_placeOf vv_Moor_placeOf lk_0_190 (by decide) rfl rfl (Or.inl rfl) (Nat.le_of_ble_eq_true rfl) (s_Moor_placeOf Γ 13 a1 h _ hq) ?_
      show Ev Γ m_HF_fork 43 [some (vr 0 0 0), some (vi a1), some (vi a2)] [vi q1] h r h'
      obtain rfl := Option.some.inj hx
      obtain ⟨rfl, rfl⟩ := hP
      exact Ev.iret 21 tk_HF_fork rfl rfl
  · replace hx := ia hc3 hx
    cases hx
end FX
