theorem smr {α β γ : Type} {b : β} {f : α → γ} {g : β → γ} {x : γ} (h : sm (.inr b) f g = x) : g b = x := h
/-! String.checkIndex: by hand (the formatter that it hands on is a reference or null) -/
def y_pci : MethodName := ⟨"jdk/internal/util/Preconditions", "checkIndex", "(IILjava/util/function/BiFunction;)I"⟩
def b_pci : ByteArray := prog_31_method_11_code
def tb_pci : List (Nat × Instr × Nat) := [(0, .iload_n 0, 1), (1, .ifCond .lt 8, 3), (4, .iload_n 0, 1), (5, .iload_n 1, 1), (6, .if_icmp .lt 10, 3), (16, .iload_n 0, 1), (17, .ireturn, 1)]
theorem tk_pci : tabOk prog_31_method_11_code tb_pci := by unfold tabOk; decide +kernel
set_option maxRecDepth 20000 in
theorem w_pci1 : Cond.initialized y_pci.cls ∈ gw := (gwt1 18 rfl rfl)
set_option maxRecDepth 20000 in
theorem w_pci2 : Cond.code y_pci b_pci 3 (some .int) ∈ gw := (gwt7 116 rfl rfl)
set_option maxRecDepth 20000 in
theorem w_pci3 : Cond.static y_pci ∈ gw := (gwt7 115 rfl rfl)
set_option maxRecDepth 20000 in
theorem w_pci4 : Cond.methodLink "java/lang/String" 1059 y_pci ∈ gw := (gwt7 114 rfl rfl)
set_option maxRecDepth 20000 in
theorem w_pci5 : Cond.fieldLink "java/lang/String" 1053 "jdk/internal/util/Preconditions" "SIOOBE_FORMATTER" "Ljava/util/function/BiFunction;" ∈ gw := (gwt3 16 rfl rfl)
theorem pci_at {i : Nat} {x : Nat × Instr × Nat} (hi : tb_pci[i]? = some x) : decode b_pci x.1 = .ok (x.2.1, x.2.2) := tk_pci x (List.mem_of_getElem? hi)
theorem s_pci (Γ : AG) (i n : Int32) (v : Value) (h : AH) (hc : v.category = 1) (h0 : 0 ≤ i) (h1 : i < n) : Met (gl Γ) y_pci (.code y_pci b_pci 3 (some .int) :: gw) (rmA 0) (va_Pc [.int i, .int n, v] (Wd Γ h)) (QA Γ (some (vi i)) h) 0 0 (gA Γ) := by
  refine Met.ofW (cc := b_pci) (maxL := 3) (ret := some .int) (by decide) rfl ?_
  intro p e s m args below meth c s₁ B hml hv
  obtain ⟨rfl, hP, hD, hK, hN, hT, oh⟩ := hv
  rw [lg_entry_eq]
  have hx := B.exec
  have hb := B.bytes
  have hlk := B.notSynchronized
  have hr := B.returns
  have hlen : (lg_sl [.int i, .int n, v]).length = 3 := by cases v <;> first | rfl | (exfalso; revert hc; decide) | (exfalso; simp [Value.category] at hc)
  have hl := lv_entry [.int i, .int n, v] (n := 3) (by rw [hlen]; omega)
  generalize (lg_sl [.int i, .int n, v] ++ List.replicate (3 - (lg_sl [.int i, .int n, v]).length) Slot.unset).toArray = ls at hl ⊢
  have l0 : ls[0]? = some (.val (.int i)) := hl.2.2 (0, .int i) (by simp [lv_args])
  have l1 : ls[1]? = some (.val (.int n)) := hl.2.2 (1, .int n) (by simp [lv_args, Value.category])
  have d0 := pci_at (i := 0) (x := (0, .iload_n 0, 1)) rfl
  have d1 := pci_at (i := 1) (x := (1, .ifCond .lt 8, 3)) rfl
  have d2 := pci_at (i := 2) (x := (4, .iload_n 0, 1)) rfl
  have d3 := pci_at (i := 3) (x := (5, .iload_n 1, 1)) rfl
  have d4 := pci_at (i := 4) (x := (6, .if_icmp .lt 10, 3)) rfl
  have d5 := pci_at (i := 5) (x := (16, .iload_n 0, 1)) rfl
  have d6 := pci_at (i := 6) (x := (17, .ireturn, 1)) rfl
  refine lv_iload_n hx hb d0 rfl l0 ?_
  refine lv_if_lt (tgt := 9) hx hb d1 (by decide) (fun q => absurd h0 (Int32.not_le.mpr q)) (fun q => ?_)
  refine lv_iload_n hx hb d2 rfl l0 ?_
  refine lv_iload_n hx hb d3 rfl l1 ?_
  refine lv_icmp_lt (tgt := 16) hx hb d4 (by decide) (fun q => ?_) (fun q => absurd h1 q)
  refine lv_iload_n hx hb d5 rfl l0 ?_
  have hq : ∀ t : State, t.heap = s.heap → s.WarmedH t.vm → QA Γ (some (vi i)) h [.int i, .int n, v].toArray s (.returned (some (.int i))) t := fun t hh hW => ⟨⟨rfl, fun v hv => by cases hv; trivial, Wd_of hK hN hT oh hP hD va_S.rf hh hW⟩, va_S.rf.F hh⟩
  exact W.iret hx hb hr hq (fun q hq => by cases hq) d6 hlk
theorem s_Str_checkIndex (Γ : AG) (a0 : Int32) (a1 : Int32) (h : AH) (x : Unit) (hx : f_Str_checkIndex a0 a1 h = some x) : MetA Γ m_Str_checkIndex [vi a0, vi a1] h none h := by
  obtain ⟨⟨h0, h1⟩, -⟩ := gd hx
  refine Ev.met (by decide) rfl (Nat.le_of_ble_eq_true rfl) ?_
  show Ev Γ m_Str_checkIndex 0 [some (vi a0), some (vi a1)] [] h none h
  refine Ev.blk (pc' := 2) (lv' := [some (vi a0), some (vi a1)]) (st' := [vi a1, vi a0]) (h' := h) 0 2 (by decide) tk_Str_checkIndex rfl rfl ⟨trivial, trivial, trivial⟩ ?_
  have K : Ev Γ m_Str_checkIndex 8 [some (vi a0), some (vi a1)] [vi a0] h none h := by
    refine Ev.blk (pc' := 9) (lv' := [some (vi a0), some (vi a1)]) (st' := []) (h' := h) 4 1 (by decide) tk_Str_checkIndex rfl rfl ⟨trivial, trivial⟩ ?_
    exact Ev.vret 5 tk_Str_checkIndex rfl rfl
  intro p e s m args below meth c C hrt hlk oh ol os H locs ls hP hD hS hL
  obtain ⟨hx, hb, hml, hown, hts, hK, hN, hT⟩ := id C
  have d2 := tabAt (μ := m_Str_checkIndex) (i := 2) (x := (2, .getstatic 1053, 3)) tk_Str_checkIndex rfl
  have d5 := tabAt (μ := m_Str_checkIndex) (i := 3) (x := (5, .invokestatic 1059, 3)) tk_Str_checkIndex rfl
  have hcb : CallB (rmA (mv m_Str_checkIndex)) s args "java/lang/String" 1059 y_pci b_pci 3 (some .int) (.code y_pci b_pci 3 (some .int) :: gw) (rmA 0) 0 0 3 := by
    refine callB_of 3 hts ?_ rfl rfl rfl (hts _ w_pci1) (hts _ w_pci4) (by decide +kernel) ⟨by decide, by decide⟩
    intro w hw
    rcases List.mem_cons.mp hw with rfl | hw
    · exact ⟨w_pci2, good_of_word (List.mem_filter.mp w_pci2).2⟩
    · exact ⟨hw, good_of_word (List.mem_filter.mp hw).2⟩
  have go : ∀ v : Value, v.category = 1 → W p (gl Γ) e (rmA (mv m_Str_checkIndex)) s m args below meth c H locs 0 0 (MQ below (QA Γ none h) args s 0 0 (gA Γ)) (F0 m 5 ls [v, .int a1, .int a0]) := by
    intro v hc
    exact call_cont (rest := []) (r1 := some (vi a0)) (h1 := h) (va_runS (As := [.int a0, .int a1, v]) ⟨hx, hb, hml, hown, hts⟩ (s_pci Γ a0 a1 v h hc h0 h1) ⟨hcb, hts _ w_pci3⟩ ⟨Wd_blind _, fun U hU hW => ⟨rfl, Wd_of hK hN hT oh hP hD hS hU hW⟩⟩ rfl rfl (by rw [hL.1]) rfl (by show 2 * 0 + 0 ≤ 8; omega) d5 ⟨Nat.zero_le _, Nat.zero_le _⟩) hS hL ol (fun z hz => by cases hz) (K p e s m args below meth c C hrt hlk)
  rcases hT.2.2.2.2 with hz | ⟨t, hz⟩
  · exact va_gets hx hb hz hS hown (hts _ w_pci5) (fun _ z => z) d2 (go .null rfl)
  · exact va_gets hx hb hz hS hown (hts _ w_pci5) (fun _ z => z) d2 (go (.ref t) rfl)
