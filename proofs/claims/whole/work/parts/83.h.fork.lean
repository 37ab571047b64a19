/-! the law's turn: fork -/
section FO
variable {Γ : AG} {p : Program} {e : Env} {R : Room} {s : State} {m : MethodId} {args : Array Value} {below : List Frame} {meth : Method} {c : Code} {Q : State → Prop} {b L i B : Nat} {xs : Nat → Int32} {S : ST} {h h1 h2 : AH} {cells slots pc : Nat} {ls : Array Slot} {st : List Value} {ws : va_W}
theorem cw_lald (C : CC Γ p s m args c code 7 "HeathForksLaw" (gA Γ)) (hd : decode code pc = .ok (.laload, 1)) (w : CW Γ p e R s m args below meth c (gA Γ) Q cells slots (pc + 1) ls (.long (h.2.1 105 0) :: st) (wsA Γ h)) : CW Γ p e R s m args below meth c (gA Γ) Q cells slots pc ls (.int (ii 0) :: .ref (gs Γ 105) :: st) (wsA Γ h) := by
  obtain ⟨hx, hb, hml, hown, hts, ⟨hK, hN, hT, _⟩, hA⟩ := C
  intro H locs hP hD hS
  have ha : (wsA Γ h)[105]? = some (gs Γ 105, .inl (gc Γ 23, 1, .inr (.inl (h.2.1 105)))) := by
    rw [wsA_at Γ h (by decide), ceA_long (n := 1) rfl]
  exact va_lald hx hb hK hP 105 3 ha rfl (inb_in rfl) hd (w H locs hP hD hS)
theorem good_LF : GoodIn gw (va_wsS "HeathForksLaw" 46 y_LF w_LF) := by
  intro w hw
  have hg : w ∈ gw := by
    unfold va_wsS at hw
    rcases List.mem_append.mp hw with hw | hw
    · simp only [List.mem_cons, List.not_mem_nil, or_false] at hw
      rcases hw with rfl | rfl | rfl
      · exact gwt6 35 rfl rfl
      · exact gwt6 36 rfl rfl
      · exact gwt1 0 rfl rfl
    · rcases List.mem_cons.mp hw with rfl | hw
      · exact gwt6 37 rfl rfl
      · exact hw
  exact ⟨hg, good_of_word (List.mem_filter.mp hg).2⟩
/-- a call of the law's own fork -/
theorem cw_lf (C : CC Γ p s m args c code 7 "HeathForksLaw" (gA Γ)) (hT : stA Γ s s.heap) (hX : EX Γ s s.heap) {a1 a2 r : Int32} {mc ms : Nat} {rm : Room} (hrc : rm.cells = mc) (hrs : rm.slots = ms) (hrf : rm.frames + 1 ≤ R.frames) (hrl : 8 + (5 + 11) + rm.locals ≤ R.locals) (M : Met (gl Γ) y_LF w_LF rm (va_Pc ([vr 0 0 0, vi a1, vi a2, vr 23 1 105].map (cv Γ)) (WdX Γ h)) (QA Γ (some (vi r)) h1) mc ms (gA Γ)) (oh : okH h) (hsz : ls.size = 7) (hd : decode code pc = .ok (.invokestatic 46, 3)) (hc : cells + mc ≤ R.cells) (hs : slots + ms ≤ R.slots)
    (w : okH h1 → CW Γ p e R s m args below meth c (gA Γ) Q (cells + mc) (slots + ms) (pc + 3) ls [.int r] (wsA Γ h1)) : CW Γ p e R s m args below meth c (gA Γ) Q cells slots pc ls [.ref (gs Γ 105), .int a2, .int a1, .ref (gs Γ 0)] (wsA Γ h) := by
  obtain ⟨hx, hb, hml, hown, hts, ⟨hK, hN, hT', _⟩, hA⟩ := id C
  intro H locs hP hD hS
  have run := vx_runSW (p := p) (e := e) (R := R) (s := s) (m := m) (args := args) (below := below) (meth := meth) (c := c) (H := H) (locs := locs) (cells := cells) (slots := slots) (cc := code) (nL := 7) (Ts := gw) (own := "HeathForksLaw") (index := 46) (bytes := method_3_code) (maxL := 5) (ret := some .int) (hh := hh_LF) (n := 4) (As := [vr 0 0 0, vi a1, vi a2, vr 23 1 105].map (cv Γ)) (rest := []) (g := F0 m pc ls [.ref (gs Γ 105), .int a2, .int a1, .ref (gs Γ 0)]) ⟨hx, hb, hml, hown, hts⟩ M (vx_cwSW 4 hts good_LF rfl hrc hrs ⟨by decide, by decide, by decide +kernel⟩ ⟨hrf, hrl⟩) ⟨WdX_blind _, fun U hU hW => ⟨rfl, Wd_of hK hN hT oh hP hD hS hU hW, EX.of hX hS hU hW⟩⟩ rfl rfl hsz rfl (Nat.le_of_ble_eq_true rfl) hd ⟨hc, hs⟩
  intro T hTT X
  obtain ⟨vv, st₀, t, T', L, h0, X', hL', e1, e2, ⟨⟨hv, hok, hWd⟩, hz, hk⟩, stp⟩ := run T hTT X
  have hv2 : vv = some (.int r) := by cases hv; rfl
  subst hv2
  rw [h0] at hz hk
  obtain ⟨t2, a1, b1⟩ := w hWd.2.2.2.2.2 T'.heap (locs ++ L) (by rw [e1]; exact hWd.1) hWd.2.1
    ⟨Nat.le_trans hS.1 (by rw [e1]; exact hz), fun q h1 h2 => by rw [e1, hk q (Nat.lt_of_lt_of_le h1 hS.1) h2]; exact hS.2.1 q h1 h2, fun q hq => by
      rcases List.mem_append.mp hq with h | h
      · exact hS.2.2 q h
      · exact hL' q h⟩ T' rfl X'
  exact ⟨t2, stp t2 a1, b1⟩
/-- both sides of fork -/
theorem fk_both (V : VS S) (Cr : CRep S B h) (Rr : RRep S h) (a1 a2 : Int32) : (∃ x, f_HF_fork a1 a2 h = some x ∧ ∀ g, RRep S g → f_R_fork a1 a2 g = some (x, wI g 80 0 (ii 0))) ∨ (thF a1 a2 h ∧ ∀ g, RRep S g → f_R_fork a1 a2 g = some (ii 0, wI g 80 0 (ii 1))) := by
  have K := fun g (Rg : RRep S g) => k_fork V Cr Rg (vI_lo a1).1 (vI_lo a1).2 (vI_lo a2).1 (vI_lo a2).2
  simp only [← vI_ii] at K
  rcases K h Rr with ⟨nt, x, e1, -⟩ | ⟨t, -⟩
  · refine Or.inl ⟨x, e1, fun g Rg => ?_⟩
    rcases K g Rg with ⟨_, y, f1, f2⟩ | ⟨t, _⟩
    · rw [e1] at f1; cases f1; exact f2
    · exact absurd t nt
  · refine Or.inr ⟨t, fun g Rg => ?_⟩
    rcases K g Rg with ⟨nt, _⟩ | ⟨_, f⟩
    · exact absurd t nt
    · exact f
def tailI : TI := [(455, .istore 5, 2), (457, .aload_n 2, 1), (470, .invokevirtual 51, 3), (473, .istore 6, 2), (475, .aload_n 2, 1), (476, .invokevirtual 52, 3), (479, .iload 5, 2), (481, .if_icmp .eq 5, 3), (486, .iload 5, 2), (488, .ifCond .ne 15, 3), (491, .aload_n 3, 1), (492, .iconst 0, 1), (493, .laload, 1), (494, .iload 6, 2), (496, .i2l, 1), (497, .lcmp, 1), (498, .ifCond .eq 5, 3), (503, .goto 987, 3)]
theorem tk_tail : tabOk code tailI := by unfold tabOk; decide +kernel
theorem tk_ta2 : tabOk code (argsI 458 2) := by unfold tabOk; decide +kernel
theorem fk_tail (C : LC Γ p s m args c b L xs) (hl : LLs Γ b i ls) (hL : L ≤ 384) (hi : i + 5 < L) (hRf : 200 ≤ R.frames) (hRl : 8000 ≤ R.locals) {r y : Int32} (M2 : MetA Γ m_R_fork [vr 12 0 80, vi (xs (i + 1)), vi (xs (i + 2))] h1 (some (vi y)) h2) (oh1 : okH h1) (hth : h2.1 80 0 = r) (hlv : r = 0 → h2.2.1 105 0 = y.toInt64) (hc : cells ≤ R.cells) (hs : slots ≤ R.slots)
    (w : ∀ ls', LLs Γ b i ls' → okH h2 → CW Γ p e R s m args below meth c (gA Γ) Q cells slots 1490 ls' [] (wsA Γ h2)) : CW Γ p e R s m args below meth c (gA Γ) Q cells slots 455 ls [.int r] (wsA Γ h1) := by
  have d0 := tk_tail _ (List.mem_of_getElem? (i := 0) rfl)
  have d1 := tk_tail _ (List.mem_of_getElem? (i := 1) rfl)
  have d2 := tk_tail _ (List.mem_of_getElem? (i := 2) rfl)
  have d3 := tk_tail _ (List.mem_of_getElem? (i := 3) rfl)
  have d4 := tk_tail _ (List.mem_of_getElem? (i := 4) rfl)
  have d5 := tk_tail _ (List.mem_of_getElem? (i := 5) rfl)
  have d6 := tk_tail _ (List.mem_of_getElem? (i := 6) rfl)
  have d7 := tk_tail _ (List.mem_of_getElem? (i := 7) rfl)
  have d8 := tk_tail _ (List.mem_of_getElem? (i := 8) rfl)
  have d9 := tk_tail _ (List.mem_of_getElem? (i := 9) rfl)
  have d10 := tk_tail _ (List.mem_of_getElem? (i := 10) rfl)
  have d11 := tk_tail _ (List.mem_of_getElem? (i := 11) rfl)
  have d12 := tk_tail _ (List.mem_of_getElem? (i := 12) rfl)
  have d13 := tk_tail _ (List.mem_of_getElem? (i := 13) rfl)
  have d14 := tk_tail _ (List.mem_of_getElem? (i := 14) rfl)
  have d15 := tk_tail _ (List.mem_of_getElem? (i := 15) rfl)
  have d16 := tk_tail _ (List.mem_of_getElem? (i := 16) rfl)
  have d17 := tk_tail _ (List.mem_of_getElem? (i := 17) rfl)
  have s1 : (([] : List Value).map fun v => v.category).sum ≤ 8 := by decide
  refine cw_sti C.1 (i := 5) (lv' := [(5, .int r), (4, .int (ii i)), (0, .ref b), (1, .ref (gs Γ 0)), (2, .ref (gs Γ 80)), (3, .ref (gs Γ 105))]) d0 hl (by decide) rfl (fun ls5 hl5 => ?_)
  have hl5' : LLs Γ b i ls5 := lv_sub hl5 [1, 2, 3, 4, 5] rfl
  refine cw_an C.1 (k := 2) (i := 2) rfl (lv_at hl5 4 rfl) d1 ?_
  refine la_args C hl5' hL 2 (by omega) tk_ta2 ?_
  rw [← avI_rev (Γ := Γ) 2]
  refine cw_call (ci := 12) (o := 80) (st := []) (r1 := some (vi y)) C.1 C.2.1 bb_R_fork vv_R_fork (gwt8 40 rfl rfl) (Nat.le_trans (Nat.le_of_ble_eq_true rfl) hRf) (Nat.le_trans (Nat.le_of_ble_eq_true rfl) hRl) (avI_len 2) rfl oh1 ov80 (avI_ok 2) s1 hl5.1 d2 hc hs M2 (fun oh2 => ?_)
  show CW Γ p e R s m args below meth c (gA Γ) Q cells slots 473 ls5 [.int y] (wsA Γ h2)
  refine cw_sti C.1 (i := 6) (lv' := [(6, .int y), (5, .int r), (4, .int (ii i)), (0, .ref b), (1, .ref (gs Γ 0)), (2, .ref (gs Γ 80)), (3, .ref (gs Γ 105))]) d3 hl5 (by decide) rfl (fun ls6 hl6 => ?_)
  have hl6' : LLs Γ b i ls6 := lv_sub hl6 [2, 3, 4, 5, 6] rfl
  refine cw_an C.1 (k := 2) (i := 2) rfl (lv_at hl6 5 rfl) d4 ?_
  refine cw_call (ci := 12) (o := 80) (st := []) (av := []) (r1 := some (vi (p_R_thrown h2))) C.1 C.2.1 bb_R_thrown vv_R_thrown (gwt7 45 rfl rfl) (Nat.le_trans (Nat.le_of_ble_eq_true rfl) hRf) (Nat.le_trans (Nat.le_of_ble_eq_true rfl) hRl) rfl rfl oh2 ov80 (fun z hz => by cases hz) s1 hl6.1 d5 hc hs (s_R_thrown Γ h2) (fun _ => ?_)
  have ethr : p_R_thrown h2 = r := hth
  rw [ethr]
  show CW Γ p e R s m args below meth c (gA Γ) Q cells slots 479 ls6 [.int r] (wsA Γ h2)
  refine cw_ild C.1 (i := 5) (lv_at hl6 1 rfl) d6 ?_
  refine cw_eq C.1 (tgt := 486) d7 (by decide) ?_
  refine cw_ild C.1 (i := 5) (lv_at hl6 1 rfl) d8 ?_
  have fin : CW Γ p e R s m args below meth c (gA Γ) Q cells slots 503 ls6 [] (wsA Γ h2) := cw_go C.1 (tgt := 1490) d17 (by decide) (w ls6 hl6' oh2)
  refine cw_ifn C.1 (tgt := 503) d9 (by decide) (fun _ => fin) (fun r0 => ?_)
  refine cw_an C.1 (k := 3) (i := 3) rfl (lv_at hl6 6 rfl) d10 ?_
  refine cw_ic C.1 (n := 0) (v := ii 0) d11 rfl ?_
  refine cw_lald C.1 d12 ?_
  rw [hlv r0]
  refine cw_ild C.1 (i := 6) (lv_at hl6 0 rfl) d13 ?_
  refine cw_i2l C.1 d14 ?_
  refine cw_lcmp C.1 d15 ?_
  refine cw_ife C.1 (tgt := 503) d16 (by decide) (fun _ => fin) (fun q => absurd ((lg_cmp_eq _ _).mpr rfl) q)
end FO
