/-! the law's turns: stroll, hear, fork -/
section TH
variable {Γ : AG} {p : Program} {e : Env} {R : Room} {s : State} {m : MethodId} {args : Array Value} {below : List Frame} {meth : Method} {c : Code} {Q : State → Prop} {b L i B : Nat} {xs : Nat → Int32} {S : ST} {h h1 : AH} {cells slots pc : Nat} {ls : Array Slot} {st : List Value} {ws : va_W}
def longI (pc : Nat) : TI := argI pc 2 ++ ([(pc + 6, .i2l, 1), (pc + 7, .bipush 32, 2), (pc + 9, .lshl, 1)] ++ (argI (pc + 10) 3 ++ [(pc + 16, .i2l, 1), (pc + 17, .ldc2_w 76, 3), (pc + 20, .land, 1), (pc + 21, .lor, 1)]))
def longV (x y : Int32) : Int64 := (x.toInt64 <<< ((32 : Int32).toInt64 &&& 63)) ||| (y.toInt64 &&& 4294967295)
theorem la_long (C : LC Γ p s m args c b L xs) (hl : LLs Γ b i ls) (hL : L ≤ 384) (hi : i + 3 < L) (T : tabOk code (longI pc)) (w : CW Γ p e R s m args below meth c (gA Γ) Q cells slots (pc + 22) ls (.long (longV (xs (i + 2)) (xs (i + 3))) :: st) ws) : CW Γ p e R s m args below meth c (gA Γ) Q cells slots pc ls st ws := by
  obtain ⟨T0, T1⟩ := tab_app T
  obtain ⟨T1, T2⟩ := tab_app T1
  obtain ⟨T2, T3⟩ := tab_app T2
  have d0 := T1 _ (List.mem_of_getElem? (i := 0) rfl)
  have d1 := T1 _ (List.mem_of_getElem? (i := 1) rfl)
  have d2 := T1 _ (List.mem_of_getElem? (i := 2) rfl)
  have d3 := T3 _ (List.mem_of_getElem? (i := 0) rfl)
  have d4 := T3 _ (List.mem_of_getElem? (i := 1) rfl)
  have d5 := T3 _ (List.mem_of_getElem? (i := 2) rfl)
  have d6 := T3 _ (List.mem_of_getElem? (i := 3) rfl)
  refine la_arg C hl 2 (by omega) hL T0 ?_
  refine cw_i2l C.1 d0 ?_
  refine cw_bi C.1 (n := 32) (v := 32) d1 (by decide) ?_
  refine cw_lshl C.1 d2 ?_
  refine la_arg C hl 3 (by omega) hL T2 ?_
  refine cw_i2l C.1 d3 ?_
  refine cw_ldl C.1 (k := 76) (v := 4294967295) (gwt9 46 rfl rfl) d4 ?_
  refine cw_land C.1 d5 ?_
  exact cw_lor C.1 d6 w
def boolI (pc : Nat) : TI := [(pc, .ifCond .eq 7, 3), (pc + 3, .iconst 1, 1), (pc + 4, .goto 4, 3), (pc + 7, .iconst 0, 1)]
theorem la_bool (C : LC Γ p s m args c b L xs) {x : Int32} (T : tabOk code (boolI pc)) (w : CW Γ p e R s m args below meth c (gA Γ) Q cells slots (pc + 8) ls (.int (bI (!decide (x = 0))) :: st) ws) : CW Γ p e R s m args below meth c (gA Γ) Q cells slots pc ls (.int x :: st) ws := by
  have d0 := T _ (List.mem_of_getElem? (i := 0) rfl)
  have d1 := T _ (List.mem_of_getElem? (i := 1) rfl)
  have d2 := T _ (List.mem_of_getElem? (i := 2) rfl)
  have d3 := T _ (List.mem_of_getElem? (i := 3) rfl)
  refine cw_ife C.1 (tgt := pc + 7) d0 (by push_cast; omega) (fun h0 => ?_) (fun h0 => ?_)
  · refine cw_ic C.1 (n := 0) (v := ii 0) d3 rfl ?_
    have e : bI (!decide (x = 0)) = ii 0 := by simp [bI, h0]
    rw [e] at w
    exact w
  · refine cw_ic C.1 (n := 1) (v := ii 1) d1 rfl ?_
    refine cw_go C.1 (tgt := pc + 8) d2 (by push_cast; omega) ?_
    have e : bI (!decide (x = 0)) = ii 1 := by simp [bI, h0]
    rw [e] at w
    exact w
/-- two calls with one list of arguments, pushed by 'push' -/
theorem la_two (C : LC Γ p s m args c b L xs) (hl : LLs Γ b i ls) {n k i1 i2 tgt : Nat} {off : Int} {μ1 μ2 : AM} {x : Int32} {h2 : AH} {av : List AV} (hRf : 200 ≤ R.frames) (hRl : 8000 ≤ R.locals) (hc : cells ≤ R.cells) (hs : slots ≤ R.slots)
    (push1 : ∀ st, CW Γ p e R s m args below meth c (gA Γ) Q cells slots (pc + 1 + k) ls ((av.map (cv Γ)).reverse ++ st) (wsA Γ h) → CW Γ p e R s m args below meth c (gA Γ) Q cells slots (pc + 1) ls st (wsA Γ h)) (push2 : ∀ st, CW Γ p e R s m args below meth c (gA Γ) Q cells slots (pc + 1 + k + 3 + 1 + k) ls ((av.map (cv Γ)).reverse ++ st) (wsA Γ h1) → CW Γ p e R s m args below meth c (gA Γ) Q cells slots (pc + 1 + k + 3 + 1) ls st (wsA Γ h1))
    (T : tabOk code [(pc, .aload_n 1, 1), (pc + 1 + k, .invokevirtual i1, 3), (pc + 1 + k + 3, .aload_n 2, 1), (pc + 1 + k + 3 + 1 + k, .invokevirtual i2, 3), (pc + 1 + k + 3 + 1 + k + 3, .if_icmp .eq off, 3)]) (ht : ((pc + 1 + k + 3 + 1 + k + 3 : Nat) : Int) + off = (tgt : Int)) (hn : av.length = n) (ha : ∀ z ∈ av, okV z) (b1 : cB μ1 n) (v1 : cV μ1) (l1 : Cond.methodLink "HeathForksLaw" i1 (my μ1) ∈ gw) (c1 : (am_cl[0]?).map (fun q => q.1) = some (my μ1).cls) (e1 : mv μ1 ≤ 100) (b2 : cB μ2 n) (v2 : cV μ2) (l2 : Cond.methodLink "HeathForksLaw" i2 (my μ2) ∈ gw) (c2 : (am_cl[12]?).map (fun q => q.1) = some (my μ2).cls) (e2 : mv μ2 ≤ 100) (oh : okH h)
    (M1 : MetA Γ μ1 (vr 0 0 0 :: av) h (some (vi x)) h1) (M2 : MetA Γ μ2 (vr 12 0 80 :: av) h1 (some (vi x)) h2) (w : okH h2 → CW Γ p e R s m args below meth c (gA Γ) Q cells slots tgt ls [] (wsA Γ h2)) : CW Γ p e R s m args below meth c (gA Γ) Q cells slots pc ls [] (wsA Γ h) := by
  have d0 := T _ (List.mem_of_getElem? (i := 0) rfl)
  have d1 := T _ (List.mem_of_getElem? (i := 1) rfl)
  have d2 := T _ (List.mem_of_getElem? (i := 2) rfl)
  have d3 := T _ (List.mem_of_getElem? (i := 3) rfl)
  have d4 := T _ (List.mem_of_getElem? (i := 4) rfl)
  have q1 := b1.2.2.2.2
  have q2 := b2.2.2.2.2
  have f1 : mv μ1 + 1 ≤ R.frames := by omega
  have f2 : mv μ2 + 1 ≤ R.frames := by omega
  have g1 : 8 + (ml μ1 + 11) + 64 * mv μ1 ≤ R.locals := by omega
  have g2 : 8 + (ml μ2 + 11) + 64 * mv μ2 ≤ R.locals := by omega
  have s1 : (([] : List Value).map fun v => v.category).sum ≤ 8 := by decide
  have s2 : (([Value.int x] : List Value).map fun v => v.category).sum ≤ 8 := Nat.le_of_ble_eq_true rfl
  refine cw_an C.1 (k := 1) (i := 1) rfl (lv_at hl 2 rfl) d0 ?_
  refine push1 _ ?_
  refine cw_call (ci := 0) (o := 0) (st := []) (r1 := some (vi x)) C.1 C.2.1 b1 v1 l1 f1 g1 hn c1 oh ov0 ha s1 hl.1 d1 hc hs M1 (fun oh1 => ?_)
  show CW Γ p e R s m args below meth c (gA Γ) Q cells slots (pc + 1 + k + 3) ls [.int x] (wsA Γ h1)
  refine cw_an C.1 (k := 2) (i := 2) rfl (lv_at hl 3 rfl) d2 ?_
  refine push2 _ ?_
  refine cw_call (ci := 12) (o := 80) (st := [.int x]) (r1 := some (vi x)) C.1 C.2.1 b2 v2 l2 f2 g2 hn c2 oh1 ov80 ha s2 hl.1 d3 hc hs M2 (fun oh2 => ?_)
  show CW Γ p e R s m args below meth c (gA Γ) Q cells slots (pc + 1 + k + 3 + 1 + k + 3) ls [.int x, .int x] (wsA Γ h2)
  exact cw_eq C.1 d4 ht (w oh2)
theorem ut_stroll (C : TC Γ p R s m args c b L i B xs S h) : TG Γ p e R s m args below meth c Q b i B 643 h := by
  obtain ⟨C, hL, hi, ⟨hRf, hRl⟩, V, Cr, Rr, hB, oh⟩ := C
  obtain ⟨x, h1, h2, S', M1, M2, v, cr, rr⟩ := t_stroll (Γ := Γ) V Cr Rr hB (xs (i + 1)) (longV (xs (i + 2)) (xs (i + 3)))
  intro ls cells slots hl hc hs w
  refine la_two C hl (n := 2) (k := 28) (i1 := 78) (i2 := 82) (off := 783) (tgt := 1490) hRf hRl (by omega) (by omega) (fun st w => ?_) (fun st w => ?_) (by unfold tabOk; decide +kernel) (by decide) rfl (fun z hz => ?_) bb_HF_stroll vv_HF_stroll (gwt4 213 rfl rfl) rfl (Nat.le_of_ble_eq_true rfl) bb_R_stroll vv_R_stroll (gwt8 105 rfl rfl) rfl (Nat.le_of_ble_eq_true rfl) oh M1 M2 (fun oh2 => cw_wid (cells + 1) (slots + 6) (by omega) (by omega) (w ls h2 S' hl oh2 v cr rr))
  · refine la_arg C hl 1 (by omega) hL (by unfold tabOk; decide +kernel) ?_
    exact la_long C hl hL (by omega) (by unfold tabOk; decide +kernel) w
  · refine la_arg C hl 1 (by omega) hL (by unfold tabOk; decide +kernel) ?_
    exact la_long C hl hL (by omega) (by unfold tabOk; decide +kernel) w
  · rcases List.mem_cons.mp hz with rfl | hz
    · trivial
    · rw [List.mem_singleton.mp hz]; trivial
theorem ut_hear (C : TC Γ p R s m args c b L i B xs S h) : TG Γ p e R s m args below meth c Q b i B 1034 h := by
  obtain ⟨C, hL, hi, ⟨hRf, hRl⟩, V, Cr, Rr, hB, oh⟩ := C
  obtain ⟨x, h1, h2, S', M1, M2, v, cr, rr⟩ := t_hear (Γ := Γ) V Cr Rr hB (xs (i + 1)) (xs (i + 2)) (!decide (xs (i + 3) = 0))
  intro ls cells slots hl hc hs w
  refine la_two C hl (n := 3) (k := 26) (i1 := 124) (i2 := 128) (off := 396) (tgt := 1490) hRf hRl (by omega) (by omega) (fun st w => ?_) (fun st w => ?_) (by unfold tabOk; decide +kernel) (by decide) rfl (fun z hz => ?_) bb_HF_hear vv_HF_hear (gwt5 127 rfl rfl) rfl (Nat.le_of_ble_eq_true rfl) bb_R_hear vv_R_hear (gwt8 176 rfl rfl) rfl (Nat.le_of_ble_eq_true rfl) oh M1 M2 (fun oh2 => cw_wid (cells + 1) (slots + 6) (by omega) (by omega) (w ls h2 S' hl oh2 v cr rr))
  · refine la_args C hl hL 3 (by omega) (by unfold tabOk; decide +kernel) ?_
    exact la_bool C (by unfold tabOk; decide +kernel) w
  · refine la_args C hl hL 3 (by omega) (by unfold tabOk; decide +kernel) ?_
    exact la_bool C (by unfold tabOk; decide +kernel) w
  · rcases List.mem_cons.mp hz with rfl | hz
    · trivial
    · rcases List.mem_cons.mp hz with rfl | hz
      · trivial
      · rw [List.mem_singleton.mp hz]; trivial
end TH
