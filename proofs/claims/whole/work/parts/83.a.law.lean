/-! the law's rows -/
section LA
variable {Γ : AG} {p : Program} {e : Env} {R : Room} {s : State} {m : MethodId} {args : Array Value} {below : List Frame} {meth : Method} {c : Code} {cc : ByteArray} {nL : Nat} {own : String} {A : Nat → Prop} {Q : State → Prop} {cells slots pc : Nat} {ls : Array Slot} {st : List Value} {ws : va_W} {h h1 h2 : AH}
theorem cw_an (C : CC Γ p s m args c cc nL own A) {k : Fin 4} {i a : Nat} (hi : (k : Nat) = i) (hl : ls[i]? = some (.val (.ref a))) (hd : decode cc pc = .ok (.aload_n k, 1)) (w : CW Γ p e R s m args below meth c A Q cells slots (pc + 1) ls (.ref a :: st) ws) : CW Γ p e R s m args below meth c A Q cells slots pc ls st ws :=
  fun H locs hP hD hS => lv_aload_n C.1 C.2.1 hd hi hl (w H locs hP hD hS)
theorem cw_ild (C : CC Γ p s m args c cc nL own A) {i : Nat} {x : Int32} (hl : ls[i]? = some (.val (.int x))) (hd : decode cc pc = .ok (.iload i, 2)) (w : CW Γ p e R s m args below meth c A Q cells slots (pc + 2) ls (.int x :: st) ws) : CW Γ p e R s m args below meth c A Q cells slots pc ls st ws :=
  fun H locs hP hD hS => lv_iload C.1 C.2.1 hd hl (w H locs hP hD hS)
theorem cw_iadd (C : CC Γ p s m args c cc nL own A) {x y v : Int32} (hd : decode cc pc = .ok (.iadd, 1)) (hv : x + y = v) (w : CW Γ p e R s m args below meth c A Q cells slots (pc + 1) ls (.int v :: st) ws) : CW Γ p e R s m args below meth c A Q cells slots pc ls (.int y :: .int x :: st) ws := by
  subst hv
  exact fun H locs hP hD hS => lv_iadd C.1 C.2.1 hd (w H locs hP hD hS)
theorem cw_isub (C : CC Γ p s m args c cc nL own A) {x y v : Int32} (hd : decode cc pc = .ok (.isub, 1)) (hv : x - y = v) (w : CW Γ p e R s m args below meth c A Q cells slots (pc + 1) ls (.int v :: st) ws) : CW Γ p e R s m args below meth c A Q cells slots pc ls (.int y :: .int x :: st) ws := by
  subst hv
  exact fun H locs hP hD hS => lv_isub C.1 C.2.1 hd (w H locs hP hD hS)
theorem cw_iand (C : CC Γ p s m args c cc nL own A) {x y : Int32} (hd : decode cc pc = .ok (.iand, 1)) (w : CW Γ p e R s m args below meth c A Q cells slots (pc + 1) ls (.int (x &&& y) :: st) ws) : CW Γ p e R s m args below meth c A Q cells slots pc ls (.int y :: .int x :: st) ws :=
  fun H locs hP hD hS => lv_iand C.1 C.2.1 hd (w H locs hP hD hS)
theorem cw_i2l (C : CC Γ p s m args c cc nL own A) {x : Int32} (hd : decode cc pc = .ok (.i2l, 1)) (w : CW Γ p e R s m args below meth c A Q cells slots (pc + 1) ls (.long x.toInt64 :: st) ws) : CW Γ p e R s m args below meth c A Q cells slots pc ls (.int x :: st) ws :=
  fun H locs hP hD hS => lv_i2l C.1 C.2.1 hd rfl (w H locs hP hD hS)
theorem cw_lshl (C : CC Γ p s m args c cc nL own A) {x : Int64} {y : Int32} (hd : decode cc pc = .ok (.lshl, 1)) (w : CW Γ p e R s m args below meth c A Q cells slots (pc + 1) ls (.long (x <<< (y.toInt64 &&& 63)) :: st) ws) : CW Γ p e R s m args below meth c A Q cells slots pc ls (.int y :: .long x :: st) ws :=
  fun H locs hP hD hS => lv_lshl C.1 C.2.1 hd rfl (w H locs hP hD hS)
theorem cw_land (C : CC Γ p s m args c cc nL own A) {x y : Int64} (hd : decode cc pc = .ok (.land, 1)) (w : CW Γ p e R s m args below meth c A Q cells slots (pc + 1) ls (.long (x &&& y) :: st) ws) : CW Γ p e R s m args below meth c A Q cells slots pc ls (.long y :: .long x :: st) ws :=
  fun H locs hP hD hS => lv_land C.1 C.2.1 hd (w H locs hP hD hS)
theorem cw_lor (C : CC Γ p s m args c cc nL own A) {x y : Int64} (hd : decode cc pc = .ok (.lor, 1)) (w : CW Γ p e R s m args below meth c A Q cells slots (pc + 1) ls (.long (x ||| y) :: st) ws) : CW Γ p e R s m args below meth c A Q cells slots pc ls (.long y :: .long x :: st) ws :=
  fun H locs hP hD hS => lv_lor C.1 C.2.1 hd (w H locs hP hD hS)
theorem cw_ldl (C : CC Γ p s m args c cc nL own A) {k : Nat} {v : Int64} (hw : Cond.constantLong own k v ∈ gw) (hd : decode cc pc = .ok (.ldc2_w k, 3)) (w : CW Γ p e R s m args below meth c A Q cells slots (pc + 3) ls (.long v :: st) ws) : CW Γ p e R s m args below meth c A Q cells slots pc ls st ws :=
  fun H locs hP hD hS => lv_ldc2 C.1 C.2.1 C.2.2.2.1 (C.2.2.2.2.1 _ hw) hd (w H locs hP hD hS)
theorem cw_lcmp (C : CC Γ p s m args c cc nL own A) {x y : Int64} (hd : decode cc pc = .ok (.lcmp, 1)) (w : CW Γ p e R s m args below meth c A Q cells slots (pc + 1) ls (.int (lg_cmp x y) :: st) ws) : CW Γ p e R s m args below meth c A Q cells slots pc ls (.long y :: .long x :: st) ws :=
  fun H locs hP hD hS => W.lcmp C.1 C.2.1 hd (w H locs hP hD hS)
theorem cw_sti (C : CC Γ p s m args c cc nL own A) {x : Int32} {i : Nat} {lv lv' : List (Nat × Value)} (hd : decode cc pc = .ok (.istore i, 2)) (hl0 : lv_has ls nL lv) (hn : i < nL) (hl : (i, Value.int x) :: lv.filter (fun q => !(q.1 == i) && !(q.1 + 1 == i && q.2.category == 2)) = lv') (w : ∀ ls', lv_has ls' nL lv' → CW Γ p e R s m args below meth c A Q cells slots (pc + 2) ls' st ws) : CW Γ p e R s m args below meth c A Q cells slots pc ls (.int x :: st) ws :=
  fun H locs hP hD hS => lv_istore C.1 C.2.1 hd hl0 hn hl (fun ls' h' => w ls' h' H locs hP hD hS)
theorem cw_sta (C : CC Γ p s m args c cc nL own A) {x : Nat} {i : Nat} {k : Fin 4} {lv lv' : List (Nat × Value)} (hi : (k : Nat) = i) (hd : decode cc pc = .ok (.astore_n k, 1)) (hl0 : lv_has ls nL lv) (hn : i < nL) (hl : (i, Value.ref x) :: lv.filter (fun q => !(q.1 == i) && !(q.1 + 1 == i && q.2.category == 2)) = lv') (w : ∀ ls', lv_has ls' nL lv' → CW Γ p e R s m args below meth c A Q cells slots (pc + 1) ls' st ws) : CW Γ p e R s m args below meth c A Q cells slots pc ls (.ref x :: st) ws :=
  fun H locs hP hD hS => lv_astore_n C.1 C.2.1 hd hi hl0 hn hl (fun ls' h' => w ls' h' H locs hP hD hS)
theorem cw_eq (C : CC Γ p s m args c cc nL own A) {x : Int32} {off : Int} {tgt : Nat} (hd : decode cc pc = .ok (.if_icmp .eq off, 3)) (ht : (pc : Int) + off = (tgt : Int)) (w : CW Γ p e R s m args below meth c A Q cells slots tgt ls st ws) : CW Γ p e R s m args below meth c A Q cells slots pc ls (.int x :: .int x :: st) ws :=
  fun H locs hP hD hS => lv_icmp_eq C.1 C.2.1 hd ht (fun _ => w H locs hP hD hS) (fun h => absurd rfl h)
theorem cw_gt (C : CC Γ p s m args c cc nL own A) {x y : Int32} {off : Int} {tgt : Nat} (hd : decode cc pc = .ok (.if_icmp .gt off, 3)) (ht : (pc : Int) + off = (tgt : Int)) (kt : y < x → CW Γ p e R s m args below meth c A Q cells slots tgt ls st ws) (kf : ¬ y < x → CW Γ p e R s m args below meth c A Q cells slots (pc + 3) ls st ws) : CW Γ p e R s m args below meth c A Q cells slots pc ls (.int y :: .int x :: st) ws :=
  fun H locs hP hD hS => lv_icmp_gt C.1 C.2.1 hd ht (fun q => kt q H locs hP hD hS) (fun q => kf q H locs hP hD hS)
theorem cw_ife (C : CC Γ p s m args c cc nL own A) {x : Int32} {off : Int} {tgt : Nat} (hd : decode cc pc = .ok (.ifCond .eq off, 3)) (ht : (pc : Int) + off = (tgt : Int)) (kt : x = 0 → CW Γ p e R s m args below meth c A Q cells slots tgt ls st ws) (kf : ¬ x = 0 → CW Γ p e R s m args below meth c A Q cells slots (pc + 3) ls st ws) : CW Γ p e R s m args below meth c A Q cells slots pc ls (.int x :: st) ws :=
  fun H locs hP hD hS => lv_if_eq C.1 C.2.1 hd ht (fun q => kt q H locs hP hD hS) (fun q => kf q H locs hP hD hS)
theorem cw_ifn (C : CC Γ p s m args c cc nL own A) {x : Int32} {off : Int} {tgt : Nat} (hd : decode cc pc = .ok (.ifCond .ne off, 3)) (ht : (pc : Int) + off = (tgt : Int)) (kt : ¬ x = 0 → CW Γ p e R s m args below meth c A Q cells slots tgt ls st ws) (kf : x = 0 → CW Γ p e R s m args below meth c A Q cells slots (pc + 3) ls st ws) : CW Γ p e R s m args below meth c A Q cells slots pc ls (.int x :: st) ws :=
  fun H locs hP hD hS => lv_if_ne C.1 C.2.1 hd ht (fun q => kt q H locs hP hD hS) (fun q => kf q H locs hP hD hS)
theorem cw_wid (k n : Nat) (h1 : cells ≤ k) (h2 : slots ≤ n) (w : CW Γ p e R s m args below meth c A Q k n pc ls st ws) : CW Γ p e R s m args below meth c A Q cells slots pc ls st ws :=
  fun H locs hP hD hS => W.widen h1 h2 (w H locs hP hD hS)
/-- a call of a method of the abstract machine -/
theorem cw_call (C : CC Γ p s m args c cc nL own (gA Γ)) (hT : stA Γ s s.heap) {n idx ci o : Nat} {ν : AM} {av : List AV} {r1 : Option AV} (b : cB ν n) (v : cV ν) (hl : Cond.methodLink own idx (my ν) ∈ gw) (hlev : mv ν + 1 ≤ R.frames) (hlo : 8 + (ml ν + 11) + 64 * mv ν ≤ R.locals) (hn : av.length = n) (hci : (am_cl[ci]?).map (fun q => q.1) = some (my ν).cls) (oh : okH h) (ov : okV (vr ci 0 o)) (oa : ∀ z ∈ av, okV z) (hcat : (st.map fun v => v.category).sum ≤ 8) (hsz : ls.size = nL) (hd : decode cc pc = .ok (.invokevirtual idx, 3)) (hc : cells ≤ R.cells) (hs : slots ≤ R.slots)
    (hM : MetA Γ ν (vr ci 0 o :: av) h r1 h1) (w : okH h1 → CW Γ p e R s m args below meth c (gA Γ) Q cells slots (pc + 3) ls ((r1.map (cv Γ)).toList ++ st) (wsA Γ h1)) : CW Γ p e R s m args below meth c (gA Γ) Q cells slots pc ls ((av.map (cv Γ)).reverse ++ .ref (gs Γ o) :: st) (wsA Γ h) := by
  obtain ⟨hx, hb, hml, hown, hts, ⟨hK, hN, hT', _⟩, hA⟩ := id C
  intro H locs hP hD hS
  have hci13 : ci < 13 := by
    rcases Nat.lt_or_ge ci 13 with hlt | hge
    · exact hlt
    · rw [cl_no ci hge] at hci; cases hci
  have ha : cv Γ (vr ci 0 o) = .ref (gs Γ o) := cv_ref (by omega)
  have hMe := hM (fun z hz => by rcases List.mem_cons.mp hz with rfl | hz; exact ov; exact oa z hz)
  rw [List.map_cons, ha] at hMe
  have run := va_runV (p := p) (e := e) (R := R) (s := s) (m := m) (args := args) (below := below) (meth := meth) (c := c) (H := H) (locs := locs) (cells := cells) (slots := slots) (cc := cc) (nL := nL) (Ts := gw) (own := own) (C := (my ν).cls) (index := idx) (bytes := mb ν) (maxL := ml ν) (ret := mr ν) (n := n) (As := av.map (cv Γ)) (rest := st) (b := gs Γ o) (g := F0 m pc ls ((av.map (cv Γ)).reverse ++ .ref (gs Γ o) :: st)) ⟨hx, hb, hml, hown, hts⟩ hMe ⟨callB_of n hts (good_gw b) rfl rfl rfl (hts _ b.1) (hts _ hl) ⟨b.2.2.1.1, b.2.2.1.2, b.2.2.2.1⟩ ⟨hlev, hlo⟩, hts _ v.1, hts _ v.2⟩ ⟨Wd_blind _, recv_obj hK hP ov hci, fun U hU hW => ⟨rfl, Wd_of hK hN hT oh hP hD hS hU hW⟩⟩ rfl (by simpa using hn) hsz rfl (by show 2 * 0 + _ ≤ 8; omega) hd ⟨hc, hs⟩
  intro T hTT X
  obtain ⟨vv, st₀, t, T', L, h0, X', hL', e1, e2, ⟨⟨hv, hok, hWd⟩, hz, hk⟩, stp⟩ := run T hTT X
  have hv2 : vv = r1.map (cv Γ) := by cases hv; rfl
  subst hv2
  rw [h0] at hz hk
  obtain ⟨t2, a1, b1⟩ := w hWd.2.2.2.2.2 T'.heap (locs ++ L) (by rw [e1]; exact hWd.1) hWd.2.1
    ⟨Nat.le_trans hS.1 (by rw [e1]; exact hz), fun q h1 h2 => by rw [e1, hk q (Nat.lt_of_lt_of_le h1 hS.1) h2]; exact hS.2.1 q h1 h2, fun q hq => by
      rcases List.mem_append.mp hq with h | h
      · exact hS.2.2 q h
      · exact hL' q h⟩ T' rfl X'
  exact ⟨t2, stp t2 a1, b1⟩
/-- what the law's body knows -/
def LC (Γ : AG) (p : Program) (s : State) (m : MethodId) (args : Array Value) (c : Code) (b L : Nat) (xs : Nat → Int32) : Prop := CC Γ p s m args c code 7 "HeathForksLaw" (gA Γ) ∧ stA Γ s s.heap ∧ va_X b L xs s s.heap ∧ b < s.heap.size ∧ ¬ gA Γ b
/-- the law's locals -/
def LLs (Γ : AG) (b i : Nat) (ls : Array Slot) : Prop := lv_has ls 7 [(4, .int (ii i)), (0, .ref b), (1, .ref (gs Γ 0)), (2, .ref (gs Γ 80)), (3, .ref (gs Γ 105))]
variable {b L i : Nat} {xs : Nat → Int32}
theorem cw_sld (C : LC Γ p s m args c b L xs) {k : Nat} {x : Int32} (hx : x = ii k) (hk : k < L) (hL : L ≤ 384) (hd : decode code pc = .ok (.iaload, 1)) (w : CW Γ p e R s m args below meth c (gA Γ) Q cells slots (pc + 1) ls (.int (xs k) :: st) ws) : CW Γ p e R s m args below meth c (gA Γ) Q cells slots pc ls (.int x :: .ref b :: st) ws := by
  subst hx
  obtain ⟨C, hT, hX, hbl, hbA⟩ := C
  have hn : (ii (k : Int)).toNatClampNeg = k := by rw [ii_nat (by omega) (by omega)]; omega
  intro H locs hP hD hS
  refine va_sld C.1 C.2.1 hX hbl hbA hS (inb_in ((ii_inb (by omega) (by omega)).mpr (by omega))) hd ?_
  rw [hn]
  exact w H locs hP hD hS
theorem cw_slen (C : LC Γ p s m args c b L xs) (hd : decode code pc = .ok (.arraylength, 1)) (w : CW Γ p e R s m args below meth c (gA Γ) Q cells slots (pc + 1) ls (.int (ii L) :: st) ws) : CW Γ p e R s m args below meth c (gA Γ) Q cells slots pc ls (.ref b :: st) ws := by
  obtain ⟨C, hT, hX, hbl, hbA⟩ := C
  intro H locs hP hD hS
  exact va_slen C.1 C.2.1 hX hbl hbA hS hd (w H locs hP hD hS)
abbrev TI : Type := List (Nat × Instr × Nat)
def argI (pc k : Nat) : TI := [(pc, .aload_n 0, 1), (pc + 1, .iload 4, 2), (pc + 3, .iconst (k : Int), 1), (pc + 4, .iadd, 1), (pc + 5, .iaload, 1)]
theorem la_arg (C : LC Γ p s m args c b L xs) (hl : LLs Γ b i ls) (k : Nat) (hik : i + k < L) (hL : L ≤ 384) (T : tabOk code (argI pc k)) (w : CW Γ p e R s m args below meth c (gA Γ) Q cells slots (pc + 6) ls (.int (xs (i + k)) :: st) ws) : CW Γ p e R s m args below meth c (gA Γ) Q cells slots pc ls st ws := by
  have d0 := T _ (List.mem_of_getElem? (i := 0) rfl)
  have d1 := T _ (List.mem_of_getElem? (i := 1) rfl)
  have d2 := T _ (List.mem_of_getElem? (i := 2) rfl)
  have d3 := T _ (List.mem_of_getElem? (i := 3) rfl)
  have d4 := T _ (List.mem_of_getElem? (i := 4) rfl)
  refine cw_an C.1 (k := 0) (i := 0) rfl (lv_at hl 1 rfl) d0 ?_
  refine cw_ild C.1 (i := 4) (lv_at hl 0 rfl) d1 ?_
  refine cw_ic C.1 (n := (k : Int)) (v := ii k) d2 rfl ?_
  refine cw_iadd C.1 (v := ii ((i + k : Nat) : Int)) d3 (by rw [ii_add]; congr 1) ?_
  exact cw_sld C rfl hik hL d4 w
def argsI (pc : Nat) : Nat → TI
  | 0 => []
  | n + 1 => argsI pc n ++ argI (pc + 6 * n) (n + 1)
def vsI (xs : Nat → Int32) (i : Nat) : Nat → List Value
  | 0 => []
  | n + 1 => .int (xs (i + (n + 1))) :: vsI xs i n
def avI (xs : Nat → Int32) (i : Nat) : Nat → List AV
  | 0 => []
  | n + 1 => avI xs i n ++ [vi (xs (i + (n + 1)))]
theorem avI_rev (n : Nat) : ((avI xs i n).map (cv Γ)).reverse = vsI xs i n := by
  induction n with
  | zero => rfl
  | succ n ih =>
    simp only [avI, List.map_append, List.reverse_append, ih]
    rfl
theorem avI_len (n : Nat) : (avI xs i n).length = n := by
  induction n with
  | zero => rfl
  | succ n ih => simp [avI, ih]
theorem avI_ok (n : Nat) : ∀ z ∈ avI xs i n, okV z := by
  induction n with
  | zero => intro z hz; cases hz
  | succ n ih =>
    intro z hz
    rcases List.mem_append.mp hz with h | h
    · exact ih z h
    · rw [List.mem_singleton.mp h]; trivial
theorem tab_app {bb : ByteArray} {l1 l2 : TI} (T : tabOk bb (l1 ++ l2)) : tabOk bb l1 ∧ tabOk bb l2 := ⟨fun x hx => T x (List.mem_append_left _ hx), fun x hx => T x (List.mem_append_right _ hx)⟩
theorem la_args (C : LC Γ p s m args c b L xs) (hl : LLs Γ b i ls) (hL : L ≤ 384) : ∀ n : Nat, i + n < L → tabOk code (argsI pc n) → CW Γ p e R s m args below meth c (gA Γ) Q cells slots (pc + 6 * n) ls (vsI xs i n ++ st) ws → CW Γ p e R s m args below meth c (gA Γ) Q cells slots pc ls st ws := by
  intro n
  induction n with
  | zero => intro _ _ w; exact w
  | succ n ih =>
    intro hn T w
    obtain ⟨T1, T2⟩ := tab_app T
    refine ih (by omega) T1 ?_
    exact la_arg C hl (n + 1) (by omega) hL T2 w
def caseI (pc n i1 i2 : Nat) (off : Int) : TI := [(pc, .aload_n 1, 1)] ++ (argsI (pc + 1) n ++ ([(pc + 1 + 6 * n, .invokevirtual i1, 3), (pc + 1 + 6 * n + 3, .aload_n 2, 1)] ++ (argsI (pc + 1 + 6 * n + 3 + 1) n ++ [(pc + 1 + 6 * n + 3 + 1 + 6 * n, .invokevirtual i2, 3), (pc + 1 + 6 * n + 3 + 1 + 6 * n + 3, .if_icmp .eq off, 3)])))
theorem ov0 : okV (vr 0 0 0) := Or.inr (Or.inr (Or.inr ⟨by decide, rfl⟩))
theorem ov80 : okV (vr 12 0 80) := Or.inr (Or.inr (Or.inr ⟨by decide, rfl⟩))
/-- a call of the class, the same of the reference, the answers compared -/
theorem la_case (C : LC Γ p s m args c b L xs) (hl : LLs Γ b i ls) (hL : L ≤ 384) {n i1 i2 tgt : Nat} {off : Int} {μ1 μ2 : AM} {x : Int32} (hRf : 200 ≤ R.frames) (hRl : 8000 ≤ R.locals) (hc : cells ≤ R.cells) (hs : slots ≤ R.slots) (hin : i + n < L) (T : tabOk code (caseI pc n i1 i2 off)) (ht : ((pc + 1 + 6 * n + 3 + 1 + 6 * n + 3 : Nat) : Int) + off = (tgt : Int)) (b1 : cB μ1 n) (v1 : cV μ1) (l1 : Cond.methodLink "HeathForksLaw" i1 (my μ1) ∈ gw) (c1 : (am_cl[0]?).map (fun q => q.1) = some (my μ1).cls) (e1 : mv μ1 ≤ 100) (b2 : cB μ2 n) (v2 : cV μ2) (l2 : Cond.methodLink "HeathForksLaw" i2 (my μ2) ∈ gw) (c2 : (am_cl[12]?).map (fun q => q.1) = some (my μ2).cls) (e2 : mv μ2 ≤ 100) (oh : okH h)
    (M1 : MetA Γ μ1 (vr 0 0 0 :: avI xs i n) h (some (vi x)) h1) (M2 : MetA Γ μ2 (vr 12 0 80 :: avI xs i n) h1 (some (vi x)) h2) (w : okH h2 → CW Γ p e R s m args below meth c (gA Γ) Q cells slots tgt ls [] (wsA Γ h2)) : CW Γ p e R s m args below meth c (gA Γ) Q cells slots pc ls [] (wsA Γ h) := by
  obtain ⟨T0, T1⟩ := tab_app T
  obtain ⟨T1, T2⟩ := tab_app T1
  obtain ⟨T2, T3⟩ := tab_app T2
  obtain ⟨T3, T4⟩ := tab_app T3
  have d0 := T0 _ (List.mem_of_getElem? (i := 0) rfl)
  have d1 := T2 _ (List.mem_of_getElem? (i := 0) rfl)
  have d2 := T2 _ (List.mem_of_getElem? (i := 1) rfl)
  have d3 := T4 _ (List.mem_of_getElem? (i := 0) rfl)
  have d4 := T4 _ (List.mem_of_getElem? (i := 1) rfl)
  have q1 := b1.2.2.2.2
  have q2 := b2.2.2.2.2
  have f1 : mv μ1 + 1 ≤ R.frames := by omega
  have f2 : mv μ2 + 1 ≤ R.frames := by omega
  have g1 : 8 + (ml μ1 + 11) + 64 * mv μ1 ≤ R.locals := by omega
  have g2 : 8 + (ml μ2 + 11) + 64 * mv μ2 ≤ R.locals := by omega
  have s1 : (([] : List Value).map fun v => v.category).sum ≤ 8 := by decide
  have s2 : (([Value.int x] : List Value).map fun v => v.category).sum ≤ 8 := Nat.le_of_ble_eq_true rfl
  refine cw_an C.1 (k := 1) (i := 1) rfl (lv_at hl 2 rfl) d0 ?_
  refine la_args C hl hL n hin T1 ?_
  rw [← avI_rev (Γ := Γ) n]
  refine cw_call (ci := 0) (o := 0) (st := []) (r1 := some (vi x)) C.1 C.2.1 b1 v1 l1 f1 g1 (avI_len n) c1 oh ov0 (avI_ok n) s1 hl.1 d1 hc hs M1 (fun oh1 => ?_)
  show CW Γ p e R s m args below meth c (gA Γ) Q cells slots (pc + 1 + 6 * n + 3) ls [.int x] (wsA Γ h1)
  refine cw_an C.1 (k := 2) (i := 2) rfl (lv_at hl 3 rfl) d2 ?_
  refine la_args C hl hL n hin T3 ?_
  rw [← avI_rev (Γ := Γ) n]
  refine cw_call (ci := 12) (o := 80) (st := [.int x]) (r1 := some (vi x)) C.1 C.2.1 b2 v2 l2 f2 g2 (avI_len n) c2 oh1 ov80 (avI_ok n) s2 hl.1 d3 hc hs M2 (fun oh2 => ?_)
  show CW Γ p e R s m args below meth c (gA Γ) Q cells slots (pc + 1 + 6 * n + 3 + 1 + 6 * n + 3) ls [.int x, .int x] (wsA Γ h2)
  exact cw_eq C.1 d4 ht (w oh2)
end LA
