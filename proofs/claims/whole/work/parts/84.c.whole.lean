/-! the law, from its entry; the claim (the rows behind whole_start are the kit's skeleton's, with 'no stack traces' carried along) -/
theorem flags_off {l : Launch} (h : l.flags = flags0) : l.stackTraces = false := by
  unfold Launch.stackTraces
  rw [h]
  decide +kernel
def enI : TI := [(0, .new 8, 3), (3, .dup, 1), (4, .invokespecial 15, 3), (7, .astore_n 1, 1), (8, .new 16, 3), (11, .dup, 1), (12, .invokespecial 18, 3), (15, .astore_n 2, 1), (16, .iconst 1, 1), (17, .newarray .long, 2), (19, .astore_n 3, 1), (20, .iconst 0, 1), (21, .istore 4, 2)]
theorem tk_en : tabOk code enI := by unfold tabOk; decide +kernel
set_option maxHeartbeats 4000000 in
theorem whole_start {p : Program} {e : Env} {s : State} {m : MethodId} {below : List Frame} {meth : Method} {c : Code} (l : Launch) (hst : l.stackTraces = false) {b L : Nat} {xs : Nat → Int32} (hL : L ≤ 384) (C0 : lw_At p s m meth c b L xs) : W p l e room_1 s m #[Value.ref b] below meth c s.heap [] 0 0 (lw_Z below #[Value.ref b] s) (entryFrame m ([Value.ref b] : List Value).toArray 7) := by
  obtain ⟨hx, hb, hr, hml, hown, hts, hX, hbl, hlocks, hgv⟩ := id C0
  obtain ⟨Γ, hl0, hgA, tb, hT, hE⟩ := given_all l hts hgv
  subst hl0
  have hAll : ∀ q, s.heap.size ≤ q → gA Γ q := fun q h => by rw [hgA]; exact h
  have hAL : ∀ q, gA Γ q → s.heap.size ≤ q := fun q h => by rw [hgA] at h; exact h
  have C : CC Γ p s m #[Value.ref b] c code 7 "HeathForksLaw" (gA Γ) := ⟨hx, hb, hml, hown, fun w hw => hts w (gwL hw), tb, hAll⟩
  have hl := lv_entry ([.ref b]) (n := 7) (Nat.le_of_ble_eq_true rfl)
  rw [lg_entry_eq]
  generalize (lg_sl ([.ref b]) ++ List.replicate (7 - (lg_sl ([.ref b])).length) Slot.unset).toArray = ls at hl ⊢
  have hl : lv_has ls 7 [(0, .ref b)] := hl
  have hP0 : va_P (gD Γ) am_cl [] s.heap := fun k q h => by simp at h
  have hD0 : va_D (gA Γ) [] := ⟨fun i j p q h => by simp at h, fun k q h => by simp at h⟩
  have d0 := tk_en _ (List.mem_of_getElem? (i := 0) rfl)
  have d1 := tk_en _ (List.mem_of_getElem? (i := 1) rfl)
  have d2 := tk_en _ (List.mem_of_getElem? (i := 2) rfl)
  have d3 := tk_en _ (List.mem_of_getElem? (i := 3) rfl)
  have d4 := tk_en _ (List.mem_of_getElem? (i := 4) rfl)
  have d5 := tk_en _ (List.mem_of_getElem? (i := 5) rfl)
  have d6 := tk_en _ (List.mem_of_getElem? (i := 6) rfl)
  have d7 := tk_en _ (List.mem_of_getElem? (i := 7) rfl)
  have d8 := tk_en _ (List.mem_of_getElem? (i := 8) rfl)
  have d9 := tk_en _ (List.mem_of_getElem? (i := 9) rfl)
  have d10 := tk_en _ (List.mem_of_getElem? (i := 10) rfl)
  have d11 := tk_en _ (List.mem_of_getElem? (i := 11) rfl)
  have d12 := tk_en _ (List.mem_of_getElem? (i := 12) rfl)
  suffices hCW : CW Γ p e room_1 s m #[Value.ref b] below meth c (gA Γ) (lw_Z below #[Value.ref b] s) 0 0 0 ls [] [] from hCW s.heap [] hP0 hD0 va_S.rf
  refine cw_make C (ik := 8) (ic := 15) (m_HF_i Γ) rfl zf_HF ct_HF (gwt1 26 rfl rfl) (Or.inr (gwt1 28 rfl rfl)) (by decide) (by decide) (by decide) (by decide) (by decide) hl.1 d0 d1 d2 (fun a u => ?_)
  refine cw_sta C (i := 1) (k := 1) (lv' := [(1, .ref a), (0, .ref b)]) rfl d3 hl (by decide) rfl (fun ls hl => ?_)
  refine cw_make C (ik := 16) (ic := 18) (m_R_i Γ) rfl zf_R ct_R (gwt6 108 rfl rfl) (Or.inr (gwt6 110 rfl rfl)) (by decide) (by decide) (by decide) (by decide) (by decide) hl.1 d4 d5 d6 (fun mm v => ?_)
  refine cw_sta C (i := 2) (k := 2) (lv' := [(2, .ref mm), (1, .ref a), (0, .ref b)]) rfl d7 hl (by decide) rfl (fun ls hl => ?_)
  refine cw_ic C (n := 1) (v := 1) d8 (by decide) ?_
  refine cw_newa C (atype := .long) (ty := .long) 3 (k := 23) (n := 1) (N := 1) (a0 := (1, .inr (.inl fun _ => 0))) rfl (gwt9 47 rfl rfl) rfl (fun _ => rfl) (by decide) (by decide) (by decide) (by decide) (by decide) d9 (fun oo => ?_)
  refine cw_sta C (i := 3) (k := 3) (lv' := [(3, .ref oo), (2, .ref mm), (1, .ref a), (0, .ref b)]) rfl d10 hl (by decide) rfl (fun ls hl => ?_)
  refine cw_ic C (n := 0) (v := ii 0) d11 rfl ?_
  refine cw_sti C (i := 4) (lv' := [(4, .int (ii 0)), (3, .ref oo), (2, .ref mm), (1, .ref a), (0, .ref b)]) d12 hl (by decide) rfl (fun ls hl => ?_)
  have C1 : CC (GI Γ a u mm v oo) p s m #[Value.ref b] c code 7 "HeathForksLaw" (gA (GI Γ a u mm v oo)) := C
  have hT1 : stA (GI Γ a u mm v oo) s s.heap := hT
  have hE1 : EX (GI Γ a u mm v oo) s s.heap := hE
  have hLL : LLs (GI Γ a u mm v oo) b (6 * 0) ls := lv_sub hl [0, 4, 3, 2, 1] rfl
  have K := la_loop (Γ := GI Γ a u mm v oo) (e := e) (below := below) (meth := meth) (xs := xs) (L := L) ⟨C1, hT1, hX, hbl, fun h => Nat.not_le.mpr hbl (hAL b h)⟩ hL hE1 hst hAL hr hlocks 64 0 SI hI ls (by omega) (by omega) hLL VS_I CRep_I RRep_I okH_I
  intro H locs hP hD hS
  exact K H locs (wd_P Γ a u mm v oo hP) (wd_D Γ a u mm v oo hD) hS
set_option maxHeartbeats 4000000 in
theorem lw_walk (l : Launch) (hst : l.stackTraces = false) (b : Addr) (xs : List Int32) : MetFree l x (headSpec (Jvm.Cond.code x code maxLocals ret :: tables_1) room_1) (lw_P b xs) (fun _ _ _ _ _ => True) lw_Q := by
  refine MetFree.of_bodyS (code := code) (maxLocals := maxLocals) (ret := ret) (by decide) ?_ ?_
  · intro args s m h hn
    obtain ⟨meth, c, h1, h2, h3, h4, h5, h6, -, -⟩ := Cond.code_spec hn (atoms_spec (ws := Jvm.Cond.code x code maxLocals ret :: tables_1) h _ List.mem_cons_self)
    exact ⟨meth, c, h1, h2, h3, h4, h5, h6⟩
  · intro p e s m args below meth c s₁ B hml0 hP _
    obtain ⟨rfl, hx, hbd, hgv⟩ := hP
    obtain ⟨scr, harrAt, hlist, hof, hsmall⟩ := hx
    obtain ⟨hcb, hkn, -, -⟩ := State.arrayAt?_spec harrAt
    have hown : s.vm.findClass R_law = some m.cls := findClass_of_methodNamed B.named
    have hts0 : ∀ c ∈ (Jvm.Cond.code x code maxLocals ret :: tables_1), c.before #[Value.ref b] s = true := atoms_spec (ws := Jvm.Cond.code x code maxLocals ret :: tables_1) B.pre
    have hts : ∀ w ∈ lw_tbl, w.before #[Value.ref b] s = true := k2_hts_sels lw_privs (fun w hw => hts0 w (List.mem_cons_of_mem _ hw)) lw_privs_ok
    have hml : c.maxLocals = 7 := B.maxLocals_eq (hts0 _ List.mem_cons_self)
    have X₀ : Stand p l e room_1 s m #[Value.ref b] below meth c s₁ [] 0 0 := Stand.of_body B
    have hh0 : s₁.heap = s.heap := by rw [B.state]; rfl
    have hsz : scr.slots.size = xs.length := by rw [← Array.length_toList, hlist, List.length_map]
    have hval : ∀ j : Nat, j < xs.length → scr.slots[j]? = some (.int (xs.getD j 0)) := fun j hj => by
      rw [← Array.getElem?_toList, hlist]
      simp [hj]
    have hbl : b < s.heap.size := (Array.getElem?_eq_some_iff.mp hcb).1
    have hX : va_X b xs.length (fun j => xs.getD j 0) s s.heap := ⟨scr, hcb, hof, hkn, hsz, hval⟩
    have K : W p l e room_1 s m #[Value.ref b] below meth c s₁.heap [] 0 0 (lw_Z below #[Value.ref b] s) (entryFrame m ([Value.ref b] : List Value).toArray 7) := by
      rw [hh0]
      exact whole_start l hst hbd ⟨B.exec, B.bytes, B.returns, hml, hown, hts, hX, hbl, B.notSynchronized, hgv⟩
    obtain ⟨t, a1, o, b1, b2, b3⟩ := K s₁ rfl X₀
    exact ⟨t, o, a1, b1, b2, b3⟩
theorem lw_pre_spec {args : Array Value} {s : State} (h : (Jvm.Cond.and given_1 narrow_1).before args s = true) (hr : rest_1_c.before args s = true) : ∃ (b : Addr) (xs : List Int32), lw_P b xs args s := by
  have hs := flat_of_before _ h
  have hq := flat_of_before _ hr
  have hc : (Cond.count 1).before args s = true := hs _ (by decide +kernel)
  have harr : (Cond.arrayOf (.arg 0) .int).before args s = true := hs _ (by decide +kernel)
  have hle : (Cond.le (.length (.arg 0)) (.int 384)).before args s = true := hs _ (by decide +kernel)
  have hlen : (Cond.isInt (.length (.arg 0))).before args s = true := hq _ (by decide +kernel)
  have hall : (Cond.all (.arg 0) (.isInt (.elem (.arg 0) (.index 0)))).before args s = true := hq _ (by decide +kernel)
  obtain ⟨b, xs, hb, hx⟩ := State.ints_of_pre rfl harr hlen hall
  have hsm : xs.length < 2 ^ 31 := hx.choose_spec.2.2.2
  have hev : (Term.length (.arg 0)).eval args s none [] s = some (.int xs.length.toInt32) := hx.length_eval hb
  have hv := Cond.le_ints hev (show (Term.int 384).eval args s none [] s = some (.int 384) from rfl)
  have hd : xs.length.toInt32 ≤ 384 := by
    simpa [Cond.before, Cond.holds, hv] using hle
  have hN : xs.length ≤ 384 := (Int32.ofNat_le_ofNat hsm (by decide)).mp (show Int32.ofNat xs.length ≤ Int32.ofNat 384 from hd)
  exact ⟨b, xs, Cond.one_arg hc (show args[0]? = some (.ref b) from hb), hx, hN, h⟩
theorem lw_comes (l : Launch) (hst : l.stackTraces = false) : Comes l x (Jvm.Cond.code x code maxLocals ret :: tables_1) room_1 (fun tb e args s => Calls_1 tb e args s ∧ rest_1 tb e args s ∧ Pre_1 tb e args s)
    (fun _ _ args s o t => lw_Q args s o t) := by
  intro p e ha hc hk s m args below hf hfit hheap happ hpre
  obtain ⟨b, xs, hP⟩ := lw_pre_spec hpre.2.2 hpre.2.1
  obtain ⟨k, o, h1, h2, h3, hQ⟩ := lw_walk l hst b xs p e ha hc hk s m args below hf ((Spec.applies_iff_loose hf).mp happ).1 hP trivial
  exact ⟨k, o, h1, h2, h3, hQ⟩
theorem lw_frame {s t : State} {o : Outcome} {args : Array Value} (h : Framed s o t [] 600128 7301098) :
    Framed s o t (fieldLocs frame_1_writes args s ++ arrayLocs frame_1_arrays args s ++ staticLocs frame_1_statics s) 600128 7301098 := h
theorem lw_limb (L : Cond) (hL : ∀ (args : Array Value) (s t : State), L.after args s (.returned (some (.int 1))) t = true) :
    ArmFor flags0 classFile x code maxLocals ret World_1 tables_1 room_1 Calls_1 rest_1 Pre_1
      (fun tb e a s o t => postC L tb e a s o t ∧ Framed s o t (fieldLocs frame_1_writes a s ++ arrayLocs frame_1_arrays a s ++ staticLocs frame_1_statics s) 600128 7301098) := by
  intro l hfl _ _ p e ha hc hk s m args below hf hfit hheap happ hpre
  obtain ⟨k, o, h1, h2, h3, rfl, hF⟩ := lw_comes l (flags_off hfl) p e ha hc hk s m args below hf hfit hheap happ hpre
  exact ⟨k, _, h1, h2, h3, hL args s _, lw_frame hF⟩
theorem i_vc : Claimed_1_1 ∧ Claimed_1_2 := ⟨lw_limb limb_1_1 (fun args s t => by simp [limb_1_1, Cond.after, Cond.holds, Cond.value]), lw_limb limb_1_2 (fun args s t => Cond.after_iff.mpr (by
  first | (rw [show limb_1_2 = Cond.eq .result (.int 1) from rfl, Cond.eq_ints (x := 1) (y := 1) rfl rfl]; simp; done) | (simp [limb_1_2, Cond.value, Term.eval]; done)))⟩
