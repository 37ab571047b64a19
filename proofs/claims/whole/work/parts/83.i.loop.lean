/-! THE CLAIM OUT OF ONE WALK OF THE LAW'S BODY. Your part is whole_start (and what it stands on); all else here is the same for every law, but numbers. -/
def R_law : String := "HeathForksLaw"
def lw_P (b : Addr) (xs : List Int32) (args : Array Value) (s : State) : Prop := args = #[.ref b] ∧ s.IntsAt b xs ∧ xs.length ≤ 384 ∧ (Jvm.Cond.and given_1 narrow_1).before args s = true
def lw_Q (_ : Array Value) (s : State) (o : Outcome) (t : State) : Prop := o = .returned (some (.int 1)) ∧ Framed s o t [] 600128 7301098
def lw_Z (below : List Frame) (a : Array Value) (s : State) : State → Prop := fun t => ∃ o, t.status = .running ∧ Ended t below o ∧ lw_Q a s o t
/-- the law's own end, with 1 on the stack, nothing written that was there before, its room as the claim has it -/
theorem lw_ret {p : Program} {l : Launch} {e : Env} {s : State} {m : MethodId} {below : List Frame} {meth : Method} {c : Code} {b : Nat} (hx : p.tables.exec = Jvm.exec) (hb : c.code = code) (hr : meth.sig.returnType = ret) (hlocks : meth.locks = false) {pc : Nat} {H : Heap} {ls : Array Slot} (hdg : decode code pc = .ok (.ireturn, 1)) : W p l e room_1 s m #[Value.ref b] below meth c H [] 600128 7301098 (lw_Z below #[Value.ref b] s) (F0 m pc ls [.int 1]) := by
  intro T hT X
  obtain ⟨fs, hret, hrun, hended, hW, hframe⟩ := X.leave (v := some (.int 1)) (hlocks := hlocks) (fun h => by rw [hr] at h; cases h)
  have hmeth' : T.vm.method? m = some meth := X.method'
  refine ⟨T.setFrames fs, ?_, .returned (some (.int 1)), hrun, hended, rfl, ⟨_, rfl⟩, hW, hframe⟩
  jvm_step X.here [X.here.top, hx, hb, hdg, hmeth', hr, ret, narrow_b1]
  (try refine ⟨rfl, ?_⟩); (try refine ⟨rfl, ?_⟩)
  first | (intro acts; rw [hret _ acts rfl rfl rfl]) | rw [hret _ _ rfl rfl rfl]
  exact Steps.refl _
/-- what holds at the law's entry: the machine, the code, the tables' words (any of lw_tbl by 'hts w (by decide +kernel)'), the script of L ints xs at the cell b, what the Statement gives of the start (any of its parts by flat_of_before) -/
def lw_At (p : Program) (s : State) (m : MethodId) (meth : Method) (c : Code) (b L : Nat) (xs : Nat → Int32) : Prop :=
  p.tables.exec = Jvm.exec ∧ c.code = code ∧ meth.sig.returnType = ret ∧ c.maxLocals = 7 ∧ s.vm.findClass R_law = some m.cls ∧ (∀ w ∈ lw_tbl, w.before #[Value.ref b] s = true) ∧ va_X b L xs s s.heap ∧ b < s.heap.size ∧ meth.locks = false ∧ (Jvm.Cond.and given_1 narrow_1).before #[Value.ref b] s = true
section LO
variable {Γ : AG} {p : Program} {e : Env} {R : Room} {s : State} {m : MethodId} {args : Array Value} {below : List Frame} {meth : Method} {c : Code} {Q : State → Prop} {b L i B : Nat} {xs : Nat → Int32} {S : ST} {h h1 h2 : AH} {cells slots pc : Nat} {ls : Array Slot} {st : List Value} {ws : va_W}
def PCS : List Nat := [228, 301, 326, 351, 376, 401, 438, 506, 531, 568, 605, 630, 643, 712, 725, 762, 811, 848, 873, 910, 947, 984, 997, 1034, 1099, 1136, 1161, 1186, 1211, 1236, 1261, 1286, 1299, 1324, 1337, 1350, 1363, 1388, 1413, 1426, 1439, 1452, 1465]
def swI : TI := [(23, .iload 4, 2), (25, .aload_n 0, 1), (26, .arraylength, 1), (27, .bipush 6, 2), (29, .isub, 1), (30, .if_icmp .gt 1466, 3), (33, .aload_n 0, 1), (34, .iload 4, 2), (36, .iaload, 1), (37, .bipush 63, 2), (39, .iand, 1), (1490, .iinc 4 6, 3), (1493, .goto (-1470), 3), (1496, .iconst 1, 1), (1497, .ireturn, 1)]
theorem tk_sw : tabOk code swI := by unfold tabOk; decide +kernel
theorem d_23 : decode code 23 = .ok (.iload 4, 2) := tk_sw (23, .iload 4, 2) (List.mem_of_getElem? (i := 0) rfl)
theorem d_25 : decode code 25 = .ok (.aload_n 0, 1) := tk_sw (25, .aload_n 0, 1) (List.mem_of_getElem? (i := 1) rfl)
theorem d_26 : decode code 26 = .ok (.arraylength, 1) := tk_sw (26, .arraylength, 1) (List.mem_of_getElem? (i := 2) rfl)
theorem d_27 : decode code 27 = .ok (.bipush 6, 2) := tk_sw (27, .bipush 6, 2) (List.mem_of_getElem? (i := 3) rfl)
theorem d_29 : decode code 29 = .ok (.isub, 1) := tk_sw (29, .isub, 1) (List.mem_of_getElem? (i := 4) rfl)
theorem d_30 : decode code 30 = .ok (.if_icmp .gt 1466, 3) := tk_sw (30, .if_icmp .gt 1466, 3) (List.mem_of_getElem? (i := 5) rfl)
theorem d_33 : decode code 33 = .ok (.aload_n 0, 1) := tk_sw (33, .aload_n 0, 1) (List.mem_of_getElem? (i := 6) rfl)
theorem d_34 : decode code 34 = .ok (.iload 4, 2) := tk_sw (34, .iload 4, 2) (List.mem_of_getElem? (i := 7) rfl)
theorem d_36 : decode code 36 = .ok (.iaload, 1) := tk_sw (36, .iaload, 1) (List.mem_of_getElem? (i := 8) rfl)
theorem d_37 : decode code 37 = .ok (.bipush 63, 2) := tk_sw (37, .bipush 63, 2) (List.mem_of_getElem? (i := 9) rfl)
theorem d_39 : decode code 39 = .ok (.iand, 1) := tk_sw (39, .iand, 1) (List.mem_of_getElem? (i := 10) rfl)
theorem d_1490 : decode code 1490 = .ok (.iinc 4 6, 3) := tk_sw (1490, .iinc 4 6, 3) (List.mem_of_getElem? (i := 11) rfl)
theorem d_1493 : decode code 1493 = .ok (.goto (-1470), 3) := tk_sw (1493, .goto (-1470), 3) (List.mem_of_getElem? (i := 12) rfl)
theorem d_1496 : decode code 1496 = .ok (.iconst 1, 1) := tk_sw (1496, .iconst 1, 1) (List.mem_of_getElem? (i := 13) rfl)
theorem d_1497 : decode code 1497 = .ok (.ireturn, 1) := tk_sw (1497, .ireturn, 1) (List.mem_of_getElem? (i := 14) rfl)
def OFS : Array Int := #[188, 261, 286, 311, 336, 361, 398, 466, 491, 528, 565, 590, 603, 672, 685, 722, 771, 808, 833, 870, 907, 944, 957, 994, 1059, 1096, 1121, 1146, 1171, 1196, 1221, 1246, 1259, 1284, 1297, 1310, 1323, 1348, 1373, 1386, 1399, 1412, 1425]
theorem d_40 : decode code 40 = .ok (.tableswitch 1450 0 42 OFS, 188) := by decide +kernel
theorem sw_off : ∀ t : Nat, t < 43 → OFS[t]? = some (((PCS.getD t 0 : Nat) : Int) - 40) := by decide +kernel
theorem a63 (x : Int32) : 0 ≤ (x &&& 63).toInt ∧ (x &&& 63).toInt ≤ 63 := by
  have e : (x &&& 63).toBitVec.toNat ≤ 63 := by
    rw [Int32.toBitVec_and, BitVec.toNat_and]
    exact Nat.le_trans Nat.and_le_right (by decide)
  have e2 : (x &&& 63).toInt = ((x &&& 63).toBitVec.toNat : Int) := by
    show (x &&& 63).toBitVec.toInt = _
    exact BitVec.toInt_eq_toNat_of_lt (by omega)
  omega
theorem ut_all (C : TC Γ p R s m args c b L i B xs S h) (hX : EX Γ s s.heap) (hst : (gl Γ).stackTraces = false) : ∀ t : Nat, t < 43 → TG Γ p e R s m args below meth c Q b i B (PCS.getD t 0) h
  | 0, _ => ut_feed C
  | 1, _ => ut_end C
  | 2, _ => ut_fault C
  | 3, _ => ut_text C
  | 4, _ => ut_rule C
  | 5, _ => ut_cell C
  | 6, _ => ut_fork C hX hst
  | 7, _ => ut_law C
  | 8, _ => ut_twitch C
  | 9, _ => ut_go C
  | 10, _ => ut_sink C
  | 11, _ => ut_season C
  | 12, _ => ut_stroll C
  | 13, _ => ut_undo C
  | 14, _ => ut_book C
  | 15, _ => ut_step C
  | 16, _ => ut_run C
  | 17, _ => ut_perform C
  | 18, _ => ut_brings C
  | 19, _ => ut_cheapest C
  | 20, _ => ut_reach C
  | 21, _ => ut_stuck C
  | 22, _ => ut_trail C
  | 23, _ => ut_hear C
  | 24, _ => ut_fits C
  | 25, _ => ut_sure C
  | 26, _ => ut_ask C
  | 27, _ => ut_wrong C
  | 28, _ => ut_chance C
  | 29, _ => ut_wishers C
  | 30, _ => ut_right C
  | 31, _ => ut_best C
  | 32, _ => ut_nearest C
  | 33, _ => ut_meets C
  | 34, _ => ut_shallow C
  | 35, _ => ut_heap C
  | 36, _ => ut_costs C
  | 37, _ => ut_loses C
  | 38, _ => ut_richest C
  | 39, _ => ut_driest C
  | 40, _ => ut_image C
  | 41, _ => ut_back C
  | 42, _ => ut_count C
  | k + 43, hk => absurd hk (by omega)
theorem cw_tin (C : CC Γ p s m args c code 7 "HeathForksLaw" (gA Γ)) {x : Int32} {t : Nat} (h0 : x.toInt = (t : Int)) (ht : t < 43) (w : CW Γ p e R s m args below meth c (gA Γ) Q cells slots (PCS.getD t 0) ls st ws) : CW Γ p e R s m args below meth c (gA Γ) Q cells slots 40 ls (.int x :: st) ws :=
  fun H locs hP hD hS => lv_tableIn C.1 C.2.1 d_40 (by omega) (by omega) (off := ((PCS.getD t 0 : Nat) : Int) - 40) (tgt := PCS.getD t 0) (by rw [h0, Int.sub_zero, Int.toNat_natCast]; exact sw_off t ht) (by omega) (w H locs hP hD hS)
theorem cw_tout (C : CC Γ p s m args c code 7 "HeathForksLaw" (gA Γ)) {x : Int32} (h0 : 42 < x.toInt) (w : CW Γ p e R s m args below meth c (gA Γ) Q cells slots 1490 ls st ws) : CW Γ p e R s m args below meth c (gA Γ) Q cells slots 40 ls (.int x :: st) ws :=
  fun H locs hP hD hS => lv_tableOut C.1 C.2.1 d_40 (Or.inr h0) (tgt := 1490) (by decide) (w H locs hP hD hS)
theorem la_inc (C : LC Γ p s m args c b L xs) {k : Nat} (hl : LLs Γ b (6 * k) ls) (w : ∀ ls', LLs Γ b (6 * (k + 1)) ls' → CW Γ p e R s m args below meth c (gA Γ) Q cells slots 23 ls' [] ws) : CW Γ p e R s m args below meth c (gA Γ) Q cells slots 1490 ls [] ws := by
  refine cw_inc C.1 (i := 4) (k := 0) (n := 6) (x := ii ((6 * k : Nat) : Int)) (v := ii ((6 * (k + 1) : Nat) : Int)) (lv' := [(4, .int (ii ((6 * (k + 1) : Nat) : Int))), (0, .ref b), (1, .ref (gs Γ 0)), (2, .ref (gs Γ 80)), (3, .ref (gs Γ 105))]) d_1490 hl rfl ?_ (by decide) rfl (fun ls' h' => ?_)
  · show ii _ + ii 6 = ii _
    rw [ii_add]
    congr 1
  · exact cw_go C.1 (tgt := 23) d_1493 (by decide) (w ls' h')
/-- the loop's test -/
theorem la_test (C : LC Γ p s m args c b L xs) (hL : L ≤ 384) {k : Nat} (hk : k ≤ 64) (hl : LLs Γ b (6 * k) ls) (we : CW Γ p e R s m args below meth c (gA Γ) Q cells slots 1496 ls [] ws) (wg : 6 * k + 6 ≤ L → CW Γ p e R s m args below meth c (gA Γ) Q cells slots 33 ls [] ws) : CW Γ p e R s m args below meth c (gA Γ) Q cells slots 23 ls [] ws := by
  refine cw_ild C.1 (i := 4) (lv_at hl 0 rfl) d_23 ?_
  refine cw_an C.1 (k := 0) (i := 0) rfl (lv_at hl 1 rfl) d_25 ?_
  refine cw_slen C d_26 ?_
  refine cw_bi C.1 (n := 6) (v := ii 6) d_27 (by decide) ?_
  refine cw_isub C.1 (v := ii ((L : Int) - 6)) d_29 (by rw [ii_sub]) ?_
  refine cw_gt C.1 (tgt := 1496) d_30 (by decide) (fun _ => we) (fun q => wg ?_)
  rw [ii_lt (by omega) (by omega) (by omega) (by omega)] at q
  omega
theorem la_loop (C : LC Γ p s m #[Value.ref b] c b L xs) (hL : L ≤ 384) (hX : EX Γ s s.heap) (hst : (gl Γ).stackTraces = false) (hgA : ∀ q, gA Γ q → s.heap.size ≤ q) (hr : meth.sig.returnType = ret) (hlk : meth.locks = false) : ∀ (n k : Nat) (S : ST) (h : AH) (ls : Array Slot), L < 6 * (k + n) + 6 → k ≤ 64 → LLs Γ b (6 * k) ls → VS S → CRep S (64 * k) h → RRep S h → okH h → CW Γ p e room_1 s m #[Value.ref b] below meth c (gA Γ) (lw_Z below #[Value.ref b] s) (106 + k) (16085 + 6 * k) 23 ls [] (wsA Γ h) := by
  have fin : ∀ (k : Nat) (h : AH) (ls : Array Slot), k ≤ 64 → CW Γ p e room_1 s m #[Value.ref b] below meth c (gA Γ) (lw_Z below #[Value.ref b] s) (106 + k) (16085 + 6 * k) 1496 ls [] (wsA Γ h) := by
    intro k h ls hk H locs hP hD hS
    refine va_forget (fun q hq => hgA _ (hS.2.2 q hq)) ?_
    refine W.widen (k := 600128) (n := 7301098) (by omega) (by omega) ?_
    refine lv_iconst (v := 1) C.1.1 C.1.2.1 d_1496 (by decide) ?_
    exact lw_ret C.1.1 C.1.2.1 hr hlk d_1497
  have rc : room_1.cells = 600128 := rfl
  have rs : room_1.slots = 7301098 := rfl
  intro n
  induction n with
  | zero =>
    intro k S h ls hn hk hl V Cr Rr oh
    exact la_test C hL hk hl (fin k h ls hk) (fun q => absurd q (by omega))
  | succ n ih =>
    intro k S h ls hn hk hl V Cr Rr oh
    refine la_test C hL hk hl (fin k h ls hk) (fun q => ?_)
    refine cw_an C.1 (k := 0) (i := 0) rfl (lv_at hl 1 rfl) d_33 ?_
    refine cw_ild C.1 (i := 4) (lv_at hl 0 rfl) d_34 ?_
    refine cw_sld C (k := 6 * k) rfl (by omega) hL d_36 ?_
    refine cw_bi C.1 (n := 63) (v := 63) d_37 (by decide) ?_
    refine cw_iand C.1 d_39 ?_
    have next : ∀ (ls' : Array Slot) (h2 : AH) (S' : ST), LLs Γ b (6 * k) ls' → okH h2 → VS S' → CRep S' (64 * k + 64) h2 → RRep S' h2 → CW Γ p e room_1 s m #[Value.ref b] below meth c (gA Γ) (lw_Z below #[Value.ref b] s) (106 + k + 1) (16085 + 6 * k + 6) 1490 ls' [] (wsA Γ h2) := by
      intro ls' h2 S' hl' oh2 v cr rr
      refine la_inc C hl' (fun ls2 hl2 => ?_)
      have e1 : 106 + k + 1 = 106 + (k + 1) := by omega
      have e2 : 16085 + 6 * k + 6 = 16085 + 6 * (k + 1) := by omega
      have e3 : 64 * k + 64 = 64 * (k + 1) := by omega
      rw [e1, e2]
      rw [e3] at cr
      exact ih (k + 1) S' h2 ls2 (by omega) (by omega) hl2 v cr rr oh2
    obtain ⟨z0, z1⟩ := a63 (xs (6 * k))
    by_cases hx : (xs (6 * k) &&& 63).toInt ≤ 42
    · have TCk : TC Γ p room_1 s m #[Value.ref b] c b L (6 * k) (64 * k) xs S h := ⟨C, hL, by omega, ⟨by decide, by decide⟩, V, Cr, Rr, by omega, oh⟩
      exact cw_tin C.1 (t := (xs (6 * k) &&& 63).toInt.toNat) (by omega) (by omega) (ut_all TCk hX hst _ (by omega) ls _ _ hl (by omega) (by omega) next)
    · exact cw_tout C.1 (by omega) (cw_wid (106 + k + 1) (16085 + 6 * k + 6) (by omega) (by omega) (next ls h S hl oh V (Cr.mono (by omega)) Rr))
end LO
