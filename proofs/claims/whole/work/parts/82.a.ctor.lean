/-! constructors: the judgement and its rows -/
section CT
variable {Γ : AG} {p : Program} {e : Env} {R : Room} {s : State} {m : MethodId} {args : Array Value} {below : List Frame} {meth : Method} {c : Code} {cc : ByteArray} {nL : Nat} {own : String} {A : Nat → Prop} {Q : State → Prop} {cells slots pc : Nat} {ls : Array Slot} {st : List Value} {ws : va_W}
def CW (Γ : AG) (p : Program) (e : Env) (R : Room) (s : State) (m : MethodId) (args : Array Value) (below : List Frame) (meth : Method) (c : Code) (A : Nat → Prop) (Q : State → Prop) (cells slots pc : Nat) (ls : Array Slot) (st : List Value) (ws : va_W) : Prop :=
  ∀ (H : Heap) (locs : List Loc), va_P (gD Γ) am_cl ws H → va_D A ws → va_S A s.heap H locs → W p (gl Γ) e R s m args below meth c H locs cells slots Q (F0 m pc ls st)
/-- what the tables say, and keep saying -/
def tbU (Γ : AG) (U : State) : Prop := va_K (gD Γ) am_cl (tyA Γ) U ∧ (∀ w ∈ nw, va_Nw w U) ∧ strOk Γ U ∧ va_AO "HeathForks$Law" U ∧ va_AO "HeathForks$Walks" U
theorem tbU.warm {U : State} (hW : s.WarmedH U.vm) (h : tbU Γ s) : tbU Γ U := ⟨h.1.moved hW.alike, nw_warm hW h.2.1, fun own r h1 h2 => vk_R.warm hW (h.2.2.1 own r h1 h2), va_AO.moved hW.alike h.2.2.2.1, va_AO.moved hW.alike h.2.2.2.2⟩
theorem tbU.same {U : State} (e : U.vm = s.vm) (h : tbU Γ s) : tbU Γ U := by
  have ha : s.vm.Alike U.vm := by rw [e]; exact Vm.Alike.refl _
  exact ⟨h.1.moved ha, nw_same e.symm h.2.1, fun own r h1 h2 => vk_R.same e (h.2.2.1 own r h1 h2), va_AO.moved ha h.2.2.2.1, va_AO.moved ha h.2.2.2.2⟩
def CC (Γ : AG) (p : Program) (s : State) (m : MethodId) (args : Array Value) (c : Code) (cc : ByteArray) (nL : Nat) (own : String) (A : Nat → Prop) : Prop :=
  p.tables.exec = Jvm.exec ∧ c.code = cc ∧ c.maxLocals = nL ∧ s.vm.findClass own = some m.cls ∧ (∀ w ∈ gw, w.before args s = true) ∧ tbU Γ s ∧ ∀ q, s.heap.size ≤ q → A q
theorem cw_a0 (C : CC Γ p s m args c cc nL own A) {a : Nat} (hl : ls[0]? = some (.val (.ref a))) (hd : decode cc pc = .ok (.aload_n 0, 1)) (w : CW Γ p e R s m args below meth c A Q cells slots (pc + 1) ls (.ref a :: st) ws) : CW Γ p e R s m args below meth c A Q cells slots pc ls st ws :=
  fun H locs hP hD hS => lv_aload_n C.1 C.2.1 hd rfl hl (w H locs hP hD hS)
theorem cw_ic (C : CC Γ p s m args c cc nL own A) {n : Int} {v : Int32} (hd : decode cc pc = .ok (.iconst n, 1)) (hv : Int32.ofInt n = v) (w : CW Γ p e R s m args below meth c A Q cells slots (pc + 1) ls (.int v :: st) ws) : CW Γ p e R s m args below meth c A Q cells slots pc ls st ws :=
  fun H locs hP hD hS => lv_iconst C.1 C.2.1 hd hv (w H locs hP hD hS)
theorem cw_bi (C : CC Γ p s m args c cc nL own A) {n : Int} {v : Int32} (hd : decode cc pc = .ok (.bipush n, 2)) (hv : (Int8.ofInt n).toInt32 = v) (w : CW Γ p e R s m args below meth c A Q cells slots (pc + 2) ls (.int v :: st) ws) : CW Γ p e R s m args below meth c A Q cells slots pc ls st ws :=
  fun H locs hP hD hS => lv_bipush C.1 C.2.1 hd hv (w H locs hP hD hS)
theorem cw_si (C : CC Γ p s m args c cc nL own A) {n : Int} {v : Int32} (hd : decode cc pc = .ok (.sipush n, 3)) (hv : (Int16.ofInt n).toInt32 = v) (w : CW Γ p e R s m args below meth c A Q cells slots (pc + 3) ls (.int v :: st) ws) : CW Γ p e R s m args below meth c A Q cells slots pc ls st ws :=
  fun H locs hP hD hS => lv_sipush C.1 C.2.1 hd hv (w H locs hP hD hS)
theorem cw_obj (C : CC Γ p s m args c cc nL own A) {idx a : Nat} (hw : Cond.methodLink own idx objectInit ∈ gw) (hi : Cond.instanceMethod objectInit ∈ gw) (hc : Cond.code objectInit ⟨#[0xb1]⟩ 1 none ∈ gw) (hsz : ls.size = nL) (hd : decode cc pc = .ok (.invokespecial idx, 3)) (hf : 1 ≤ R.frames) (hlo : (st.map fun v => v.category).sum + 12 ≤ R.locals) (w : CW Γ p e R s m args below meth c A Q cells slots (pc + 3) ls st ws) : CW Γ p e R s m args below meth c A Q cells slots pc ls (.ref a :: st) ws :=
  fun H locs hP hD hS => W.objInit C.1 C.2.1 C.2.2.2.1 (C.2.2.2.2.1 _ hw) (C.2.2.2.2.1 _ hi) (C.2.2.2.2.1 _ hc) rfl (hsz.trans C.2.2.1.symm) rfl hd hf (by show 2 * 0 + _ + 12 ≤ _; omega) (w H locs hP hD hS)
theorem cw_put (C : CC Γ p s m args c cc nL own A) (hin : meth.name = "<init>") {ci j idx a : Nat} {v : Value} {fs fs' : List Value} {q : vw_C} {ty : FieldType} (hq : am_cl[ci]? = some q) (hci : ci < 13) (hw : Cond.fieldLink own idx q.1 (q.2.1 j).2.1 (q.2.1 j).2.2.1 ∈ gw) (hj : j < q.2.2) (hcls : (q.2.1 j).1 = q.1) (ho : q.1 = own) (hty : parseFieldDescriptor (q.2.1 j).2.2.1 = some ty) (hn : narrow ty v = v) (hf : fits ty v = true) (hl : j < fs.length) (he : fs.set j v = fs') (hd : decode cc pc = .ok (.putfield idx, 3))
    (w : CW Γ p e R s m args below meth c A Q cells slots (pc + 3) ls st ((a, .inr (ci, fs')) :: ws)) : CW Γ p e R s m args below meth c A Q cells slots pc ls (v :: .ref a :: st) ((a, .inr (ci, fs)) :: ws) := by
  obtain ⟨hx, hb, hml, hown, hts, ⟨hK, hN, hT, _⟩, hA⟩ := C
  obtain ⟨⟨ty0, hty0⟩, hnm⟩ := cl_nm ci hci q hq
  have hfld := r_fld (ci := ci) (j := j) hq
  subst he
  obtain ⟨Cq, Tq, Nq⟩ := q
  intro H locs hP hD hS
  by_cases hfin : (Tq j).2.2.2 = true
  · exact va_putF hx hb hts hfld ty0 hty0 hnm hown hK hP hD hS 0 rfl hq j hj (hts _ hw) (fun x h => by rw [hcls] at h; exact h) hfin hin (hcls.trans ho) hty hn hf hl hd (fun H locs hP hD hS => w H locs hP hD hS)
  · exact va_put hx hb hts hfld ty0 hty0 hnm hown hK hP hD hS 0 rfl hq j hj (hts _ hw) (fun x h => by rw [hcls] at h; exact h) (by simpa using hfin) hty hn hf hl hd (fun H locs hP hD hS => w H locs hP hD hS)
theorem cw_get (C : CC Γ p s m args c cc nL own A) {ci j idx a : Nat} {v : Value} {fs : List Value} {q : vw_C} (hq : am_cl[ci]? = some q) (hw : Cond.fieldLink own idx q.1 (q.2.1 j).2.1 (q.2.1 j).2.2.1 ∈ gw) (hj : j < q.2.2) (hcls : (q.2.1 j).1 = q.1) (hv : fs[j]? = some v) (hd : decode cc pc = .ok (.getfield idx, 3))
    (w : CW Γ p e R s m args below meth c A Q cells slots (pc + 3) ls (v :: st) ((a, .inr (ci, fs)) :: ws)) : CW Γ p e R s m args below meth c A Q cells slots pc ls (.ref a :: st) ((a, .inr (ci, fs)) :: ws) := by
  obtain ⟨hx, hb, hml, hown, hts, ⟨hK, hN, hT, _⟩, hA⟩ := C
  have hfld := r_fld (ci := ci) (j := j) hq
  obtain ⟨Cq, Tq, Nq⟩ := q
  intro H locs hP hD hS
  exact va_get hx hb hts hfld hown hK hP 0 rfl hq j hj (hts _ hw) (fun x h => by rw [hcls] at h; exact h) hv hd (w H locs hP hD hS)
theorem ra_int {U : State} {cA : ClassId} {ty : FieldType} (h : va_RA U cA ty) : U.vm.findClass ("[" ++ ty.toString) = some cA := by
  cases ty with
  | object C => obtain ⟨_, _, _, _, _, h⟩ := h; exact h
  | _ => exact h
theorem cw_newa (C : CC Γ p s m args c cc nL own A) {atype : ArrayType} {ty : FieldType} (t0 : Nat) {k : Nat} (hty : newarray.typeOf atype = ty) (hw : Cond.arrayClass ty ∈ gw) (ht : (tyA Γ)[t0]? = some (gc Γ k, ty)) {n : Int32} {N : Nat} {a0 : vp_A} (ha : ∀ cA : ClassId, vp_cell cA a0 = arrV cA N (fun _ => defaultValue ty)) (hn : ¬ n < 0) (hN : n.toNatClampNeg = N) (hby : N * componentBytes ty ≤ 536870912) (hc : cells + 1 ≤ R.cells) (hs : slots + N ≤ R.slots) (hd : decode cc pc = .ok (.newarray atype, 2))
    (w : ∀ q, CW Γ p e R s m args below meth c A Q (cells + 1) (slots + N) (pc + 2) ls (.ref q :: st) (ws ++ [(q, .inl (gc Γ k, a0))])) : CW Γ p e R s m args below meth c A Q cells slots pc ls (.int n :: st) ws := by
  obtain ⟨hx, hb, hml, hown, hts, ⟨hK, hN', hT, _⟩, hA⟩ := C
  intro H locs hP hD hS
  refine va_newa hx hb (by rw [hty]; exact hts _ hw) hty hK hP hD hS hA ha hn hN hby hc hs hd (fun q cA H1 hK1 hP1 hD1 hS1 => ?_)
  have e1 := ra_int (hK1.2 6 (cA, ty) rfl).2
  have e2 := ra_int (hK.2 t0 _ ht).2
  cases Option.some.inj (e1.symm.trans e2)
  exact w q H1 locs hP1 hD1 hS1
theorem cw_newq (C : CC Γ p s m args c cc nL own A) {Cn : String} (t0 : Nat) {k idx : Nat} (hw : Cond.classLink own idx Cn ∈ gw) (ho : va_AO Cn s) (ht : (tyA Γ)[t0]? = some (gc Γ k, .object Cn)) {n : Int32} {N : Nat} (hn : ¬ n < 0) (hN : n.toNatClampNeg = N) (hby : N * 4 ≤ 536870912) (hc : cells + 1 ≤ R.cells) (hs : slots + N ≤ R.slots) (hd : decode cc pc = .ok (.anewarray idx, 3))
    (w : ∀ q, CW Γ p e R s m args below meth c A Q (cells + 1) (slots + N) (pc + 3) ls (.ref q :: st) (ws ++ [(q, .inl (gc Γ k, N, .inr (.inr (.inr (.inr (fun _ => none))))))])) : CW Γ p e R s m args below meth c A Q cells slots pc ls (.int n :: st) ws := by
  obtain ⟨hx, hb, hml, hown, hts, ⟨hK, hN', hT, _⟩, hA⟩ := C
  intro H locs hP hD hS
  refine va_newq hx hb hown (hts _ hw) ho hK hP hD hS hA hn hN hby hc hs hd (fun q cA H1 hK1 hP1 hD1 hS1 => ?_)
  have e1 := ra_int (hK1.2 6 (cA, _) rfl).2
  have e2 := ra_int (hK.2 t0 _ ht).2
  cases Option.some.inj (e1.symm.trans e2)
  exact w q H1 locs hP1 hD1 hS1
theorem cw_ast (C : CC Γ p s m args c cc nL own A) (q0 t0 qk ci : Nat) {a v N k : Nat} {r : vw_C} {vs : List Value} {f : Nat → Option Nat} (ha : ws[q0]? = some (a, .inl (gc Γ k, N, .inr (.inr (.inr (.inr f)))))) (ht : (tyA Γ)[t0]? = some (gc Γ k, .object r.1)) (hv : ws[qk]? = some (v, .inr (ci, vs))) (hc : am_cl[ci]? = some r) {i : Int32} (hin : vp_in i N) (hd : decode cc pc = .ok (.aastore, 1))
    (w : CW Γ p e R s m args below meth c A Q cells slots (pc + 1) ls st (ws.set q0 (a, .inl (gc Γ k, N, .inr (.inr (.inr (.inr (va_up f i.toNatClampNeg (some v))))))))) : CW Γ p e R s m args below meth c A Q cells slots pc ls (.ref v :: .int i :: .ref a :: st) ws := by
  obtain ⟨hx, hb, hml, hown, hts, ⟨hK, hN', hT, _⟩, hA⟩ := C
  intro H locs hP hD hS
  exact va_astq hx hb hK hP hD hS q0 t0 qk ci ha ht hv hc hin hd (fun H locs hP hD hS => w H locs hP hD hS)
theorem cw_lds (C : CC Γ p s m args c cc nL own A) {k a : Nat} {tx : String} (hz : vk_R own k tx a s) (hd : decode cc pc = .ok (.ldc k, 2)) (w : CW Γ p e R s m args below meth c A Q cells slots (pc + 2) ls (.ref a :: st) ws) : CW Γ p e R s m args below meth c A Q cells slots pc ls st ws :=
  fun H locs hP hD hS => va_ldcS C.1 C.2.1 C.2.2.2.1 hz hd (w H locs hP hD hS)
theorem cw_il (C : CC Γ p s m args c cc nL own A) {x : Int32} (hl : ls[1]? = some (.val (.int x))) (hd : decode cc pc = .ok (.iload_n 1, 1)) (w : CW Γ p e R s m args below meth c A Q cells slots (pc + 1) ls (.int x :: st) ws) : CW Γ p e R s m args below meth c A Q cells slots pc ls st ws :=
  fun H locs hP hD hS => lv_iload_n C.1 C.2.1 hd rfl hl (w H locs hP hD hS)
theorem cw_ist (C : CC Γ p s m args c cc nL own A) {x : Int32} {i : Nat} {k : Fin 4} {lv lv' : List (Nat × Value)} (hi : (k : Nat) = i) (hd : decode cc pc = .ok (.istore_n k, 1)) (h : lv_has ls nL lv) (hn : i < nL) (hl : (i, Value.int x) :: lv.filter (fun q => !(q.1 == i) && !(q.1 + 1 == i && q.2.category == 2)) = lv') (w : ∀ ls', lv_has ls' nL lv' → CW Γ p e R s m args below meth c A Q cells slots (pc + 1) ls' st ws) : CW Γ p e R s m args below meth c A Q cells slots pc ls (.int x :: st) ws :=
  fun H locs hP hD hS => lv_istore_n C.1 C.2.1 hd hi h hn hl (fun ls' h' => w ls' h' H locs hP hD hS)
theorem cw_inc (C : CC Γ p s m args c cc nL own A) {i k : Nat} {n : Int} {x v : Int32} {lv lv' : List (Nat × Value)} (hd : decode cc pc = .ok (.iinc i n, 3)) (h : lv_has ls nL lv) (hk : lv[k]? = some (i, .int x)) (hv : x + Int32.ofInt n = v) (hn : i < nL) (hl : (i, Value.int v) :: lv.filter (fun q => !(q.1 == i) && !(q.1 + 1 == i && q.2.category == 2)) = lv') (w : ∀ ls', lv_has ls' nL lv' → CW Γ p e R s m args below meth c A Q cells slots (pc + 3) ls' st ws) : CW Γ p e R s m args below meth c A Q cells slots pc ls st ws :=
  fun H locs hP hD hS => lv_iinc C.1 C.2.1 hd h hk hv hn hl (fun ls' h' => w ls' h' H locs hP hD hS)
theorem cw_geT (C : CC Γ p s m args c cc nL own A) {x y : Int32} {off : Int} {tgt : Nat} (hd : decode cc pc = .ok (.if_icmp .ge off, 3)) (ht : (pc : Int) + off = (tgt : Int)) (hxy : y ≤ x) (w : CW Γ p e R s m args below meth c A Q cells slots tgt ls st ws) : CW Γ p e R s m args below meth c A Q cells slots pc ls (.int y :: .int x :: st) ws :=
  fun H locs hP hD hS => lv_icmp_ge C.1 C.2.1 hd ht (fun _ => w H locs hP hD hS) (fun h => absurd hxy h)
theorem cw_geF (C : CC Γ p s m args c cc nL own A) {x y : Int32} {off : Int} {tgt : Nat} (hd : decode cc pc = .ok (.if_icmp .ge off, 3)) (ht : (pc : Int) + off = (tgt : Int)) (hxy : ¬ y ≤ x) (w : CW Γ p e R s m args below meth c A Q cells slots (pc + 3) ls st ws) : CW Γ p e R s m args below meth c A Q cells slots pc ls (.int y :: .int x :: st) ws :=
  fun H locs hP hD hS => lv_icmp_ge C.1 C.2.1 hd ht (fun h => absurd h hxy) (fun _ => w H locs hP hD hS)
theorem cw_go (C : CC Γ p s m args c cc nL own A) {off : Int} {tgt : Nat} (hd : decode cc pc = .ok (.goto off, 3)) (ht : (pc : Int) + off = (tgt : Int)) (w : CW Γ p e R s m args below meth c A Q cells slots tgt ls st ws) : CW Γ p e R s m args below meth c A Q cells slots pc ls st ws :=
  fun H locs hP hD hS => lv_goto C.1 C.2.1 hd ht (w H locs hP hD hS)
/-- behind a call on the last cell -/
theorem jnW {D : va_G} {cl : List vw_C} {x : Nat × va_E} {w1 : va_W} {H H1 : Heap} (hP : va_P D cl (ws ++ [x]) H) (hD : va_D A (ws ++ [x])) (hk : ∀ q : Nat, q < H.size → ¬ va_A [x] H.size q → H1[q]? = H[q]?) (hF : ∀ q, va_A [x] H.size q → A q) (hP1 : va_P D cl w1 H1) (hD1 : va_D (va_A [x] H.size) w1) : va_P D cl (ws ++ w1) H1 ∧ va_D A (ws ++ w1) := by
  have hl : ∀ (k : Nat) (q : Nat × va_E), ws[k]? = some q → (ws ++ [x])[k]? = some q := fun k q hq => by
    rw [List.getElem?_append_left (List.getElem?_eq_some_iff.mp hq).1]; exact hq
  have hxl : (ws ++ [x])[ws.length]? = some x := by simp
  have apart : ∀ (k : Nat) (q : Nat × va_E), ws[k]? = some q → q.1 < H.size ∧ ¬ va_A [x] H.size q.1 := by
    intro k q hq
    have h2 := hl k q hq
    have hlt := (hP k q h2).lt
    refine ⟨hlt, fun h => ?_⟩
    rcases h with ⟨k2, e, h⟩ | h
    · have hk2 : k2 < 1 := (List.getElem?_eq_some_iff.mp h).1
      have : k2 = 0 := by omega
      subst this
      cases h
      have := hD.1 k ws.length q _ h2 hxl rfl
      have h3 := (List.getElem?_eq_some_iff.mp hq).1
      omega
    · omega
  refine ⟨va_P.app (fun k q hq => ?_) hP1, va_D.app ⟨fun i j p q hi hj => hD.1 i j p q (hl i p hi) (hl j q hj), fun k q hk => hD.2 k q (hl k q hk)⟩ (hD1.weaken (fun k q _ h => hF q.1 h)) (fun i j x' y hx hy hxy => ?_)⟩
  · obtain ⟨g1, g2⟩ := apart k q hq
    exact (hP k q (hl k q hq)).kept (hk q.1 g1 g2)
  · exact (apart i x' hx).2 (by rw [hxy]; exact hD1.2 j y hy)
def rmC (n mc ms : Nat) : Room := { frames := n, cells := mc, slots := ms, locals := 64 * n }
def PB (Γ : AG) (sz h0 ci : Nat) (fs : List Value) (U : State) : Prop := U.heap.size = sz ∧ va_P (gD Γ) am_cl [(h0, .inr (ci, fs))] U.heap ∧ va_D (fun _ => True) [(h0, .inr (ci, fs))] ∧ tbU Γ U
def QB {S : Type} (Γ : AG) (sz h0 ci : Nat) (fs : List Value) (born : Nat → S → va_W) : Array Value → State → Outcome → State → Prop := va_Qv (fun _ : S => True) (fun u t => va_P (gD Γ) am_cl (born h0 u) t.heap ∧ va_D (va_A [(h0, .inr (ci, fs))] sz) (born h0 u)) (va_A [(h0, .inr (ci, fs))] sz)
/-- a constructor's contract -/
def CtM {S : Type} (Γ : AG) (y : MethodName) (cc : ByteArray) (maxL lev mc ms ci : Nat) (fs : List Value) (born : Nat → S → va_W) : Prop :=
  ∀ h0 sz : Nat, Met (gl Γ) y (.code y cc maxL none :: gw) (rmC lev mc ms) (va_Pc [.ref h0] (PB Γ sz h0 ci fs)) (QB Γ sz h0 ci fs born) mc ms (va_A [(h0, .inr (ci, fs))] sz)
theorem PB_blind {sz h0 ci : Nat} {fs : List Value} (av : List Value) : FrameBlind (va_Pc av (PB Γ sz h0 ci fs)) := by
  intro a U g mk hp
  obtain ⟨h0, h1, h2, h3, h4⟩ := hp
  exact ⟨h0, h1, h2, h3, tbU.same (s := U) (U := U.calling g mk a) rfl h4⟩
/-- the fields of a new object -/
def ZF (q : vw_C) (fs : List Value) : Prop := ∃ ty : Nat → FieldType, (∀ k, k < q.2.2 → parseFieldDescriptor (q.2.1 k).2.2.1 = some (ty k)) ∧ ∀ j, j < q.2.2 → defaultValue (ty j) = vp_V fs j
def lnk (own : String) (ic : Nat) (y : MethodName) : Prop := Cond.methodLinkNest own ic y "HeathForks" ∈ nw ∨ Cond.methodLink own ic y ∈ gw
def ctB (y : MethodName) (cc : ByteArray) (maxL : Nat) (q : vw_C) : Prop := y.cls = q.1 ∧ y.name = "<init>" ∧ (parseMethodDescriptor y.desc).map (fun d => d.parameters.length) = some 0 ∧ (y.cls ≠ "java/lang/invoke/MethodHandle" ∧ y.cls ≠ "java/lang/invoke/VarHandle") ∧ Cond.code y cc maxL none ∈ gw ∧ Cond.instanceMethod y ∈ gw ∧ Cond.instantiable q.1 q.2.2 ∈ gw ∧ Cond.initialized q.1 ∈ gw
theorem cw_make (C : CC Γ p s m args c cc nL own A) {S : Type} {y : MethodName} {cc2 : ByteArray} {maxL lev mc ms ci ik ic : Nat} {fs : List Value} {born : Nat → S → va_W} {q : vw_C} (M : CtM Γ y cc2 maxL lev mc ms ci fs born) (hq : am_cl[ci]? = some q) (hz : ZF q fs) (hB : ctB y cc2 maxL q) (hcl : Cond.classLink own ik q.1 ∈ gw) (hl : lnk own ic y) (hRf : lev + 1 ≤ R.frames) (hRl : 8 + (maxL + 11) + 64 * lev ≤ R.locals) (hc : cells + 1 + mc ≤ R.cells) (hs : slots + q.2.2 + ms ≤ R.slots) (hcat : (st.map fun v => v.category).sum ≤ 7) (hsz : ls.size = nL)
    (d0 : decode cc pc = .ok (.new ik, 3)) (d3 : decode cc (pc + 3) = .ok (.dup, 1)) (d4 : decode cc (pc + 4) = .ok (.invokespecial ic, 3))
    (w : ∀ (a : Nat) (u : S), CW Γ p e R s m args below meth c A Q (cells + 1 + mc) (slots + q.2.2 + ms) (pc + 7) ls (.ref a :: st) (ws ++ born a u)) : CW Γ p e R s m args below meth c A Q cells slots pc ls st ws := by
  obtain ⟨hx, hb, hml, hown, hts, tb, hA⟩ := C
  obtain ⟨hK, hN, hT, _⟩ := id tb
  obtain ⟨ty, hty, hfs⟩ := hz
  obtain ⟨b1, b2, b3, b4, b5, b6, b7, b8⟩ := hB
  have hfld := r_fld (ci := ci) (j := 0) hq
  have b9 : Cond.initialized y.cls ∈ gw := by rw [b1]; exact b8
  obtain ⟨Cq, Tq, Nq⟩ := q
  intro H locs hP hD hS
  refine va_new (fs := fs) hx hb hts hfld ty hty hown (hts _ hcl) (hts _ b7) (hts _ b8) hK hP hD hS hA hq hfs (by omega) (Nat.le_trans (Nat.le_add_right _ _) hs) d0 (fun a H1 hP1 hD1 hS1 => ?_)
  refine lv_dup hx hb d3 rfl ?_
  have hxl : (ws ++ [(a, (.inr (ci, fs) : va_E))])[ws.length]? = some (a, .inr (ci, fs)) := by simp
  have h1 : ∀ (k : Nat) (z : Nat × va_E), [(a, (.inr (ci, fs) : va_E))][k]? = some z → k = 0 ∧ z = (a, .inr (ci, fs)) := by
    intro k z hk
    have hk2 : k < 1 := (List.getElem?_eq_some_iff.mp hk).1
    have : k = 0 := by omega
    subst this
    cases hk
    exact ⟨rfl, rfl⟩
  have hPc : va_P (gD Γ) am_cl [(a, .inr (ci, fs))] H1 := fun k z hk => by
    obtain ⟨_, rfl⟩ := h1 k z hk
    exact hP1 _ _ hxl
  have hDc : va_D (fun _ => True) [(a, (.inr (ci, fs) : va_E))] := ⟨fun i j p q hi hj _ => by rw [(h1 i p hi).1, (h1 j q hj).1], fun _ _ _ => trivial⟩
  have hF : ∀ z, va_A [(a, (.inr (ci, fs) : va_E))] H1.size z → A z := by
    rintro z (⟨k, ee, hk⟩ | hz)
    · obtain ⟨_, h2⟩ := h1 k _ hk
      cases h2
      exact hD1.2 _ _ hxl
    · exact hA z (Nat.le_trans hS1.1 hz)
  have good : GoodIn gw (Cond.code y cc2 maxL none :: gw) := by
    intro w hw
    rcases List.mem_cons.mp hw with rfl | hw
    · exact ⟨b5, good_of_word (List.mem_filter.mp b5).2⟩
    · exact ⟨hw, good_of_word (List.mem_filter.mp hw).2⟩
  have pre : PreS s H1 (va_Pc [.ref a] (PB Γ H1.size a ci fs)) [.ref a] := ⟨PB_blind _, fun U hU hW => ⟨rfl, by rw [hU], by rw [hU]; exact hPc, hDc, tb.warm hW⟩⟩
  have fit : cells + 1 + mc ≤ R.cells ∧ slots + Nq + ms ≤ R.slots := ⟨hc, hs⟩
  have run : va_Run p (gl Γ) e R s m args below meth c H1 locs (cells + 1) (slots + Nq) mc ms (F0 m (pc + 4) ls (.ref a :: .ref a :: st)) (.ref a :: st) (QB Γ H1.size a ci fs born #[.ref a]) (va_A [(a, .inr (ci, fs))] H1.size) := by
    have hcat' : 2 * (F0 m (pc + 4) ls (.ref a :: .ref a :: st)).monitorRoom + (((Value.ref a) :: st).map fun v => v.category).sum ≤ 8 := by
      show 2 * 0 + (1 + (st.map fun v => v.category).sum) ≤ 8
      omega
    rcases hl with hl | hl
    · exact va_runIN (As := []) (rest := .ref a :: st) ⟨hx, hb, hml, hown, hts⟩ (M a H1.size) ⟨va_cnB 0 hts good rfl rfl rfl (hN _ hl) (hts _ b9) ⟨b4.1, b4.2, b3⟩ ⟨hRf, hRl⟩, b2, hts _ b6⟩ pre rfl rfl hsz rfl hcat' d4 fit
    · exact va_runI (As := []) (rest := .ref a :: st) ⟨hx, hb, hml, hown, hts⟩ (M a H1.size) ⟨callB_of 0 hts good rfl rfl rfl (hts _ b9) (hts _ hl) ⟨b4.1, b4.2, b3⟩ ⟨hRf, hRl⟩, b2, hts _ b6⟩ pre rfl rfl hsz rfl hcat' d4 fit
  refine va_callv run hS1 (fun z _ h => hF z h) hF (fun u t H2 locs2 ht hvm _ hB hz1 hk1 hS2 => ?_)
  obtain ⟨hP2, hD2⟩ := hB
  rw [ht] at hP2
  obtain ⟨hPj, hDj⟩ := jnW hP1 hD1 hk1 hF hP2 hD2
  exact w a u H2 locs2 hPj hDj hS2
theorem cw_end (C : CC Γ p s m args c cc nL own A) {S : Type} {ci h0 sz mc ms : Nat} {fs : List Value} {born : Nat → S → va_W} (u : S) (hr : meth.sig.returnType = none) (hlk : meth.locks = false) (hA : A = va_A [(h0, .inr (ci, fs))] sz) (he : ws = born h0 u) (hd : decode cc pc = .ok (.return_, 1)) : CW Γ p e R s m args below meth c A (MQ below (QB Γ sz h0 ci fs born) args s mc ms A) mc ms pc ls [] ws := by
  intro H locs hP hD hS
  refine W.vret C.1 C.2.1 hr (fun t ht hW => ⟨⟨u, rfl, trivial, by rw [ht, ← he]; exact hP, by rw [← he, ← hA]; exact hD⟩, by rw [← hA]; exact hS.F ht⟩) hS.2.2 hd hlk
theorem CtM.of {S : Type} {y : MethodName} {cc : ByteArray} {maxL lev mc ms ci : Nat} {fs : List Value} {born : Nat → S → va_W} (hpl : plainName y.cls = true) (hyn : y.name = "<init>") (hml1 : 1 ≤ maxL)
    (body : ∀ (h0 : Nat) (p : Program) (e : Env) (s : State) (m : MethodId) (args : Array Value) (below : List Frame) (meth : Method) (c : Code) (A : Nat → Prop), A = va_A [(h0, .inr (ci, fs))] s.heap.size → CC Γ p s m args c cc maxL y.cls A → meth.name = "<init>" → meth.sig.returnType = none → meth.locks = false → ∀ ls : Array Slot, lv_has ls maxL [(0, .ref h0)] → CW Γ p e (rmC lev mc ms) s m args below meth c A (MQ below (QB Γ s.heap.size h0 ci fs born) args s mc ms A) 0 0 0 ls [] [(h0, .inr (ci, fs))]) : CtM Γ y cc maxL lev mc ms ci fs born := by
  intro h0 sz
  refine Met.ofW (cc := cc) (maxL := maxL) (ret := none) hpl rfl ?_
  intro p e s m args below meth c s₁ B hml hv
  obtain ⟨rfl, hsz, hP, hD0, tb⟩ := hv
  have hts : ∀ w ∈ (Cond.code y cc maxL none :: gw), w.before (([.ref h0] : List Value).toArray) s = true := atoms_spec (ws := Cond.code y cc maxL none :: gw) B.pre
  have hin : meth.name = "<init>" := (name_of_methodNamed B.named B.method).1.trans hyn
  subst hsz
  have hD := hD0.self (sz := s.heap.size)
  have hl := lv_entry ([.ref h0]) (n := maxL) hml1
  rw [lg_entry_eq]
  generalize (lg_sl ([.ref h0]) ++ List.replicate (maxL - (lg_sl ([.ref h0])).length) Slot.unset).toArray = ls at hl ⊢
  exact body h0 p e s m _ below meth c _ rfl ⟨B.exec, B.bytes, hml, findClass_of_methodNamed B.named, fun w hw => hts w (List.mem_cons_of_mem _ hw), tb, fun q h => Or.inr h⟩ hin B.returns B.notSynchronized ls hl s.heap [] hP hD va_S.rf
def lf (l : List Nat) (i : Nat) : Nat := l.getD i 0
end CT
