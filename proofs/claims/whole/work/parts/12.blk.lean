section BLK
variable {Γ : AG} {p : Program} {e : Env} {R : Room} {s : State} {m : MethodId} {args : Array Value} {below : List Frame} {meth : Method} {c : Code} {cc : ByteArray} {nL own : Nat} {Q : State → Prop}
set_option maxHeartbeats 4000000 in
theorem stp_sound {lv lv' : LV} {st st' : List AV} {h h' : AH} {pc pc' len : Nat} {i : Instr} {g : Prop} (C : Cx Γ p s m args c cc nL own) (ho : own < 18) (hd : decode cc pc = .ok (i, len)) (hl : len = ilen i) (hs : stp own (pc, i, len) lv st h = some (pc', lv', st', h', g)) (hg : g) (w : WH Γ p e R s m args below meth c nL Q pc' lv' st' h') : WH Γ p e R s m args below meth c nL Q pc lv st h := by
  cases i
  case iconst => exact sp_iconst C ho hd hl hs hg w
  case lconst => exact sp_lconst C ho hd hl hs hg w
  case bipush => exact sp_bipush C ho hd hl hs hg w
  case sipush => exact sp_sipush C ho hd hl hs hg w
  case iload_n => exact sp_iload_n C ho hd hl hs hg w
  case iload => exact sp_iload C ho hd hl hs hg w
  case lload_n => exact sp_lload_n C ho hd hl hs hg w
  case lload => exact sp_lload C ho hd hl hs hg w
  case aload_n => exact sp_aload_n C ho hd hl hs hg w
  case aload => exact sp_aload C ho hd hl hs hg w
  case istore_n => exact sp_istore_n C ho hd hl hs hg w
  case istore => exact sp_istore C ho hd hl hs hg w
  case lstore_n => exact sp_lstore_n C ho hd hl hs hg w
  case lstore => exact sp_lstore C ho hd hl hs hg w
  case astore_n => exact sp_astore_n C ho hd hl hs hg w
  case astore => exact sp_astore C ho hd hl hs hg w
  case iadd => exact sp_iadd C ho hd hl hs hg w
  case isub => exact sp_isub C ho hd hl hs hg w
  case imul => exact sp_imul C ho hd hl hs hg w
  case idiv => exact sp_idiv C ho hd hl hs hg w
  case irem => exact sp_irem C ho hd hl hs hg w
  case ineg => exact sp_ineg C ho hd hl hs hg w
  case iand => exact sp_iand C ho hd hl hs hg w
  case ior => exact sp_ior C ho hd hl hs hg w
  case ixor => exact sp_ixor C ho hd hl hs hg w
  case ishl => exact sp_ishl C ho hd hl hs hg w
  case ishr => exact sp_ishr C ho hd hl hs hg w
  case iushr => exact sp_iushr C ho hd hl hs hg w
  case ladd => exact sp_ladd C ho hd hl hs hg w
  case lsub => exact sp_lsub C ho hd hl hs hg w
  case lmul => exact sp_lmul C ho hd hl hs hg w
  case ldiv => exact sp_ldiv C ho hd hl hs hg w
  case lrem => exact sp_lrem C ho hd hl hs hg w
  case land => exact sp_land C ho hd hl hs hg w
  case lor => exact sp_lor C ho hd hl hs hg w
  case lshl => exact sp_lshl C ho hd hl hs hg w
  case lushr => exact sp_lushr C ho hd hl hs hg w
  case lcmp => exact sp_lcmp C ho hd hl hs hg w
  case i2l => exact sp_i2l C ho hd hl hs hg w
  case l2i => exact sp_l2i C ho hd hl hs hg w
  case i2b => exact sp_i2b C ho hd hl hs hg w
  case i2c => exact sp_i2c C ho hd hl hs hg w
  case dup => exact sp_dup C ho hd hl hs hg w
  case pop => exact sp_pop C ho hd hl hs hg w
  case dup2 => exact sp_dup2 C ho hd hl hs hg w
  case dup_x1 => exact sp_dup_x1 C ho hd hl hs hg w
  case iaload => exact sp_iaload C ho hd hl hs hg w
  case baload => exact sp_baload C ho hd hl hs hg w
  case laload => exact sp_laload C ho hd hl hs hg w
  case aaload => exact sp_aaload C ho hd hl hs hg w
  case iastore => exact sp_iastore C ho hd hl hs hg w
  case bastore => exact sp_bastore C ho hd hl hs hg w
  case lastore => exact sp_lastore C ho hd hl hs hg w
  case aastore => exact sp_aastore C ho hd hl hs hg w
  case arraylength => exact sp_arraylength C ho hd hl hs hg w
  case ldc => exact sp_ldc C ho hd hl hs hg w
  case ldc_w => exact sp_ldc_w C ho hd hl hs hg w
  case ldc2_w => exact sp_ldc2_w C ho hd hl hs hg w
  case getfield => exact sp_getfield C ho hd hl hs hg w
  case putfield => exact sp_putfield C ho hd hl hs hg w
  case getstatic => exact sp_getstatic C ho hd hl hs hg w
  case goto => exact sp_goto C ho hd hl hs hg w
  case iinc => exact sp_iinc C ho hd hl hs hg w
  all_goals (simp only [stp] at hs; cases hs)
theorem blk_sound (C : Cx Γ p s m args c cc nL own) (ho : own < 18) : ∀ (B : List (Nat × Instr × Nat)), (∀ x ∈ B, decode cc x.1 = .ok (x.2.1, x.2.2) ∧ x.2.2 = ilen x.2.1) → ∀ {lv lv' : LV} {st st' : List AV} {h h' : AH} {pc pc' : Nat} {g : Prop}, blk own B pc lv st h = some (pc', lv', st', h', g) → g → WH Γ p e R s m args below meth c nL Q pc' lv' st' h' → WH Γ p e R s m args below meth c nL Q pc lv st h := by
  intro B
  induction B with
  | nil =>
    intro _ lv lv' st st' h h' pc pc' g hs hg w
    obtain ⟨rfl, rfl, rfl, rfl, rfl⟩ := some5 hs
    exact w
  | cons x l ih =>
    intro hB lv lv' st st' h h' pc pc' g hs hg w
    obtain ⟨hd, hl⟩ := hB x List.mem_cons_self
    simp only [blk] at hs
    split at hs
    · rename_i hpc
      subst hpc
      split at hs
      · rename_i pc1 lv1 st1 h1 g1 hs1
        split at hs
        · rename_i pc2 lv2 st2 h2 g2 hs2
          obtain ⟨rfl, rfl, rfl, rfl, rfl⟩ := some5 hs
          exact stp_sound C ho hd hl hs1 hg.1 (ih (fun y hy => hB y (List.mem_cons_of_mem _ hy)) hs2 hg.2 w)
        · cases hs
      · cases hs
    · cases hs
end BLK
/-! ### methods -/
/-- a method: owner, name, bytes, its instructions, locals, return type, level -/
abbrev AM : Type := Nat × MethodName × ByteArray × List (Nat × Instr × Nat) × Nat × Option FieldType × Nat
abbrev mo (μ : AM) : Nat := μ.1
abbrev my (μ : AM) : MethodName := μ.2.1
abbrev mb (μ : AM) : ByteArray := μ.2.2.1
abbrev mt (μ : AM) : List (Nat × Instr × Nat) := μ.2.2.2.1
abbrev ml (μ : AM) : Nat := μ.2.2.2.2.1
abbrev mr (μ : AM) : Option FieldType := μ.2.2.2.2.2.1
abbrev mv (μ : AM) : Nat := μ.2.2.2.2.2.2
def tabOk (b : ByteArray) (t : List (Nat × Instr × Nat)) : Prop := ∀ x ∈ t, decode b x.1 = .ok (x.2.1, x.2.2)
def rmA (n : Nat) : Room := { frames := n, cells := 0, slots := 0, locals := 64 * n }
def QA (Γ : AG) (r : Option AV) (h' : AH) : Array Value → State → Outcome → State → Prop := fun _ st oc t => (oc = .returned (r.map (cv Γ)) ∧ (∀ v, r = some v → okV v) ∧ Wd Γ h' t) ∧ va_F (gA Γ) st t
/-- from pc on, the method comes to its end, with r, in the world h' -/
def Ev (Γ : AG) (μ : AM) (pc : Nat) (lv : LV) (st : List AV) (h : AH) (r : Option AV) (h' : AH) : Prop :=
  ∀ (p : Program) (e : Env) (s : State) (m : MethodId) (args : Array Value) (below : List Frame) (meth : Method) (c : Code), Cx Γ p s m args c (mb μ) (ml μ) (mo μ) → meth.sig.returnType = mr μ → meth.locks = false → WH Γ p e (rmA (mv μ)) s m args below meth c (ml μ) (MQ below (QA Γ r h') args s 0 0 (gA Γ)) pc lv st h
/-- the contract -/
def MetA (Γ : AG) (μ : AM) (av : List AV) (h : AH) (r : Option AV) (h' : AH) : Prop :=
  (∀ v ∈ av, okV v) → Met (gl Γ) (my μ) (.code (my μ) (mb μ) (ml μ) (mr μ) :: gw) (rmA (mv μ)) (va_Pc (av.map (cv Γ)) (Wd Γ h)) (QA Γ r h') 0 0 (gA Γ)
def ilAll (t : List (Nat × Instr × Nat)) : Bool := t.all fun x => x.2.2 == ilen x.2.1
section EV
variable {Γ : AG} {μ : AM} {pc pc' : Nat} {lv lv' : LV} {st st' : List AV} {h h' h'' : AH} {r : Option AV} {g : Prop}
theorem Ev.blk (i k : Nat) (ho : mo μ < 18) (ht : tabOk (mb μ) (mt μ)) (hil : ilAll (((mt μ).drop i).take k) = true) (hs : blk (mo μ) (((mt μ).drop i).take k) pc lv st h = some (pc', lv', st', h', g)) (hg : g) (w : Ev Γ μ pc' lv' st' h' r h'') : Ev Γ μ pc lv st h r h'' :=
  fun p e s m args below meth c C hr hlk => blk_sound C ho _ (fun x hx => ⟨ht x (List.mem_of_mem_drop (List.mem_of_mem_take hx)), by simpa using List.all_eq_true.mp hil x hx⟩) hs hg (w p e s m args below meth c C hr hlk)
/-- fewer locals -/
def msk : List Bool → LV → LV
  | b :: bs, v :: lv => (if b then v else none) :: msk bs lv
  | _, lv => lv
theorem msk_len (bs : List Bool) (lv : LV) : (msk bs lv).length = lv.length := by
  induction bs generalizing lv with
  | nil => simp [msk]
  | cons b bs ih => cases lv with
    | nil => simp [msk]
    | cons v lv => simp [msk, ih]
theorem msk_get {bs : List Bool} {lv : LV} {i : Nat} {v : AV} (h : (msk bs lv)[i]? = some (some v)) : lv[i]? = some (some v) := by
  induction bs generalizing lv i with
  | nil => simpa [msk] using h
  | cons b bs ih => cases lv with
    | nil => simp [msk] at h
    | cons w lv => cases i with
      | zero => cases b <;> simp [msk] at h ⊢; exact h
      | succ i => simp only [msk, List.getElem?_cons_succ] at h ⊢; exact ih h
theorem Ev.msk (bs : List Bool) (w : Ev Γ μ pc (msk bs lv) st h r h'') : Ev Γ μ pc lv st h r h'' :=
  fun p e s m args below meth c C hr hlk oh ol os H locs ls hP hD hS hL => w p e s m args below meth c C hr hlk oh (fun i v hv => ol i v (msk_get hv)) os H locs ls hP hD hS ⟨hL.1, hL.2.1, by rw [msk_len]; exact hL.2.2.1, fun i v hv => hL.2.2.2 i v (msk_get hv)⟩
end EV
