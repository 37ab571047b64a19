def ilen : Instr → Nat
  | .lconst _ => 1
  | .iconst _ => 1
  | .iload_n _ => 1
  | .lload_n _ => 1
  | .aload_n _ => 1
  | .istore_n _ => 1
  | .lstore_n _ => 1
  | .astore_n _ => 1
  | .iadd => 1
  | .isub => 1
  | .imul => 1
  | .idiv => 1
  | .irem => 1
  | .ineg => 1
  | .iand => 1
  | .ior => 1
  | .ixor => 1
  | .ishl => 1
  | .ishr => 1
  | .iushr => 1
  | .ladd => 1
  | .lsub => 1
  | .lmul => 1
  | .ldiv => 1
  | .lrem => 1
  | .land => 1
  | .lor => 1
  | .lshl => 1
  | .lushr => 1
  | .lcmp => 1
  | .i2l => 1
  | .l2i => 1
  | .i2b => 1
  | .i2c => 1
  | .dup => 1
  | .pop => 1
  | .dup2 => 1
  | .dup_x1 => 1
  | .iaload => 1
  | .baload => 1
  | .laload => 1
  | .aaload => 1
  | .iastore => 1
  | .bastore => 1
  | .lastore => 1
  | .aastore => 1
  | .arraylength => 1
  | .ireturn => 1
  | .lreturn => 1
  | .areturn => 1
  | .return_ => 1
  | .bipush _ => 2
  | .iload _ => 2
  | .lload _ => 2
  | .aload _ => 2
  | .istore _ => 2
  | .lstore _ => 2
  | .astore _ => 2
  | .ldc _ => 2
  | .sipush _ => 3
  | .iinc _ _ => 3
  | .ldc_w _ => 3
  | .ldc2_w _ => 3
  | .getfield _ => 3
  | .putfield _ => 3
  | .getstatic _ => 3
  | .goto _ => 3
  | .ifCond _ _ => 3
  | .if_icmp _ _ => 3
  | .invokevirtual _ => 3
  | .invokestatic _ => 3
  | .invokespecial _ => 3
  | _ => 0
section STP
variable {Γ : AG} {p : Program} {e : Env} {R : Room} {s : State} {m : MethodId} {args : Array Value} {below : List Frame} {meth : Method} {c : Code} {cc : ByteArray} {nL own : Nat} {Q : State → Prop} {lv lv' : LV} {st st' : List AV} {h h' : AH} {pc pc' len : Nat} {g : Prop}
theorem some5 {a a' : Nat} {b b' : LV} {c c' : List AV} {d d' : AH} {f f' : Prop} (h : (some (a, b, c, d, f) : Option AS) = some (a', b', c', d', f')) : a = a' ∧ b = b' ∧ c = c' ∧ d = d' ∧ f = f' := by
  cases h
  exact ⟨rfl, rfl, rfl, rfl, rfl⟩
theorem am_ldcwS {H : Heap} {locs : List Loc} {cells slots : Nat} {ls : Array Slot} {rest : List Value} {l : Launch} (hexec : p.tables.exec = Jvm.exec) (hb : c.code = cc) {own tx : String} {index q : Nat} (hown : s.vm.findClass own = some m.cls) (hZ : vk_R own index tx q s) (hdg : decode cc pc = .ok (.ldc_w index, 3))
    (k : W p l e R s m args below meth c H locs cells slots Q (F0 m (pc + 3) ls (.ref q :: rest))) : W p l e R s m args below meth c H locs cells slots Q (F0 m pc ls rest) := by
  intro T hT X
  obtain ⟨t, a1, b1⟩ := k T hT X
  exact ⟨t, X.ldcStringW hexec hown (text := tx) (a := q) hZ.1 hZ.2 (g := F0 m pc ls rest) rfl (by rw [hb]; exact hdg) t a1, b1⟩
theorem sp_iconst {n : Int} (C : Cx Γ p s m args c cc nL own) (ho : own < 18) (hd : decode cc pc = .ok (.iconst n, len)) (hl : len = ilen (.iconst n)) (hs : stp own (pc, .iconst n, len) lv st h = some (pc', lv', st', h', g)) (hg : g) (w : WH Γ p e R s m args below meth c nL Q pc' lv' st' h') : WH Γ p e R s m args below meth c nL Q pc lv st h := by
  obtain ⟨hx, hb, hml, hown, hts, hK, hN, hT⟩ := C
  subst hl
  simp only [stp] at hs
  obtain ⟨rfl, rfl, rfl, rfl, rfl⟩ := some5 hs
  exact WH.keep ⟨hx, hb, hml, hown, hts, hK, hN, hT⟩ (fun _ os _ => by exact okS_cons.mpr ⟨trivial, os⟩) (fun H locs ls hP hS hL _ os oh k => lv_iconst hx hb hd rfl k) w
theorem sp_lconst {n : Fin 2} (C : Cx Γ p s m args c cc nL own) (ho : own < 18) (hd : decode cc pc = .ok (.lconst n, len)) (hl : len = ilen (.lconst n)) (hs : stp own (pc, .lconst n, len) lv st h = some (pc', lv', st', h', g)) (hg : g) (w : WH Γ p e R s m args below meth c nL Q pc' lv' st' h') : WH Γ p e R s m args below meth c nL Q pc lv st h := by
  obtain ⟨hx, hb, hml, hown, hts, hK, hN, hT⟩ := C
  subst hl
  simp only [stp] at hs
  obtain ⟨rfl, rfl, rfl, rfl, rfl⟩ := some5 hs
  exact WH.keep ⟨hx, hb, hml, hown, hts, hK, hN, hT⟩ (fun _ os _ => by exact okS_cons.mpr ⟨trivial, os⟩) (fun H locs ls hP hS hL _ os oh k => lv_lconst hx hb hd rfl k) w
theorem sp_bipush {n : Int} (C : Cx Γ p s m args c cc nL own) (ho : own < 18) (hd : decode cc pc = .ok (.bipush n, len)) (hl : len = ilen (.bipush n)) (hs : stp own (pc, .bipush n, len) lv st h = some (pc', lv', st', h', g)) (hg : g) (w : WH Γ p e R s m args below meth c nL Q pc' lv' st' h') : WH Γ p e R s m args below meth c nL Q pc lv st h := by
  obtain ⟨hx, hb, hml, hown, hts, hK, hN, hT⟩ := C
  subst hl
  simp only [stp] at hs
  split at hs
  · rename_i hq
    obtain ⟨rfl, rfl, rfl, rfl, rfl⟩ := some5 hs
    exact WH.keep ⟨hx, hb, hml, hown, hts, hK, hN, hT⟩ (fun _ os _ => by exact okS_cons.mpr ⟨trivial, os⟩) (fun H locs ls hP hS hL _ os oh k => lv_bipush hx hb hd hq k) w
  · cases hs
theorem sp_sipush {n : Int} (C : Cx Γ p s m args c cc nL own) (ho : own < 18) (hd : decode cc pc = .ok (.sipush n, len)) (hl : len = ilen (.sipush n)) (hs : stp own (pc, .sipush n, len) lv st h = some (pc', lv', st', h', g)) (hg : g) (w : WH Γ p e R s m args below meth c nL Q pc' lv' st' h') : WH Γ p e R s m args below meth c nL Q pc lv st h := by
  obtain ⟨hx, hb, hml, hown, hts, hK, hN, hT⟩ := C
  subst hl
  simp only [stp] at hs
  split at hs
  · rename_i hq
    obtain ⟨rfl, rfl, rfl, rfl, rfl⟩ := some5 hs
    exact WH.keep ⟨hx, hb, hml, hown, hts, hK, hN, hT⟩ (fun _ os _ => by exact okS_cons.mpr ⟨trivial, os⟩) (fun H locs ls hP hS hL _ os oh k => lv_sipush hx hb hd hq k) w
  · cases hs
theorem sp_iload_n {n : Fin 4} (C : Cx Γ p s m args c cc nL own) (ho : own < 18) (hd : decode cc pc = .ok (.iload_n n, len)) (hl : len = ilen (.iload_n n)) (hs : stp own (pc, .iload_n n, len) lv st h = some (pc', lv', st', h', g)) (hg : g) (w : WH Γ p e R s m args below meth c nL Q pc' lv' st' h') : WH Γ p e R s m args below meth c nL Q pc lv st h := by
  obtain ⟨hx, hb, hml, hown, hts, hK, hN, hT⟩ := C
  subst hl
  simp only [stp] at hs
  split at hs
  · rename_i hq
    obtain ⟨rfl, rfl, rfl, rfl, rfl⟩ := some5 hs
    exact WH.keep ⟨hx, hb, hml, hown, hts, hK, hN, hT⟩ (fun ol os _ => by exact okS_cons.mpr ⟨ol _ _ hq, os⟩) (fun H locs ls hP hS hL _ os oh k => lv_iload_n hx hb hd rfl (hL.2.2.2 _ _ hq) k) w
  · cases hs
theorem sp_iload {n : Nat} (C : Cx Γ p s m args c cc nL own) (ho : own < 18) (hd : decode cc pc = .ok (.iload n, len)) (hl : len = ilen (.iload n)) (hs : stp own (pc, .iload n, len) lv st h = some (pc', lv', st', h', g)) (hg : g) (w : WH Γ p e R s m args below meth c nL Q pc' lv' st' h') : WH Γ p e R s m args below meth c nL Q pc lv st h := by
  obtain ⟨hx, hb, hml, hown, hts, hK, hN, hT⟩ := C
  subst hl
  simp only [stp] at hs
  split at hs
  · rename_i hq
    obtain ⟨rfl, rfl, rfl, rfl, rfl⟩ := some5 hs
    exact WH.keep ⟨hx, hb, hml, hown, hts, hK, hN, hT⟩ (fun ol os _ => by exact okS_cons.mpr ⟨ol _ _ hq, os⟩) (fun H locs ls hP hS hL _ os oh k => lv_iload hx hb hd (hL.2.2.2 _ _ hq) k) w
  · cases hs
theorem sp_lload_n {n : Fin 4} (C : Cx Γ p s m args c cc nL own) (ho : own < 18) (hd : decode cc pc = .ok (.lload_n n, len)) (hl : len = ilen (.lload_n n)) (hs : stp own (pc, .lload_n n, len) lv st h = some (pc', lv', st', h', g)) (hg : g) (w : WH Γ p e R s m args below meth c nL Q pc' lv' st' h') : WH Γ p e R s m args below meth c nL Q pc lv st h := by
  obtain ⟨hx, hb, hml, hown, hts, hK, hN, hT⟩ := C
  subst hl
  simp only [stp] at hs
  split at hs
  · rename_i hq
    obtain ⟨rfl, rfl, rfl, rfl, rfl⟩ := some5 hs
    exact WH.keep ⟨hx, hb, hml, hown, hts, hK, hN, hT⟩ (fun ol os _ => by exact okS_cons.mpr ⟨ol _ _ hq, os⟩) (fun H locs ls hP hS hL _ os oh k => lv_lload_n hx hb hd rfl (hL.2.2.2 _ _ hq) k) w
  · cases hs
theorem sp_lload {n : Nat} (C : Cx Γ p s m args c cc nL own) (ho : own < 18) (hd : decode cc pc = .ok (.lload n, len)) (hl : len = ilen (.lload n)) (hs : stp own (pc, .lload n, len) lv st h = some (pc', lv', st', h', g)) (hg : g) (w : WH Γ p e R s m args below meth c nL Q pc' lv' st' h') : WH Γ p e R s m args below meth c nL Q pc lv st h := by
  obtain ⟨hx, hb, hml, hown, hts, hK, hN, hT⟩ := C
  subst hl
  simp only [stp] at hs
  split at hs
  · rename_i hq
    obtain ⟨rfl, rfl, rfl, rfl, rfl⟩ := some5 hs
    exact WH.keep ⟨hx, hb, hml, hown, hts, hK, hN, hT⟩ (fun ol os _ => by exact okS_cons.mpr ⟨ol _ _ hq, os⟩) (fun H locs ls hP hS hL _ os oh k => lv_lload hx hb hd (hL.2.2.2 _ _ hq) k) w
  · cases hs
theorem sp_aload_n {n : Fin 4} (C : Cx Γ p s m args c cc nL own) (ho : own < 18) (hd : decode cc pc = .ok (.aload_n n, len)) (hl : len = ilen (.aload_n n)) (hs : stp own (pc, .aload_n n, len) lv st h = some (pc', lv', st', h', g)) (hg : g) (w : WH Γ p e R s m args below meth c nL Q pc' lv' st' h') : WH Γ p e R s m args below meth c nL Q pc lv st h := by
  obtain ⟨hx, hb, hml, hown, hts, hK, hN, hT⟩ := C
  subst hl
  simp only [stp] at hs
  split at hs
  · rename_i hq
    obtain ⟨rfl, rfl, rfl, rfl, rfl⟩ := some5 hs
    exact WH.keep ⟨hx, hb, hml, hown, hts, hK, hN, hT⟩ (fun ol os _ => by exact okS_cons.mpr ⟨ol _ _ hq, os⟩) (fun H locs ls hP hS hL _ os oh k => lv_aload_n hx hb hd rfl (hL.2.2.2 _ _ hq) k) w
  · cases hs
theorem sp_aload {n : Nat} (C : Cx Γ p s m args c cc nL own) (ho : own < 18) (hd : decode cc pc = .ok (.aload n, len)) (hl : len = ilen (.aload n)) (hs : stp own (pc, .aload n, len) lv st h = some (pc', lv', st', h', g)) (hg : g) (w : WH Γ p e R s m args below meth c nL Q pc' lv' st' h') : WH Γ p e R s m args below meth c nL Q pc lv st h := by
  obtain ⟨hx, hb, hml, hown, hts, hK, hN, hT⟩ := C
  subst hl
  simp only [stp] at hs
  split at hs
  · rename_i hq
    obtain ⟨rfl, rfl, rfl, rfl, rfl⟩ := some5 hs
    exact WH.keep ⟨hx, hb, hml, hown, hts, hK, hN, hT⟩ (fun ol os _ => by exact okS_cons.mpr ⟨ol _ _ hq, os⟩) (fun H locs ls hP hS hL _ os oh k => lv_aload hx hb hd (hL.2.2.2 _ _ hq) k) w
  · cases hs
theorem sp_istore_n {n : Fin 4} (C : Cx Γ p s m args c cc nL own) (ho : own < 18) (hd : decode cc pc = .ok (.istore_n n, len)) (hl : len = ilen (.istore_n n)) (hs : stp own (pc, .istore_n n, len) lv st h = some (pc', lv', st', h', g)) (hg : g) (w : WH Γ p e R s m args below meth c nL Q pc' lv' st' h') : WH Γ p e R s m args below meth c nL Q pc lv st h := by
  obtain ⟨hx, hb, hml, hown, hts, hK, hN, hT⟩ := C
  subst hl
  simp only [stp] at hs
  split at hs
  · split at hs
    · rename_i y st0 hq
      obtain ⟨rfl, rfl, rfl, rfl, rfl⟩ := some5 hs
      intro oh ol os H locs ls hP hD hS hL
      have ov := (okS_cons.mp os).1
      refine lv_istore_n hx hb hd rfl (hasL_asc hL) (by have := hL.2.2.1; omega) rfl (fun ls' hl' => ?_)
      exact w oh (okL_s1 ol ov) (okS_cons.mp os).2 H locs ls' hP hD hS (hasL_s1 (Γ := Γ) hL.2.2.1 (by have := hL.2.2.1; omega) hl')
    · cases hs
  · cases hs
theorem sp_istore {n : Nat} (C : Cx Γ p s m args c cc nL own) (ho : own < 18) (hd : decode cc pc = .ok (.istore n, len)) (hl : len = ilen (.istore n)) (hs : stp own (pc, .istore n, len) lv st h = some (pc', lv', st', h', g)) (hg : g) (w : WH Γ p e R s m args below meth c nL Q pc' lv' st' h') : WH Γ p e R s m args below meth c nL Q pc lv st h := by
  obtain ⟨hx, hb, hml, hown, hts, hK, hN, hT⟩ := C
  subst hl
  simp only [stp] at hs
  split at hs
  · split at hs
    · rename_i y st0 hq
      obtain ⟨rfl, rfl, rfl, rfl, rfl⟩ := some5 hs
      intro oh ol os H locs ls hP hD hS hL
      have ov := (okS_cons.mp os).1
      refine lv_istore hx hb hd (hasL_asc hL) (by have := hL.2.2.1; omega) rfl (fun ls' hl' => ?_)
      exact w oh (okL_s1 ol ov) (okS_cons.mp os).2 H locs ls' hP hD hS (hasL_s1 (Γ := Γ) hL.2.2.1 (by have := hL.2.2.1; omega) hl')
    · cases hs
  · cases hs
theorem sp_lstore_n {n : Fin 4} (C : Cx Γ p s m args c cc nL own) (ho : own < 18) (hd : decode cc pc = .ok (.lstore_n n, len)) (hl : len = ilen (.lstore_n n)) (hs : stp own (pc, .lstore_n n, len) lv st h = some (pc', lv', st', h', g)) (hg : g) (w : WH Γ p e R s m args below meth c nL Q pc' lv' st' h') : WH Γ p e R s m args below meth c nL Q pc lv st h := by
  obtain ⟨hx, hb, hml, hown, hts, hK, hN, hT⟩ := C
  subst hl
  simp only [stp] at hs
  split at hs
  · split at hs
    · rename_i y st0 hq
      obtain ⟨rfl, rfl, rfl, rfl, rfl⟩ := some5 hs
      intro oh ol os H locs ls hP hD hS hL
      have ov := (okS_cons.mp os).1
      refine lv_lstore_n hx hb hd rfl (hasL_asc hL) (by have := hL.2.2.1; omega) rfl (fun ls' hl' => ?_)
      exact w oh (okL_s2 ol ov) (okS_cons.mp os).2 H locs ls' hP hD hS (hasL_s2 (Γ := Γ) hL.2.2.1 (by have := hL.2.2.1; omega) hl')
    · cases hs
  · cases hs
theorem sp_lstore {n : Nat} (C : Cx Γ p s m args c cc nL own) (ho : own < 18) (hd : decode cc pc = .ok (.lstore n, len)) (hl : len = ilen (.lstore n)) (hs : stp own (pc, .lstore n, len) lv st h = some (pc', lv', st', h', g)) (hg : g) (w : WH Γ p e R s m args below meth c nL Q pc' lv' st' h') : WH Γ p e R s m args below meth c nL Q pc lv st h := by
  obtain ⟨hx, hb, hml, hown, hts, hK, hN, hT⟩ := C
  subst hl
  simp only [stp] at hs
  split at hs
  · split at hs
    · rename_i y st0 hq
      obtain ⟨rfl, rfl, rfl, rfl, rfl⟩ := some5 hs
      intro oh ol os H locs ls hP hD hS hL
      have ov := (okS_cons.mp os).1
      refine lv_lstore hx hb hd (hasL_asc hL) (by have := hL.2.2.1; omega) rfl (fun ls' hl' => ?_)
      exact w oh (okL_s2 ol ov) (okS_cons.mp os).2 H locs ls' hP hD hS (hasL_s2 (Γ := Γ) hL.2.2.1 (by have := hL.2.2.1; omega) hl')
    · cases hs
  · cases hs
theorem sp_astore_n {n : Fin 4} (C : Cx Γ p s m args c cc nL own) (ho : own < 18) (hd : decode cc pc = .ok (.astore_n n, len)) (hl : len = ilen (.astore_n n)) (hs : stp own (pc, .astore_n n, len) lv st h = some (pc', lv', st', h', g)) (hg : g) (w : WH Γ p e R s m args below meth c nL Q pc' lv' st' h') : WH Γ p e R s m args below meth c nL Q pc lv st h := by
  obtain ⟨hx, hb, hml, hown, hts, hK, hN, hT⟩ := C
  subst hl
  simp only [stp] at hs
  split at hs
  · split at hs
    · rename_i y st0 hq
      obtain ⟨rfl, rfl, rfl, rfl, rfl⟩ := some5 hs
      intro oh ol os H locs ls hP hD hS hL
      have ov := (okS_cons.mp os).1
      refine lv_astore_n hx hb hd rfl (hasL_asc hL) (by have := hL.2.2.1; omega) rfl (fun ls' hl' => ?_)
      exact w oh (okL_s1 ol ov) (okS_cons.mp os).2 H locs ls' hP hD hS (hasL_s1 (Γ := Γ) hL.2.2.1 (by have := hL.2.2.1; omega) hl')
    · cases hs
  · cases hs
theorem sp_astore {n : Nat} (C : Cx Γ p s m args c cc nL own) (ho : own < 18) (hd : decode cc pc = .ok (.astore n, len)) (hl : len = ilen (.astore n)) (hs : stp own (pc, .astore n, len) lv st h = some (pc', lv', st', h', g)) (hg : g) (w : WH Γ p e R s m args below meth c nL Q pc' lv' st' h') : WH Γ p e R s m args below meth c nL Q pc lv st h := by
  obtain ⟨hx, hb, hml, hown, hts, hK, hN, hT⟩ := C
  subst hl
  simp only [stp] at hs
  split at hs
  · split at hs
    · rename_i y st0 hq
      obtain ⟨rfl, rfl, rfl, rfl, rfl⟩ := some5 hs
      intro oh ol os H locs ls hP hD hS hL
      have ov := (okS_cons.mp os).1
      refine lv_astore hx hb hd (hasL_asc hL) (by have := hL.2.2.1; omega) rfl (fun ls' hl' => ?_)
      exact w oh (okL_s1 ol ov) (okS_cons.mp os).2 H locs ls' hP hD hS (hasL_s1 (Γ := Γ) hL.2.2.1 (by have := hL.2.2.1; omega) hl')
    · cases hs
  · cases hs
theorem sp_iinc {k : Nat} {n : Int} (C : Cx Γ p s m args c cc nL own) (ho : own < 18) (hd : decode cc pc = .ok (.iinc k n, len)) (hl : len = ilen (.iinc k n)) (hs : stp own (pc, .iinc k n, len) lv st h = some (pc', lv', st', h', g)) (hg : g) (w : WH Γ p e R s m args below meth c nL Q pc' lv' st' h') : WH Γ p e R s m args below meth c nL Q pc lv st h := by
  obtain ⟨hx, hb, hml, hown, hts, hK, hN, hT⟩ := C
  subst hl
  simp only [stp] at hs
  split at hs
  · rename_i y hq
    split at hs
    · rename_i hk
      obtain ⟨rfl, rfl, rfl, rfl, rfl⟩ := some5 hs
      intro oh ol os H locs ls hP hD hS hL
      obtain ⟨j, hj⟩ := List.mem_iff_getElem?.mp (asc_mem (Γ := Γ) hq)
      refine lv_iinc hx hb hd (hasL_asc hL) (k := j) hj rfl (by have := hL.2.2.1; omega) rfl (fun ls' hl' => ?_)
      exact w oh (okL_s1 ol trivial) os H locs ls' hP hD hS (hasL_s1 (Γ := Γ) (v := vi (y + ii n)) hL.2.2.1 (by have := hL.2.2.1; omega) hl')
    · cases hs
  · cases hs
theorem sp_iadd (C : Cx Γ p s m args c cc nL own) (ho : own < 18) (hd : decode cc pc = .ok (.iadd, len)) (hl : len = ilen (.iadd)) (hs : stp own (pc, .iadd, len) lv st h = some (pc', lv', st', h', g)) (hg : g) (w : WH Γ p e R s m args below meth c nL Q pc' lv' st' h') : WH Γ p e R s m args below meth c nL Q pc lv st h := by
  obtain ⟨hx, hb, hml, hown, hts, hK, hN, hT⟩ := C
  subst hl
  simp only [stp] at hs
  split at hs
  · obtain ⟨rfl, rfl, rfl, rfl, rfl⟩ := some5 hs
    exact WH.keep ⟨hx, hb, hml, hown, hts, hK, hN, hT⟩ (fun _ os _ => by simp only [okS_cons] at os ⊢; exact ⟨trivial, os.2.2⟩) (fun H locs ls hP hS hL _ os oh k => lv_iadd hx hb hd k) w
  · cases hs
theorem sp_isub (C : Cx Γ p s m args c cc nL own) (ho : own < 18) (hd : decode cc pc = .ok (.isub, len)) (hl : len = ilen (.isub)) (hs : stp own (pc, .isub, len) lv st h = some (pc', lv', st', h', g)) (hg : g) (w : WH Γ p e R s m args below meth c nL Q pc' lv' st' h') : WH Γ p e R s m args below meth c nL Q pc lv st h := by
  obtain ⟨hx, hb, hml, hown, hts, hK, hN, hT⟩ := C
  subst hl
  simp only [stp] at hs
  split at hs
  · obtain ⟨rfl, rfl, rfl, rfl, rfl⟩ := some5 hs
    exact WH.keep ⟨hx, hb, hml, hown, hts, hK, hN, hT⟩ (fun _ os _ => by simp only [okS_cons] at os ⊢; exact ⟨trivial, os.2.2⟩) (fun H locs ls hP hS hL _ os oh k => lv_isub hx hb hd k) w
  · cases hs
theorem sp_imul (C : Cx Γ p s m args c cc nL own) (ho : own < 18) (hd : decode cc pc = .ok (.imul, len)) (hl : len = ilen (.imul)) (hs : stp own (pc, .imul, len) lv st h = some (pc', lv', st', h', g)) (hg : g) (w : WH Γ p e R s m args below meth c nL Q pc' lv' st' h') : WH Γ p e R s m args below meth c nL Q pc lv st h := by
  obtain ⟨hx, hb, hml, hown, hts, hK, hN, hT⟩ := C
  subst hl
  simp only [stp] at hs
  split at hs
  · obtain ⟨rfl, rfl, rfl, rfl, rfl⟩ := some5 hs
    exact WH.keep ⟨hx, hb, hml, hown, hts, hK, hN, hT⟩ (fun _ os _ => by simp only [okS_cons] at os ⊢; exact ⟨trivial, os.2.2⟩) (fun H locs ls hP hS hL _ os oh k => lv_imul hx hb hd k) w
  · cases hs
theorem sp_iand (C : Cx Γ p s m args c cc nL own) (ho : own < 18) (hd : decode cc pc = .ok (.iand, len)) (hl : len = ilen (.iand)) (hs : stp own (pc, .iand, len) lv st h = some (pc', lv', st', h', g)) (hg : g) (w : WH Γ p e R s m args below meth c nL Q pc' lv' st' h') : WH Γ p e R s m args below meth c nL Q pc lv st h := by
  obtain ⟨hx, hb, hml, hown, hts, hK, hN, hT⟩ := C
  subst hl
  simp only [stp] at hs
  split at hs
  · obtain ⟨rfl, rfl, rfl, rfl, rfl⟩ := some5 hs
    exact WH.keep ⟨hx, hb, hml, hown, hts, hK, hN, hT⟩ (fun _ os _ => by simp only [okS_cons] at os ⊢; exact ⟨trivial, os.2.2⟩) (fun H locs ls hP hS hL _ os oh k => lv_iand hx hb hd k) w
  · cases hs
theorem sp_ior (C : Cx Γ p s m args c cc nL own) (ho : own < 18) (hd : decode cc pc = .ok (.ior, len)) (hl : len = ilen (.ior)) (hs : stp own (pc, .ior, len) lv st h = some (pc', lv', st', h', g)) (hg : g) (w : WH Γ p e R s m args below meth c nL Q pc' lv' st' h') : WH Γ p e R s m args below meth c nL Q pc lv st h := by
  obtain ⟨hx, hb, hml, hown, hts, hK, hN, hT⟩ := C
  subst hl
  simp only [stp] at hs
  split at hs
  · obtain ⟨rfl, rfl, rfl, rfl, rfl⟩ := some5 hs
    exact WH.keep ⟨hx, hb, hml, hown, hts, hK, hN, hT⟩ (fun _ os _ => by simp only [okS_cons] at os ⊢; exact ⟨trivial, os.2.2⟩) (fun H locs ls hP hS hL _ os oh k => lv_ior hx hb hd k) w
  · cases hs
theorem sp_ixor (C : Cx Γ p s m args c cc nL own) (ho : own < 18) (hd : decode cc pc = .ok (.ixor, len)) (hl : len = ilen (.ixor)) (hs : stp own (pc, .ixor, len) lv st h = some (pc', lv', st', h', g)) (hg : g) (w : WH Γ p e R s m args below meth c nL Q pc' lv' st' h') : WH Γ p e R s m args below meth c nL Q pc lv st h := by
  obtain ⟨hx, hb, hml, hown, hts, hK, hN, hT⟩ := C
  subst hl
  simp only [stp] at hs
  split at hs
  · obtain ⟨rfl, rfl, rfl, rfl, rfl⟩ := some5 hs
    exact WH.keep ⟨hx, hb, hml, hown, hts, hK, hN, hT⟩ (fun _ os _ => by simp only [okS_cons] at os ⊢; exact ⟨trivial, os.2.2⟩) (fun H locs ls hP hS hL _ os oh k => lv_ixor hx hb hd k) w
  · cases hs
theorem sp_ishl (C : Cx Γ p s m args c cc nL own) (ho : own < 18) (hd : decode cc pc = .ok (.ishl, len)) (hl : len = ilen (.ishl)) (hs : stp own (pc, .ishl, len) lv st h = some (pc', lv', st', h', g)) (hg : g) (w : WH Γ p e R s m args below meth c nL Q pc' lv' st' h') : WH Γ p e R s m args below meth c nL Q pc lv st h := by
  obtain ⟨hx, hb, hml, hown, hts, hK, hN, hT⟩ := C
  subst hl
  simp only [stp] at hs
  split at hs
  · obtain ⟨rfl, rfl, rfl, rfl, rfl⟩ := some5 hs
    exact WH.keep ⟨hx, hb, hml, hown, hts, hK, hN, hT⟩ (fun _ os _ => by simp only [okS_cons] at os ⊢; exact ⟨trivial, os.2.2⟩) (fun H locs ls hP hS hL _ os oh k => lv_ishl hx hb hd k) w
  · cases hs
theorem sp_ishr (C : Cx Γ p s m args c cc nL own) (ho : own < 18) (hd : decode cc pc = .ok (.ishr, len)) (hl : len = ilen (.ishr)) (hs : stp own (pc, .ishr, len) lv st h = some (pc', lv', st', h', g)) (hg : g) (w : WH Γ p e R s m args below meth c nL Q pc' lv' st' h') : WH Γ p e R s m args below meth c nL Q pc lv st h := by
  obtain ⟨hx, hb, hml, hown, hts, hK, hN, hT⟩ := C
  subst hl
  simp only [stp] at hs
  split at hs
  · obtain ⟨rfl, rfl, rfl, rfl, rfl⟩ := some5 hs
    exact WH.keep ⟨hx, hb, hml, hown, hts, hK, hN, hT⟩ (fun _ os _ => by simp only [okS_cons] at os ⊢; exact ⟨trivial, os.2.2⟩) (fun H locs ls hP hS hL _ os oh k => lv_ishr hx hb hd k) w
  · cases hs
theorem sp_ladd (C : Cx Γ p s m args c cc nL own) (ho : own < 18) (hd : decode cc pc = .ok (.ladd, len)) (hl : len = ilen (.ladd)) (hs : stp own (pc, .ladd, len) lv st h = some (pc', lv', st', h', g)) (hg : g) (w : WH Γ p e R s m args below meth c nL Q pc' lv' st' h') : WH Γ p e R s m args below meth c nL Q pc lv st h := by
  obtain ⟨hx, hb, hml, hown, hts, hK, hN, hT⟩ := C
  subst hl
  simp only [stp] at hs
  split at hs
  · obtain ⟨rfl, rfl, rfl, rfl, rfl⟩ := some5 hs
    exact WH.keep ⟨hx, hb, hml, hown, hts, hK, hN, hT⟩ (fun _ os _ => by simp only [okS_cons] at os ⊢; exact ⟨trivial, os.2.2⟩) (fun H locs ls hP hS hL _ os oh k => lv_ladd hx hb hd k) w
  · cases hs
theorem sp_lsub (C : Cx Γ p s m args c cc nL own) (ho : own < 18) (hd : decode cc pc = .ok (.lsub, len)) (hl : len = ilen (.lsub)) (hs : stp own (pc, .lsub, len) lv st h = some (pc', lv', st', h', g)) (hg : g) (w : WH Γ p e R s m args below meth c nL Q pc' lv' st' h') : WH Γ p e R s m args below meth c nL Q pc lv st h := by
  obtain ⟨hx, hb, hml, hown, hts, hK, hN, hT⟩ := C
  subst hl
  simp only [stp] at hs
  split at hs
  · obtain ⟨rfl, rfl, rfl, rfl, rfl⟩ := some5 hs
    exact WH.keep ⟨hx, hb, hml, hown, hts, hK, hN, hT⟩ (fun _ os _ => by simp only [okS_cons] at os ⊢; exact ⟨trivial, os.2.2⟩) (fun H locs ls hP hS hL _ os oh k => lv_lsub hx hb hd k) w
  · cases hs
theorem sp_lmul (C : Cx Γ p s m args c cc nL own) (ho : own < 18) (hd : decode cc pc = .ok (.lmul, len)) (hl : len = ilen (.lmul)) (hs : stp own (pc, .lmul, len) lv st h = some (pc', lv', st', h', g)) (hg : g) (w : WH Γ p e R s m args below meth c nL Q pc' lv' st' h') : WH Γ p e R s m args below meth c nL Q pc lv st h := by
  obtain ⟨hx, hb, hml, hown, hts, hK, hN, hT⟩ := C
  subst hl
  simp only [stp] at hs
  split at hs
  · obtain ⟨rfl, rfl, rfl, rfl, rfl⟩ := some5 hs
    exact WH.keep ⟨hx, hb, hml, hown, hts, hK, hN, hT⟩ (fun _ os _ => by simp only [okS_cons] at os ⊢; exact ⟨trivial, os.2.2⟩) (fun H locs ls hP hS hL _ os oh k => lv_lmul hx hb hd k) w
  · cases hs
theorem sp_land (C : Cx Γ p s m args c cc nL own) (ho : own < 18) (hd : decode cc pc = .ok (.land, len)) (hl : len = ilen (.land)) (hs : stp own (pc, .land, len) lv st h = some (pc', lv', st', h', g)) (hg : g) (w : WH Γ p e R s m args below meth c nL Q pc' lv' st' h') : WH Γ p e R s m args below meth c nL Q pc lv st h := by
  obtain ⟨hx, hb, hml, hown, hts, hK, hN, hT⟩ := C
  subst hl
  simp only [stp] at hs
  split at hs
  · obtain ⟨rfl, rfl, rfl, rfl, rfl⟩ := some5 hs
    exact WH.keep ⟨hx, hb, hml, hown, hts, hK, hN, hT⟩ (fun _ os _ => by simp only [okS_cons] at os ⊢; exact ⟨trivial, os.2.2⟩) (fun H locs ls hP hS hL _ os oh k => lv_land hx hb hd k) w
  · cases hs
theorem sp_lor (C : Cx Γ p s m args c cc nL own) (ho : own < 18) (hd : decode cc pc = .ok (.lor, len)) (hl : len = ilen (.lor)) (hs : stp own (pc, .lor, len) lv st h = some (pc', lv', st', h', g)) (hg : g) (w : WH Γ p e R s m args below meth c nL Q pc' lv' st' h') : WH Γ p e R s m args below meth c nL Q pc lv st h := by
  obtain ⟨hx, hb, hml, hown, hts, hK, hN, hT⟩ := C
  subst hl
  simp only [stp] at hs
  split at hs
  · obtain ⟨rfl, rfl, rfl, rfl, rfl⟩ := some5 hs
    exact WH.keep ⟨hx, hb, hml, hown, hts, hK, hN, hT⟩ (fun _ os _ => by simp only [okS_cons] at os ⊢; exact ⟨trivial, os.2.2⟩) (fun H locs ls hP hS hL _ os oh k => lv_lor hx hb hd k) w
  · cases hs
theorem sp_iushr (C : Cx Γ p s m args c cc nL own) (ho : own < 18) (hd : decode cc pc = .ok (.iushr, len)) (hl : len = ilen (.iushr)) (hs : stp own (pc, .iushr, len) lv st h = some (pc', lv', st', h', g)) (hg : g) (w : WH Γ p e R s m args below meth c nL Q pc' lv' st' h') : WH Γ p e R s m args below meth c nL Q pc lv st h := by
  obtain ⟨hx, hb, hml, hown, hts, hK, hN, hT⟩ := C
  subst hl
  simp only [stp] at hs
  split at hs
  · obtain ⟨rfl, rfl, rfl, rfl, rfl⟩ := some5 hs
    exact WH.keep ⟨hx, hb, hml, hown, hts, hK, hN, hT⟩ (fun _ os _ => by simp only [okS_cons] at os ⊢; exact ⟨trivial, os.2.2⟩) (fun H locs ls hP hS hL _ os oh k => lv_iushr hx hb hd rfl k) w
  · cases hs
theorem sp_lushr (C : Cx Γ p s m args c cc nL own) (ho : own < 18) (hd : decode cc pc = .ok (.lushr, len)) (hl : len = ilen (.lushr)) (hs : stp own (pc, .lushr, len) lv st h = some (pc', lv', st', h', g)) (hg : g) (w : WH Γ p e R s m args below meth c nL Q pc' lv' st' h') : WH Γ p e R s m args below meth c nL Q pc lv st h := by
  obtain ⟨hx, hb, hml, hown, hts, hK, hN, hT⟩ := C
  subst hl
  simp only [stp] at hs
  split at hs
  · obtain ⟨rfl, rfl, rfl, rfl, rfl⟩ := some5 hs
    exact WH.keep ⟨hx, hb, hml, hown, hts, hK, hN, hT⟩ (fun _ os _ => by simp only [okS_cons] at os ⊢; exact ⟨trivial, os.2.2⟩) (fun H locs ls hP hS hL _ os oh k => lv_lushr hx hb hd rfl k) w
  · cases hs
theorem sp_lshl (C : Cx Γ p s m args c cc nL own) (ho : own < 18) (hd : decode cc pc = .ok (.lshl, len)) (hl : len = ilen (.lshl)) (hs : stp own (pc, .lshl, len) lv st h = some (pc', lv', st', h', g)) (hg : g) (w : WH Γ p e R s m args below meth c nL Q pc' lv' st' h') : WH Γ p e R s m args below meth c nL Q pc lv st h := by
  obtain ⟨hx, hb, hml, hown, hts, hK, hN, hT⟩ := C
  subst hl
  simp only [stp] at hs
  split at hs
  · obtain ⟨rfl, rfl, rfl, rfl, rfl⟩ := some5 hs
    exact WH.keep ⟨hx, hb, hml, hown, hts, hK, hN, hT⟩ (fun _ os _ => by simp only [okS_cons] at os ⊢; exact ⟨trivial, os.2.2⟩) (fun H locs ls hP hS hL _ os oh k => lv_lshl hx hb hd rfl k) w
  · cases hs
theorem sp_idiv (C : Cx Γ p s m args c cc nL own) (ho : own < 18) (hd : decode cc pc = .ok (.idiv, len)) (hl : len = ilen (.idiv)) (hs : stp own (pc, .idiv, len) lv st h = some (pc', lv', st', h', g)) (hg : g) (w : WH Γ p e R s m args below meth c nL Q pc' lv' st' h') : WH Γ p e R s m args below meth c nL Q pc lv st h := by
  obtain ⟨hx, hb, hml, hown, hts, hK, hN, hT⟩ := C
  subst hl
  simp only [stp] at hs
  split at hs
  · obtain ⟨rfl, rfl, rfl, rfl, rfl⟩ := some5 hs
    exact WH.keep ⟨hx, hb, hml, hown, hts, hK, hN, hT⟩ (fun _ os _ => by simp only [okS_cons] at os ⊢; exact ⟨trivial, os.2.2⟩) (fun H locs ls hP hS hL _ os oh k => lv_idiv hx hb hd hg k) w
  · cases hs
theorem sp_irem (C : Cx Γ p s m args c cc nL own) (ho : own < 18) (hd : decode cc pc = .ok (.irem, len)) (hl : len = ilen (.irem)) (hs : stp own (pc, .irem, len) lv st h = some (pc', lv', st', h', g)) (hg : g) (w : WH Γ p e R s m args below meth c nL Q pc' lv' st' h') : WH Γ p e R s m args below meth c nL Q pc lv st h := by
  obtain ⟨hx, hb, hml, hown, hts, hK, hN, hT⟩ := C
  subst hl
  simp only [stp] at hs
  split at hs
  · obtain ⟨rfl, rfl, rfl, rfl, rfl⟩ := some5 hs
    exact WH.keep ⟨hx, hb, hml, hown, hts, hK, hN, hT⟩ (fun _ os _ => by simp only [okS_cons] at os ⊢; exact ⟨trivial, os.2.2⟩) (fun H locs ls hP hS hL _ os oh k => lv_irem hx hb hd hg k) w
  · cases hs
theorem sp_ldiv (C : Cx Γ p s m args c cc nL own) (ho : own < 18) (hd : decode cc pc = .ok (.ldiv, len)) (hl : len = ilen (.ldiv)) (hs : stp own (pc, .ldiv, len) lv st h = some (pc', lv', st', h', g)) (hg : g) (w : WH Γ p e R s m args below meth c nL Q pc' lv' st' h') : WH Γ p e R s m args below meth c nL Q pc lv st h := by
  obtain ⟨hx, hb, hml, hown, hts, hK, hN, hT⟩ := C
  subst hl
  simp only [stp] at hs
  split at hs
  · obtain ⟨rfl, rfl, rfl, rfl, rfl⟩ := some5 hs
    exact WH.keep ⟨hx, hb, hml, hown, hts, hK, hN, hT⟩ (fun _ os _ => by simp only [okS_cons] at os ⊢; exact ⟨trivial, os.2.2⟩) (fun H locs ls hP hS hL _ os oh k => lv_ldiv hx hb hd hg k) w
  · cases hs
theorem sp_lrem (C : Cx Γ p s m args c cc nL own) (ho : own < 18) (hd : decode cc pc = .ok (.lrem, len)) (hl : len = ilen (.lrem)) (hs : stp own (pc, .lrem, len) lv st h = some (pc', lv', st', h', g)) (hg : g) (w : WH Γ p e R s m args below meth c nL Q pc' lv' st' h') : WH Γ p e R s m args below meth c nL Q pc lv st h := by
  obtain ⟨hx, hb, hml, hown, hts, hK, hN, hT⟩ := C
  subst hl
  simp only [stp] at hs
  split at hs
  · obtain ⟨rfl, rfl, rfl, rfl, rfl⟩ := some5 hs
    exact WH.keep ⟨hx, hb, hml, hown, hts, hK, hN, hT⟩ (fun _ os _ => by simp only [okS_cons] at os ⊢; exact ⟨trivial, os.2.2⟩) (fun H locs ls hP hS hL _ os oh k => lv_lrem hx hb hd hg k) w
  · cases hs
theorem sp_lcmp (C : Cx Γ p s m args c cc nL own) (ho : own < 18) (hd : decode cc pc = .ok (.lcmp, len)) (hl : len = ilen (.lcmp)) (hs : stp own (pc, .lcmp, len) lv st h = some (pc', lv', st', h', g)) (hg : g) (w : WH Γ p e R s m args below meth c nL Q pc' lv' st' h') : WH Γ p e R s m args below meth c nL Q pc lv st h := by
  obtain ⟨hx, hb, hml, hown, hts, hK, hN, hT⟩ := C
  subst hl
  simp only [stp] at hs
  split at hs
  · obtain ⟨rfl, rfl, rfl, rfl, rfl⟩ := some5 hs
    exact WH.keep ⟨hx, hb, hml, hown, hts, hK, hN, hT⟩ (fun _ os _ => by simp only [okS_cons] at os ⊢; exact ⟨trivial, os.2.2⟩) (fun H locs ls hP hS hL _ os oh k => W.lcmp hx hb hd k) w
  · cases hs
theorem sp_ineg (C : Cx Γ p s m args c cc nL own) (ho : own < 18) (hd : decode cc pc = .ok (.ineg, len)) (hl : len = ilen (.ineg)) (hs : stp own (pc, .ineg, len) lv st h = some (pc', lv', st', h', g)) (hg : g) (w : WH Γ p e R s m args below meth c nL Q pc' lv' st' h') : WH Γ p e R s m args below meth c nL Q pc lv st h := by
  obtain ⟨hx, hb, hml, hown, hts, hK, hN, hT⟩ := C
  subst hl
  simp only [stp] at hs
  split at hs
  · obtain ⟨rfl, rfl, rfl, rfl, rfl⟩ := some5 hs
    exact WH.keep ⟨hx, hb, hml, hown, hts, hK, hN, hT⟩ (fun _ os _ => by simp only [okS_cons] at os ⊢; exact ⟨trivial, os.2⟩) (fun H locs ls hP hS hL _ os oh k => lv_ineg hx hb hd k) w
  · cases hs
theorem sp_i2l (C : Cx Γ p s m args c cc nL own) (ho : own < 18) (hd : decode cc pc = .ok (.i2l, len)) (hl : len = ilen (.i2l)) (hs : stp own (pc, .i2l, len) lv st h = some (pc', lv', st', h', g)) (hg : g) (w : WH Γ p e R s m args below meth c nL Q pc' lv' st' h') : WH Γ p e R s m args below meth c nL Q pc lv st h := by
  obtain ⟨hx, hb, hml, hown, hts, hK, hN, hT⟩ := C
  subst hl
  simp only [stp] at hs
  split at hs
  · obtain ⟨rfl, rfl, rfl, rfl, rfl⟩ := some5 hs
    exact WH.keep ⟨hx, hb, hml, hown, hts, hK, hN, hT⟩ (fun _ os _ => by simp only [okS_cons] at os ⊢; exact ⟨trivial, os.2⟩) (fun H locs ls hP hS hL _ os oh k => lv_i2l hx hb hd rfl k) w
  · cases hs
theorem sp_l2i (C : Cx Γ p s m args c cc nL own) (ho : own < 18) (hd : decode cc pc = .ok (.l2i, len)) (hl : len = ilen (.l2i)) (hs : stp own (pc, .l2i, len) lv st h = some (pc', lv', st', h', g)) (hg : g) (w : WH Γ p e R s m args below meth c nL Q pc' lv' st' h') : WH Γ p e R s m args below meth c nL Q pc lv st h := by
  obtain ⟨hx, hb, hml, hown, hts, hK, hN, hT⟩ := C
  subst hl
  simp only [stp] at hs
  split at hs
  · obtain ⟨rfl, rfl, rfl, rfl, rfl⟩ := some5 hs
    exact WH.keep ⟨hx, hb, hml, hown, hts, hK, hN, hT⟩ (fun _ os _ => by simp only [okS_cons] at os ⊢; exact ⟨trivial, os.2⟩) (fun H locs ls hP hS hL _ os oh k => lv_l2i hx hb hd rfl k) w
  · cases hs
theorem sp_i2b (C : Cx Γ p s m args c cc nL own) (ho : own < 18) (hd : decode cc pc = .ok (.i2b, len)) (hl : len = ilen (.i2b)) (hs : stp own (pc, .i2b, len) lv st h = some (pc', lv', st', h', g)) (hg : g) (w : WH Γ p e R s m args below meth c nL Q pc' lv' st' h') : WH Γ p e R s m args below meth c nL Q pc lv st h := by
  obtain ⟨hx, hb, hml, hown, hts, hK, hN, hT⟩ := C
  subst hl
  simp only [stp] at hs
  split at hs
  · obtain ⟨rfl, rfl, rfl, rfl, rfl⟩ := some5 hs
    exact WH.keep ⟨hx, hb, hml, hown, hts, hK, hN, hT⟩ (fun _ os _ => by simp only [okS_cons] at os ⊢; exact ⟨trivial, os.2⟩) (fun H locs ls hP hS hL _ os oh k => lv_i2b hx hb hd rfl k) w
  · cases hs
theorem sp_i2c (C : Cx Γ p s m args c cc nL own) (ho : own < 18) (hd : decode cc pc = .ok (.i2c, len)) (hl : len = ilen (.i2c)) (hs : stp own (pc, .i2c, len) lv st h = some (pc', lv', st', h', g)) (hg : g) (w : WH Γ p e R s m args below meth c nL Q pc' lv' st' h') : WH Γ p e R s m args below meth c nL Q pc lv st h := by
  obtain ⟨hx, hb, hml, hown, hts, hK, hN, hT⟩ := C
  subst hl
  simp only [stp] at hs
  split at hs
  · obtain ⟨rfl, rfl, rfl, rfl, rfl⟩ := some5 hs
    exact WH.keep ⟨hx, hb, hml, hown, hts, hK, hN, hT⟩ (fun _ os _ => by simp only [okS_cons] at os ⊢; exact ⟨trivial, os.2⟩) (fun H locs ls hP hS hL _ os oh k => lv_i2c hx hb hd rfl k) w
  · cases hs
theorem sp_dup (C : Cx Γ p s m args c cc nL own) (ho : own < 18) (hd : decode cc pc = .ok (.dup, len)) (hl : len = ilen (.dup)) (hs : stp own (pc, .dup, len) lv st h = some (pc', lv', st', h', g)) (hg : g) (w : WH Γ p e R s m args below meth c nL Q pc' lv' st' h') : WH Γ p e R s m args below meth c nL Q pc lv st h := by
  obtain ⟨hx, hb, hml, hown, hts, hK, hN, hT⟩ := C
  subst hl
  simp only [stp] at hs
  split at hs
  · split at hs
    · rename_i hq
      obtain ⟨rfl, rfl, rfl, rfl, rfl⟩ := some5 hs
      exact WH.keep ⟨hx, hb, hml, hown, hts, hK, hN, hT⟩ (fun _ os _ => by simp only [okS_cons] at os ⊢; exact ⟨os.1, os.1, os.2⟩) (fun H locs ls hP hS hL _ os oh k => lv_dup hx hb hd (by rw [cv_cat]; exact hq) k) w
    · cases hs
  · cases hs
theorem sp_pop (C : Cx Γ p s m args c cc nL own) (ho : own < 18) (hd : decode cc pc = .ok (.pop, len)) (hl : len = ilen (.pop)) (hs : stp own (pc, .pop, len) lv st h = some (pc', lv', st', h', g)) (hg : g) (w : WH Γ p e R s m args below meth c nL Q pc' lv' st' h') : WH Γ p e R s m args below meth c nL Q pc lv st h := by
  obtain ⟨hx, hb, hml, hown, hts, hK, hN, hT⟩ := C
  subst hl
  simp only [stp] at hs
  split at hs
  · split at hs
    · rename_i hq
      obtain ⟨rfl, rfl, rfl, rfl, rfl⟩ := some5 hs
      exact WH.keep ⟨hx, hb, hml, hown, hts, hK, hN, hT⟩ (fun _ os _ => (okS_cons.mp os).2) (fun H locs ls hP hS hL _ os oh k => lv_pop hx hb hd (by rw [cv_cat]; exact hq) k) w
    · cases hs
  · cases hs
theorem sp_dup2 (C : Cx Γ p s m args c cc nL own) (ho : own < 18) (hd : decode cc pc = .ok (.dup2, len)) (hl : len = ilen (.dup2)) (hs : stp own (pc, .dup2, len) lv st h = some (pc', lv', st', h', g)) (hg : g) (w : WH Γ p e R s m args below meth c nL Q pc' lv' st' h') : WH Γ p e R s m args below meth c nL Q pc lv st h := by
  obtain ⟨hx, hb, hml, hown, hts, hK, hN, hT⟩ := C
  subst hl
  simp only [stp] at hs
  split at hs
  · split at hs
    · rename_i hq
      obtain ⟨rfl, rfl, rfl, rfl, rfl⟩ := some5 hs
      exact WH.keep ⟨hx, hb, hml, hown, hts, hK, hN, hT⟩ (fun _ os _ => by simp only [okS_cons] at os ⊢; exact ⟨os.1, os.2.1, os.1, os.2.1, os.2.2⟩) (fun H locs ls hP hS hL _ os oh k => lv_dup2_11 hx hb hd (by rw [cv_cat]; exact hq.1) (by rw [cv_cat]; exact hq.2) k) w
    · cases hs
  · cases hs
theorem sp_dup_x1 (C : Cx Γ p s m args c cc nL own) (ho : own < 18) (hd : decode cc pc = .ok (.dup_x1, len)) (hl : len = ilen (.dup_x1)) (hs : stp own (pc, .dup_x1, len) lv st h = some (pc', lv', st', h', g)) (hg : g) (w : WH Γ p e R s m args below meth c nL Q pc' lv' st' h') : WH Γ p e R s m args below meth c nL Q pc lv st h := by
  obtain ⟨hx, hb, hml, hown, hts, hK, hN, hT⟩ := C
  subst hl
  simp only [stp] at hs
  split at hs
  · split at hs
    · rename_i hq
      obtain ⟨rfl, rfl, rfl, rfl, rfl⟩ := some5 hs
      exact WH.keep ⟨hx, hb, hml, hown, hts, hK, hN, hT⟩ (fun _ os _ => by simp only [okS_cons] at os ⊢; exact ⟨os.1, os.2.1, os.1, os.2.2⟩) (fun H locs ls hP hS hL _ os oh k => lv_dup_x1 hx hb hd (by rw [cv_cat]; exact hq.1) (by rw [cv_cat]; exact hq.2) k) w
    · cases hs
  · cases hs
theorem sp_ldc {k : Nat} (C : Cx Γ p s m args c cc nL own) (ho : own < 18) (hd : decode cc pc = .ok (.ldc k, len)) (hl : len = ilen (.ldc k)) (hs : stp own (pc, .ldc k, len) lv st h = some (pc', lv', st', h', g)) (hg : g) (w : WH Γ p e R s m args below meth c nL Q pc' lv' st' h') : WH Γ p e R s m args below meth c nL Q pc lv st h := by
  obtain ⟨hx, hb, hml, hown, hts, hK, hN, hT⟩ := C
  subst hl
  simp only [stp] at hs
  split at hs
  · rename_i n q hq
    obtain ⟨rfl, rfl, rfl, rfl, rfl⟩ := some5 hs
    have hm := fnd_mem hq
    have hw : Cond.constant (am_own.getD own "") k (ii n) ∈ gw := by
      have h1 := chC_ok own ho _ hm
      simp only [chC, if_true, decide_eq_true_eq] at h1
      exact gw_t _ h1 rfl
    exact WH.keep ⟨hx, hb, hml, hown, hts, hK, hN, hT⟩ (fun _ os _ => by exact okS_cons.mpr ⟨trivial, os⟩) (fun H locs ls hP hS hL _ os oh k => lv_ldc hx hb hown (hts _ hw) hd k) w
  · rename_i n q hq
    obtain ⟨rfl, rfl, rfl, rfl, rfl⟩ := some5 hs
    have hm := fnd_mem hq
    have hn : n.toNat < 10 := by
      have h1 := chC_ok own ho _ hm
      simpa [chC] using h1
    have hz := hT.2.1 own _ hm rfl
    exact WH.keep ⟨hx, hb, hml, hown, hts, hK, hN, hT⟩ (fun _ os _ => by exact okS_cons.mpr ⟨Or.inl ⟨rfl, rfl, hn⟩, os⟩) (fun H locs ls hP hS hL _ os oh k => by
      rw [List.map_cons, cv_str] at k
      exact va_ldcS hx hb hown hz hd k) w
  · cases hs
theorem sp_ldc_w {k : Nat} (C : Cx Γ p s m args c cc nL own) (ho : own < 18) (hd : decode cc pc = .ok (.ldc_w k, len)) (hl : len = ilen (.ldc_w k)) (hs : stp own (pc, .ldc_w k, len) lv st h = some (pc', lv', st', h', g)) (hg : g) (w : WH Γ p e R s m args below meth c nL Q pc' lv' st' h') : WH Γ p e R s m args below meth c nL Q pc lv st h := by
  obtain ⟨hx, hb, hml, hown, hts, hK, hN, hT⟩ := C
  subst hl
  simp only [stp] at hs
  split at hs
  · rename_i n q hq
    obtain ⟨rfl, rfl, rfl, rfl, rfl⟩ := some5 hs
    have hm := fnd_mem hq
    have hw : Cond.constant (am_own.getD own "") k (ii n) ∈ gw := by
      have h1 := chC_ok own ho _ hm
      simp only [chC, if_true, decide_eq_true_eq] at h1
      exact gw_t _ h1 rfl
    exact WH.keep ⟨hx, hb, hml, hown, hts, hK, hN, hT⟩ (fun _ os _ => by exact okS_cons.mpr ⟨trivial, os⟩) (fun H locs ls hP hS hL _ os oh k => lv_ldcw hx hb hown (hts _ hw) hd k) w
  · rename_i n q hq
    obtain ⟨rfl, rfl, rfl, rfl, rfl⟩ := some5 hs
    have hm := fnd_mem hq
    have hn : n.toNat < 10 := by
      have h1 := chC_ok own ho _ hm
      simpa [chC] using h1
    have hz := hT.2.1 own _ hm rfl
    exact WH.keep ⟨hx, hb, hml, hown, hts, hK, hN, hT⟩ (fun _ os _ => by exact okS_cons.mpr ⟨Or.inl ⟨rfl, rfl, hn⟩, os⟩) (fun H locs ls hP hS hL _ os oh k => by
      rw [List.map_cons, cv_str] at k
      exact am_ldcwS hx hb hown hz hd k) w
  · cases hs
theorem sp_ldc2_w {k : Nat} (C : Cx Γ p s m args c cc nL own) (ho : own < 18) (hd : decode cc pc = .ok (.ldc2_w k, len)) (hl : len = ilen (.ldc2_w k)) (hs : stp own (pc, .ldc2_w k, len) lv st h = some (pc', lv', st', h', g)) (hg : g) (w : WH Γ p e R s m args below meth c nL Q pc' lv' st' h') : WH Γ p e R s m args below meth c nL Q pc lv st h := by
  obtain ⟨hx, hb, hml, hown, hts, hK, hN, hT⟩ := C
  subst hl
  simp only [stp] at hs
  split at hs
  · rename_i n q hq
    obtain ⟨rfl, rfl, rfl, rfl, rfl⟩ := some5 hs
    have hw : Cond.constantLong (am_own.getD own "") k (Int64.ofInt n) ∈ gw := by
      have h1 := chL_ok own ho _ (fnd_mem hq)
      simp only [chL, decide_eq_true_eq] at h1
      exact gw_t _ h1 rfl
    exact WH.keep ⟨hx, hb, hml, hown, hts, hK, hN, hT⟩ (fun _ os _ => by exact okS_cons.mpr ⟨trivial, os⟩) (fun H locs ls hP hS hL _ os oh k => lv_ldc2 hx hb hown (hts _ hw) hd k) w
  · cases hs
theorem sp_goto {off : Int} (C : Cx Γ p s m args c cc nL own) (ho : own < 18) (hd : decode cc pc = .ok (.goto off, len)) (hl : len = ilen (.goto off)) (hs : stp own (pc, .goto off, len) lv st h = some (pc', lv', st', h', g)) (hg : g) (w : WH Γ p e R s m args below meth c nL Q pc' lv' st' h') : WH Γ p e R s m args below meth c nL Q pc lv st h := by
  obtain ⟨hx, hb, hml, hown, hts, hK, hN, hT⟩ := C
  subst hl
  simp only [stp] at hs
  split at hs
  · rename_i hq
    obtain ⟨rfl, rfl, rfl, rfl, rfl⟩ := some5 hs
    exact WH.keep ⟨hx, hb, hml, hown, hts, hK, hN, hT⟩ (fun _ os _ => os) (fun H locs ls hP hS hL _ os oh k => lv_goto hx hb hd (by rw [Int.toNat_of_nonneg hq]) k) w
  · cases hs
end STP
