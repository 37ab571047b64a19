/-! the law's turn: fork, put together -/
section FP
variable {Γ : AG} {p : Program} {e : Env} {R : Room} {s : State} {m : MethodId} {args : Array Value} {below : List Frame} {meth : Method} {c : Code} {Q : State → Prop} {b L i B : Nat} {xs : Nat → Int32} {S : ST} {h h1 h2 : AH} {cells slots pc : Nat} {ls : Array Slot} {st : List Value} {ws : va_W}
def headI : TI := [(438, .aload_n 1, 1), (451, .aload_n 3, 1), (452, .invokestatic 46, 3)]
theorem tk_head : tabOk code headI := by unfold tabOk; decide +kernel
theorem d_438 : decode code 438 = .ok (.aload_n 1, 1) := tk_head (438, .aload_n 1, 1) (List.mem_of_getElem? (i := 0) rfl)
theorem d_451 : decode code 451 = .ok (.aload_n 3, 1) := tk_head (451, .aload_n 3, 1) (List.mem_of_getElem? (i := 1) rfl)
theorem d_452 : decode code 452 = .ok (.invokestatic 46, 3) := tk_head (452, .invokestatic 46, 3) (List.mem_of_getElem? (i := 2) rfl)
theorem tk_he2 : tabOk code (argsI 439 2) := by unfold tabOk; decide +kernel
theorem RR_wL (V : VS S) (Rr : RRep S h) (v : Int64) : RRep S (wL h 105 0 v) := Rr.keep V ⟨fun l => l, fun _ _ => rfl, fun _ _ => rfl, fun _ _ => rfl, fun _ _ => rfl⟩
theorem CR_wL (V : VS S) (Cr : CRep S B h) (v : Int64) : CRep S B (wL h 105 0 v) := Cr.kc V ⟨fun _ _ => rfl, fun _ _ => rfl⟩
theorem RR_t (V : VS S) (Rr : RRep S h) (v : Int32) : RRep S (wI h 80 0 v) := Rr.keep V (RS.t0 h).1
theorem CR_t (V : VS S) (Cr : CRep S B h) (v : Int32) : CRep S (B + 64) (wI h 80 0 v) := (Cr.kc V (RS.t0 h).2).mono (by omega)
theorem wL_at (v : Int64) (z : Int32) : (wI (wL h 105 0 v) 80 0 z).2.1 105 0 = v := by simp [wI, wL, up2, vp_updL]
theorem wI_t (v : Int32) : (wI h 80 0 v).1 80 0 = v := by rw [wI_self, upd_self]
/-- it answers -/
theorem fk_ans (C : LC Γ p s m args c b L xs) (hl : LLs Γ b i ls) (hL : L ≤ 384) (hi : i + 5 < L) (hRf : 200 ≤ R.frames) (hRl : 8000 ≤ R.locals) (hX : EX Γ s s.heap) (V : VS S) (Cr : CRep S B h) (Rr : RRep S h) (oh : okH h) {x : Int32} (e1 : f_HF_fork (xs (i + 1)) (xs (i + 2)) h = some x) (e2 : ∀ g, RRep S g → f_R_fork (xs (i + 1)) (xs (i + 2)) g = some (x, wI g 80 0 (ii 0))) (hc : cells ≤ R.cells) (hs : slots ≤ R.slots)
    (w : ∀ (ls' : Array Slot) (h2 : AH), LLs Γ b i ls' → okH h2 → CRep S (B + 64) h2 → RRep S h2 → CW Γ p e R s m args below meth c (gA Γ) Q cells slots 1490 ls' [] (wsA Γ h2)) : CW Γ p e R s m args below meth c (gA Γ) Q cells slots 452 ls [.ref (gs Γ 105), .int (xs (i + 2)), .int (xs (i + 1)), .ref (gs Γ 0)] (wsA Γ h) := by
  have R1 := RR_wL V Rr x.toInt64
  have C1 := CR_wL V Cr x.toInt64
  have M2 := s_R_fork Γ _ _ _ (x, wI (wL h 105 0 x.toInt64) 80 0 (ii 0)) (e2 _ R1)
  have t1 := wI_t (h := wL h 105 0 x.toInt64) (ii 0)
  have t2 := wL_at (h := h) x.toInt64 (ii 0)
  have C2 := CR_t V C1 (ii 0)
  have R2 := RR_t V R1 (ii 0)
  generalize wI (wL h 105 0 x.toInt64) 80 0 (ii 0) = hz at *
  have M1 := a_LF (Γ := Γ) e1
  generalize wL h 105 0 x.toInt64 = hy at *
  have f1 : (rmA 4).frames + 1 ≤ R.frames := Nat.le_trans (show 5 ≤ 200 by decide) hRf
  have f2 : 8 + (5 + 11) + (rmA 4).locals ≤ R.locals := Nat.le_trans (show 8 + (5 + 11) + 64 * 4 ≤ 8000 by decide) hRl
  refine cw_lf (rm := rmA 4) (mc := 0) (ms := 0) C.1 C.2.1 hX rfl rfl f1 f2 M1 oh hl.1 d_452 hc hs (fun oh1 => ?_)
  exact fk_tail C hl hL hi hRf hRl M2 oh1 t1 (fun _ => t2) hc hs (fun ls' hl' oh2 => w ls' hz hl' oh2 C2 R2)
/-- it throws -/
theorem fk_thr (C : LC Γ p s m args c b L xs) (hl : LLs Γ b i ls) (hL : L ≤ 384) (hi : i + 5 < L) (hRf : 200 ≤ R.frames) (hRl : 8000 ≤ R.locals) (hX : EX Γ s s.heap) (hst : (gl Γ).stackTraces = false) (V : VS S) (Cr : CRep S B h) (Rr : RRep S h) (oh : okH h) (t : thF (xs (i + 1)) (xs (i + 2)) h) (e2 : ∀ g, RRep S g → f_R_fork (xs (i + 1)) (xs (i + 2)) g = some (ii 0, wI g 80 0 (ii 1))) (hc : cells + 1 ≤ R.cells) (hs : slots + 6 ≤ R.slots)
    (w : ∀ (ls' : Array Slot) (h2 : AH), LLs Γ b i ls' → okH h2 → CRep S (B + 64) h2 → RRep S h2 → CW Γ p e R s m args below meth c (gA Γ) Q (cells + 1) (slots + 6) 1490 ls' [] (wsA Γ h2)) : CW Γ p e R s m args below meth c (gA Γ) Q cells slots 452 ls [.ref (gs Γ 105), .int (xs (i + 2)), .int (xs (i + 1)), .ref (gs Γ 0)] (wsA Γ h) := by
  have M2 := s_R_fork Γ _ _ _ (ii 0, wI h 80 0 (ii 1)) (e2 _ Rr)
  have t1 := wI_t (h := h) (ii 1)
  have C2 := CR_t V Cr (ii 1)
  have R2 := RR_t V Rr (ii 1)
  generalize wI h 80 0 (ii 1) = hz at *
  have M1 := b_LF (Γ := Γ) hst t
  have f1 : rmG.frames + 1 ≤ R.frames := Nat.le_trans (show 11 ≤ 200 by decide) hRf
  have f2 : 8 + (5 + 11) + rmG.locals ≤ R.locals := Nat.le_trans (show 8 + (5 + 11) + 700 ≤ 8000 by decide) hRl
  refine cw_lf (rm := rmG) (mc := 1) (ms := 6) C.1 C.2.1 hX rfl rfl f1 f2 M1 oh hl.1 d_452 hc hs (fun oh1 => ?_)
  exact fk_tail C hl hL hi hRf hRl M2 oh1 t1 (fun q => absurd q i10) hc hs (fun ls' hl' oh2 => w ls' hz hl' oh2 C2 R2)
theorem ut_fork (C : TC Γ p R s m args c b L i B xs S h) (hX : EX Γ s s.heap) (hst : (gl Γ).stackTraces = false) : TG Γ p e R s m args below meth c Q b i B 438 h := by
  obtain ⟨C, hL, hi, ⟨hRf, hRl⟩, V, Cr, Rr, hB, oh⟩ := C
  intro ls cells slots hl hc hs w
  refine cw_an C.1 (k := 1) (i := 1) rfl (lv_at hl 2 rfl) d_438 ?_
  refine la_args C hl hL 2 (by omega) tk_he2 ?_
  refine cw_an C.1 (k := 3) (i := 3) rfl (lv_at hl 4 rfl) d_451 ?_
  rcases fk_both V Cr Rr (xs (i + 1)) (xs (i + 2)) with ⟨x, e1, e2⟩ | ⟨t, e2⟩
  · exact fk_ans C hl hL hi hRf hRl hX V Cr Rr oh e1 e2 (by omega) (by omega) (fun ls' h2 hl' oh2 c2 r2 => cw_wid (cells + 1) (slots + 6) (by omega) (by omega) (w ls' h2 S hl' oh2 V c2 r2))
  · exact fk_thr C hl hL hi hRf hRl hX hst V Cr Rr oh t e2 hc hs (fun ls' h2 hl' oh2 c2 r2 => w ls' h2 S hl' oh2 V c2 r2)
end FP
