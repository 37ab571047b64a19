/-! the class: a step -/
/-- all of the class but the moor, the acts and scratch -/
def CKm (h h' : AH) : Prop := (∀ o, o < 80 → scO o = false → o ∉ [13, 14, 15, 16, 17, 18, 31, 32] → h'.1 o = h.1 o) ∧ h'.1 1 1 = h.1 1 1 ∧ h'.1 33 5 = h.1 33 5 ∧ (∀ o, o ∈ [55, 58, 61, 64, 67] → h'.1 o 2 = h.1 o 2) ∧ (∀ o, o < 80 → h'.2.2 o = h.2.2 o) ∧ KR h h'
theorem CKm.rf (h : AH) : CKm h h := ⟨fun _ _ _ _ => rfl, rfl, rfl, fun _ _ => rfl, fun _ _ => rfl, KR.rf h⟩
theorem CKm.tr {h h' h'' : AH} (a : CKm h h') (b : CKm h' h'') : CKm h h'' := ⟨fun o h1 h2 h3 => (b.1 o h1 h2 h3).trans (a.1 o h1 h2 h3), b.2.1.trans a.2.1, b.2.2.1.trans a.2.2.1, fun o ho => (b.2.2.2.1 o ho).trans (a.2.2.2.1 o ho), fun o ho => (b.2.2.2.2.1 o ho).trans (a.2.2.2.2.1 o ho), a.2.2.2.2.2.tr b.2.2.2.2.2⟩
theorem CKm.cs {h h' : AH} (S : CS h h') : CKm h h' := ⟨fun o h1 h2 _ => S.1.1 o h1 h2, S.1.2.1, S.1.2.2.1, S.1.2.2.2.1, S.1.2.2.2.2, S.2⟩
theorem CKm.ag {T : List Nat} {h h' : AH} (A : Ag T h h') (hs : ∀ o ∈ T, o ∈ [13, 14, 15, 16, 17, 18, 31, 32]) : CKm h h' := by
  have nn : ∀ o, o ∉ [13, 14, 15, 16, 17, 18, 31, 32] → o ∉ T := fun o ho z => ho (hs o z)
  exact ⟨fun o _ _ h3 => A.1 o (nn o h3), by rw [A.1 1 (nn 1 (by decide))], by rw [A.1 33 (nn 33 (by decide))], fun o ho => congrFun (A.1 o (nn o (by intro z; simp only [List.mem_cons, List.not_mem_nil, or_false] at z ho; omega))) 2, fun o _ => by rw [A.2], KR.ag A (fun o z => by have := hs o z; simp only [List.mem_cons, List.not_mem_nil, or_false] at this; omega)⟩
theorem CKm.e22 {h h' : AH} (K : CKm h h') : h'.2.2 0 13 = h.2.2 0 13 := by rw [K.2.2.2.2.1 0 (by omega)]
theorem CKm.ch {hd : Nat → Int} {o : Nat} {h h' : AH} (K : CKm h h') (C : CH hd o h) (ho : o = 43 ∨ o = 49) : CH hd o h' := by
  refine C.ag (fun i hi => ?_)
  rcases ho with e | e <;> subst e <;> rcases (show i = 0 ∨ i = 1 ∨ i = 2 ∨ i = 3 ∨ i = 4 ∨ i = 5 by omega) with e | e | e | e | e | e <;> subst e <;> exact K.1 _ (by omega) (by decide) (by decide)
theorem CKm.lwe {h h' : AH} (K : CKm h h') (i : Nat) : lw h' i = lw h i := by unfold lw; rw [K.2.2.2.2.1 10 (by omega), K.2.2.2.2.1 8 (by omega)]
theorem CKm.wwe {h h' : AH} (K : CKm h h') (i : Nat) : ww h' i = ww h i := by unfold ww; rw [K.2.2.2.2.1 11 (by omega), K.2.2.2.2.1 9 (by omega)]
theorem LawC.km {t : List Int} {o : Nat} {h h' : AH} (C : LawC t o h) (ho : o ∈ [55, 58, 61, 64, 67]) (K : CKm h h') : LawC t o h' := by
  obtain ⟨D, d1, d2, d3, d4⟩ := C
  refine ⟨D, d1, d2, by rw [K.2.2.2.1 o ho]; exact d3, ?_⟩
  have : h'.1 (o + 1) = h.1 (o + 1) := by
    simp only [List.mem_cons, List.not_mem_nil, or_false] at ho
    rcases ho with e | e | e | e | e <;> subst e <;> exact K.1 _ (by omega) (by decide) (by decide)
  rw [this]; exact d4
theorem WalC.km {t : List (Nat × Nat)} {o : Nat} {h h' : AH} (C : WalC t o h) (ho : o ∈ [70, 72, 74, 76, 78]) (K : CKm h h') : WalC t o h' := by
  unfold WalC
  simp only [List.mem_cons, List.not_mem_nil, or_false] at ho
  rcases ho with e | e | e | e | e <;> subst e <;> rw [K.1 _ (by omega) (by decide) (by decide), K.1 _ (by omega) (by decide) (by decide)] <;> exact C
theorem CLa.km {la : List (List Int)} {ho : Int} {h h' : AH} (C : CLa la ho h) (hl : la.length ≤ 4) (K : CKm h h') : CLa la ho h' := by
  obtain ⟨c1, c2, c3, c4, c5⟩ := C
  have e0 := K.1 0 (by omega) (by decide) (by decide)
  exact ⟨by rw [e0]; exact c1, by rw [e0]; exact c2, fun i hi => by rw [K.lwe]; exact c3 i hi, fun i j hi hj => by rw [K.lwe, K.lwe]; exact c4 i j hi hj, fun i hi => by rw [K.lwe]; exact (c5 i hi).km (c3 i (by omega)) K⟩
theorem CWa.km {wa : WA} {h h' : AH} (C : CWa wa h) (hl : wa.length ≤ 4) (K : CKm h h') : CWa wa h' := by
  obtain ⟨c1, c3, c4, c5⟩ := C
  have e0 := K.1 0 (by omega) (by decide) (by decide)
  exact ⟨by rw [e0]; exact c1, fun i hi => by rw [K.wwe]; exact c3 i hi, fun i j hi hj => by rw [K.wwe, K.wwe]; exact c4 i j hi hj, fun i hi => by rw [K.wwe]; exact (c5 i hi).km (c3 i (by omega)) K⟩
theorem CIm.km {hd : Nat → Int} {im : Option DY} {B : Nat} {h h' : AH} (C : CIm hd im B h) (K : CKm h h') : CIm hd im B h' := by
  have e0 := K.1 0 (by omega) (by decide) (by decide)
  have em : mvO h' 19 = mvO h 19 := by
    unfold mvO
    rw [K.1 19 (by omega) (by decide) (by decide), K.1 (19 + 1) (by omega) (by decide) (by decide), K.1 (19 + 2) (by omega) (by decide) (by decide), K.1 (19 + 3) (by omega) (by decide) (by decide), K.1 (19 + 4) (by omega) (by decide) (by decide), K.1 (19 + 5) (by omega) (by decide) (by decide)]
  unfold CIm at C ⊢
  rw [e0]
  split at C
  · exact C
  · rw [em]; exact C
theorem CIm.mono {hd : Nat → Int} {im : Option DY} {B B' : Nat} {h : AH} (C : CIm hd im B h) (hB : B ≤ B') : CIm hd im B' h := by
  unfold CIm at C ⊢
  split at C
  · exact C
  · obtain ⟨c1, w, c2, c3⟩ := C; exact ⟨c1, w, by omega, c3⟩
/-- the class, with another moor and acts -/
theorem CRep.mov {S : ST} {B B' : Nat} {h h' : AH} (C : CRep S B h) (V : VS S) (K : CKm h h') (hB : B ≤ B') {d' : DY} {ac' : List DY} (hm : ∃ wr, wr ≤ B' ∧ MR (sH S) d' wr (mvO h' 13) ∧ CAc (sH S) ac' wr h') : CRep (sB S, sH S, d', ac', sI S, sE S, sL S, sO S, sW S) B' h' := by
  obtain ⟨c1, c2, c3, c4, c5, c6, c7⟩ := C
  refine ⟨⟨by rw [K.2.1]; exact c1.1, fun j hj => by rw [K.1 2 (by omega) (by decide) (by decide)]; exact c1.2 j hj⟩, ?_, hm, (c4.km K).mono hB, ⟨by rw [K.2.2.1]; exact c5.1, fun i hi => by rw [K.1 34 (by omega) (by decide) (by decide), K.1 35 (by omega) (by decide) (by decide), K.1 36 (by omega) (by decide) (by decide)]; exact c5.2 i hi⟩, c6.km V.2.2.2.2.2.2.1.1 K, c7.km V.2.2.2.2.2.2.2.2.1 K⟩
  obtain ⟨o, ho, e1, e2, e3⟩ := c2
  exact ⟨o, ho, by rw [K.2.2.2.2.1 0 (by omega)]; exact e1, by rw [K.2.2.2.2.1 3 (by omega)]; exact e2, K.ch e3 ho⟩
section CU
variable {hd : Nat → Int} {d : DY} {o wr p : Nat} {h : AH} {la : List (List Int)} {ho : Int}
theorem C_write (M : MR hd d wr (mvO h p)) (V : DW hd d) (W : HS hd) (hwr : wr < 1000000) (f c t : Int32) : ∃ h1, f_Moor_write p f c t h = some h1 ∧ Ag [p, p + 4] h h1 ∧ MR hd (wrD d f c t) (wr + 1) (mvO h1 p) ∧ ∃ v, mvO h1 p = (h.1 (p + 1), h.1 (p + 2), h.1 (p + 3), upd (h.1 (p + 4)) (wr % 100) v, h.1 (p + 5), ii (wr + 1 : Nat), h.1 p 6, h.1 p 7, h.1 p 8) := by
  obtain ⟨m1, m2, m3, m4, m5, m6⟩ := id M
  have hf := W.nf
  have hb := V.2.2.2.1.2
  have ew : h.1 p 5 = ii wr := m4.1
  have er : remI (ii wr) (ii 100) = ii (wr % 100 : Nat) := by rw [ii_rem (by omega) (by omega) (by omega) (by omega)]; congr 1
  obtain ⟨v, hv⟩ : ∃ v, v = ((f * ii 100) + c) * ii 100 + t := ⟨_, rfl⟩
  have main : f_Moor_write p f c t h = some (wI (wI h (p + 4) (wr % 100) v) p 5 (ii (wr + 1 : Nat))) := by
    unfold f_Moor_write
    have e5 : ∀ z, (wI h (p + 4) (wr % 100) z).1 p 5 = ii wr := fun z => by rw [wI_ne (by omega)]; exact ew
    simp (disch := omega) only [Option.bind_some, if_true, if_false, not_true_eq_false, not_false_eq_true, z0, ii_add, ii_sub, ii_mul, ifLeT, ifLeF, ifLtT, ifLtF, ifEqT, ifEqF, ifNeT, ifNeF, ifIn, nixZ, ii_i64, o0, o1, isInT, isInF, tn14, tn12, tn2, tn21, tn47, tn48, tn49, tn471, tn472, Int.reduceToNat, Int.toNat_natCast, Int.reduceAdd, Int.reduceSub, Int.reduceMul, Int.reduceNeg, Nat.reduceAdd, Nat.reduceSub, Nat.reduceMul, ew, er, e5, ← hv]
    rfl
  have emv : mvO (wI (wI h (p + 4) (wr % 100) v) p 5 (ii (wr + 1 : Nat))) p = (h.1 (p + 1), h.1 (p + 2), h.1 (p + 3), upd (h.1 (p + 4)) (wr % 100) v, h.1 (p + 5), ii (wr + 1 : Nat), h.1 p 6, h.1 p 7, h.1 p 8) := by
    have q1 : ∀ i, i ≠ 0 → i ≠ 4 → (wI (wI h (p + 4) (wr % 100) v) p 5 (ii (wr + 1 : Nat))).1 (p + i) = h.1 (p + i) := fun i h0 h4 => by rw [wI_ne (by omega), wI_ne (by omega)]
    have q4 : (wI (wI h (p + 4) (wr % 100) v) p 5 (ii (wr + 1 : Nat))).1 (p + 4) = upd (h.1 (p + 4)) (wr % 100) v := by rw [wI_ne (by omega), wI_self]
    have q0 : ∀ j, j ≠ 5 → (wI (wI h (p + 4) (wr % 100) v) p 5 (ii (wr + 1 : Nat))).1 p j = h.1 p j := fun j hj => by rw [wI_self, upd_ne hj, wI_ne (by omega)]
    have q5 : (wI (wI h (p + 4) (wr % 100) v) p 5 (ii (wr + 1 : Nat))).1 p 5 = ii (wr + 1 : Nat) := by rw [wI_self, upd_self]
    unfold mvO
    rw [q1 1 (by omega) (by omega), q1 2 (by omega) (by omega), q1 3 (by omega) (by omega), q4, q1 5 (by omega) (by omega), q5, q0 6 (by omega), q0 7 (by omega), q0 8 (by omega)]
  refine ⟨_, main, ((Ag.rf _ _).pI (by simp)).pI (by simp), ?_, v, emv⟩
  rw [emv]
  have hlo := fun j (hj : j < 46) => wrD_lo (d := d) (f := f) (c := c) (t := t) hb hj
  have ebl := wrD_bL (f := f) (c := c) (t := t) V
  refine ⟨fun k hk => by rw [hlo _ (by omega)]; exact m1 k hk, fun k hk => ?_, ⟨by rw [hlo 12 (by omega)]; exact m3.1, by rw [hlo 13 (by omega)]; exact m3.2⟩, ⟨rfl, by omega, by rw [ebl, m4.2.2.1]; omega, fun i hi => ?_⟩, fun k hk => by rw [hlo _ (by omega)]; exact m5 k hk, ?_, by rw [hlo 44 (by omega)]; exact m6.2.1, by rw [hlo 45 (by omega)]; exact m6.2.2⟩
  · have := m2 k hk
    by_cases q : (k : Int) < hd 7
    · rw [if_pos q] at this ⊢; rw [hlo _ (by omega)]; exact this
    · rw [if_neg q] at this ⊢; exact this
  · rw [ebl] at hi ⊢
    show upd (h.1 (p + 4)) (wr % 100) v ((wr + 1 - 1 - i) % 100) = _
    have hbw := m4.2.2.1
    by_cases e : i = 0
    · subst e
      rw [show (wr + 1 - 1 - 0) % 100 = wr % 100 by omega, upd_self]
      obtain ⟨n1, n2, n3⟩ := wrD_n (f := f) (c := c) (t := t) V
      unfold bkE
      rw [Nat.sub_zero, n1, n2, n3]
      exact hv
    · rw [upd_ne (by omega), show wr + 1 - 1 - i = wr - 1 - (i - 1) by omega]
      have := m4.2.2.2 (i - 1) (by omega)
      show h.1 (p + 4) _ = _
      rw [show h.1 (p + 4) ((wr - 1 - (i - 1)) % 100) = bkE d (bL d - 1 - (i - 1)) from this]
      have e1 := wrD_e (f := f) (c := c) (t := t) V (j := min (bL d + 1) 60 - 1 - i) (k := 0) (by omega) (by omega)
      have e2 := wrD_e (f := f) (c := c) (t := t) V (j := min (bL d + 1) 60 - 1 - i) (k := 1) (by omega) (by omega)
      have e3 := wrD_e (f := f) (c := c) (t := t) V (j := min (bL d + 1) 60 - 1 - i) (k := 2) (by omega) (by omega)
      unfold bkE
      rw [show 47 + 3 * (min (bL d + 1) 60 - 1 - i) = 47 + 3 * (min (bL d + 1) 60 - 1 - i) + 0 by omega, e1, show 48 + 3 * (min (bL d + 1) 60 - 1 - i) = 47 + 3 * (min (bL d + 1) 60 - 1 - i) + 1 by omega, e2, show 49 + 3 * (min (bL d + 1) 60 - 1 - i) = 47 + 3 * (min (bL d + 1) 60 - 1 - i) + 2 by omega, e3]
      have i1 : 47 + 3 * (bL d - (min (bL d + 1) 60 - 1) + (min (bL d + 1) 60 - 1 - i)) + 0 = 47 + 3 * (bL d - 1 - (i - 1)) := by omega
      have i2 : 47 + 3 * (bL d - (min (bL d + 1) 60 - 1) + (min (bL d + 1) 60 - 1 - i)) + 1 = 48 + 3 * (bL d - 1 - (i - 1)) := by omega
      have i3 : 47 + 3 * (bL d - (min (bL d + 1) 60 - 1) + (min (bL d + 1) 60 - 1 - i)) + 2 = 49 + 3 * (bL d - 1 - (i - 1)) := by omega
      rw [i1, i2, i3]
  · show h.1 p 6 = wlM (wrD d f c t)
    rw [show h.1 p 6 = wlM d from m6.1]
    unfold wlM
    exact mk_eq (fun i hi' => by rw [hlo _ (by omega)])
/-- the twitch that is put down -/
def erT (e : Bool) (t : Int) : Int := if e then (if 0 < t then 0 else 1) else t
theorem C_stepTo (E : h.2.2 0 13 = o) (C : CH hd o h) (ho' : o = 43 ∨ o = 49) (M : MR hd d wr (mvO h 13)) (V : DW hd d) (W : HW hd) (CL : CLa la ho h) (Lw : LWs la ho) {ac : List DY} (A : CAc hd ac wr h) (h40 : ac.length ≤ 40) (hwr : wr < 1000000) {f c : Nat} (hf : (f : Int) < hd 7) (hc : (c : Int) < cellsM hd) (e : Bool) : ∃ h1, f_HF_stepTo (ii f) (ii c) (bI e) h = some (ii (erT e (stT hd d la ho f c)), h1) ∧ MR hd (stD hd d f c (erT e (stT hd d la ho f c))) (wr + 1) (mvO h1 13) ∧ CAc hd (pu40 ac d) (wr + 1) h1 ∧ CKm h h1 := by
  have hw := W.1
  have hfk := W.2.2.2.2 f hf
  obtain ⟨gu, hgu⟩ := Int.eq_ofNat_of_zero_le (show 0 ≤ fkM hd f 5 by omega)
  have hg2 : gu < 2 := by omega
  have egu : (fkM hd f 5).toNat = gu := by omega
  have htw := twX_lo (d := mvD d f c gu) (la := la) (ho := ho) W hf c
  obtain ⟨h1, e1, A1, D1⟩ := C_add A h40 0 (ii f) (d (2 * f)) (d (12 + gu))
  have K1 : CKm h h1 := CKm.ag A1 (by decide)
  have em1 : mvO h1 13 = mvO h 13 := by unfold mvO; rw [A1.1 13 (by decide), A1.1 (13 + 1) (by decide), A1.1 (13 + 2) (by decide), A1.1 (13 + 3) (by decide), A1.1 (13 + 4) (by decide), A1.1 (13 + 5) (by decide)]
  have M1 : MR hd d wr (mvO h1 13) := by rw [em1]; exact M
  obtain ⟨h2, e2, A2, M2, mv2⟩ := C_move (Or.inl rfl) M1 W hf hg2 (c := c) hc
  have K2 : CKm h1 h2 := CKm.ag A2 (by decide)
  have K12 := K1.tr K2
  have V2 := V.mv W hf (gu := gu) hg2 (c := c) (by omega) hc
  obtain ⟨h3, e3, T3, S3⟩ := C_twitch (K12.e22.trans E) (K12.ch C ho') ho' (Or.inl rfl) M2 V2 W (CL.km Lw.1 K12) Lw.1 Lw.2.2.2.1 Lw.2.2.2.2 hf hc
  have K3 : CKm h2 h3 := CKm.cs S3
  have em3 : mvO h3 13 = mvO h2 13 := by unfold mvO; rw [T3 13 (by omega) (by omega), T3 (13 + 1) (by omega) (by omega), T3 (13 + 2) (by omega) (by omega), T3 (13 + 3) (by omega) (by omega), T3 (13 + 4) (by omega) (by omega), T3 (13 + 5) (by omega) (by omega)]
  have M3 : MR hd (mvD d f c gu) wr (mvO h3 13) := by rw [em3]; exact M2
  have est : stT hd d la ho f c = twX hd (mvD d f c gu) la ho f c := by unfold stT; rw [egu]
  have esd : ∀ t, stD hd d f c t = wrD (mvD d f c gu) (ii f) (ii c) (ii t) := fun t => by unfold stD; rw [egu]
  obtain ⟨h4, e4, A4, M4, v, mv4⟩ := C_write M3 V2 (Or.inr W) hwr (ii f) (ii c) (ii (erT e (stT hd d la ho f c)))
  have K4 : CKm h3 h4 := CKm.ag A4 (by decide)
  have ep := C_placeOf M W hf
  have et := C_trailOf M (g := (gu : Int)) (by omega)
  rw [Int.toNat_natCast] at et
  have e5 := C_t5 C W hf
  rw [hgu] at e5
  have e1' : f_Acts_add (ii 0) (ii f) (d (2 * f)) (d (12 + gu)) h = some h1 := e1
  refine ⟨h4, ?_, ?_, ?_, (K12.tr K3).tr K4⟩
  · unfold f_HF_stepTo
    rw [E, bind_eq e5, bind_eq ep, bind_eq et, bind_eq e1', bind_eq e2, bind_eq e3]
    have s7 : (if bI e = 0 then some (ii (twX hd (mvD d f c gu) la ho f c)) else some (if ii (twX hd (mvD d f c gu) la ho f c) ≤ 0 then ii 1 else ii 0)) = some (ii (erT e (stT hd d la ho f c))) := by
      rw [est]
      unfold erT
      cases e with
      | false => rfl
      | true =>
        rw [if_neg (show ¬ bI true = 0 by decide), if_pos rfl]
        by_cases q : 0 < twX hd (mvD d f c gu) la ho f c
        · rw [if_pos q]; simp (disch := omega) only [Option.bind_some, if_true, if_false, not_true_eq_false, not_false_eq_true, z0, ii_add, ii_sub, ii_mul, ifLeT, ifLeF, ifLtT, ifLtF, ifEqT, ifEqF, ifNeT, ifNeF, ifIn, nixZ, ii_i64, o0, o1, isInT, isInF, tn14, tn12, tn2, tn21, tn47, tn48, tn49, tn471, tn472, Int.reduceToNat, Int.toNat_natCast, Int.reduceAdd, Int.reduceSub, Int.reduceMul, Int.reduceNeg, Nat.reduceAdd, Nat.reduceSub, Nat.reduceMul]
        · rw [if_neg q]; simp (disch := omega) only [Option.bind_some, if_true, if_false, not_true_eq_false, not_false_eq_true, z0, ii_add, ii_sub, ii_mul, ifLeT, ifLeF, ifLtT, ifLtF, ifEqT, ifEqF, ifNeT, ifNeF, ifIn, nixZ, ii_i64, o0, o1, isInT, isInF, tn14, tn12, tn2, tn21, tn47, tn48, tn49, tn471, tn472, Int.reduceToNat, Int.toNat_natCast, Int.reduceAdd, Int.reduceSub, Int.reduceMul, Int.reduceNeg, Nat.reduceAdd, Nat.reduceSub, Nat.reduceMul]
    simp only
    rw [bind_eq s7, bind_eq e4]
  · rw [esd]; exact M4
  · have D4 : AD hd ac wr (mvO h 13) 0 (ii f) (d (2 * f)) (d (12 + gu)) h4 := D1.ag (by rw [A4.1 31 (by decide), T3 31 (by omega) (by omega), A2.1 31 (by decide)]) (by rw [A4.1 32 (by decide), T3 32 (by omega) (by omega), A2.1 32 (by decide)])
    have T1 : ∀ i, i < 6 → h3.1 (13 + i) = h2.1 (13 + i) := fun i hi => T3 _ (by omega) (by omega)
    have B1 : ∀ i, i < 6 → h1.1 (13 + i) = h.1 (13 + i) := fun i hi => A1.1 _ (by simp; omega)
    have r1 : h3.1 (13 + 1) = upd (h.1 (13 + 1)) f (ii c) := by rw [T1 1 (by omega)]; have := congrArg (fun z => z.1) mv2; simp only at this; rw [show h2.1 (13 + 1) = upd (h1.1 (13 + 1)) f (ii c) from this, B1 1 (by omega)]
    have r3 : h3.1 (13 + 3) = upd (h.1 (13 + 3)) gu (d (12 + gu) ||| bitI c) := by rw [T1 3 (by omega)]; have := congrArg (fun z => z.2.2.1) mv2; simp only at this; rw [show h2.1 (13 + 3) = upd (h1.1 (13 + 3)) gu (d (12 + gu) ||| bitI c) from this, B1 3 (by omega)]
    have r2 : h3.1 (13 + 2) = h.1 (13 + 2) := by rw [T1 2 (by omega), A2.1 (13 + 2) (by decide), B1 2 (by omega)]
    have r4 : h3.1 (13 + 4) = h.1 (13 + 4) := by rw [T1 4 (by omega), A2.1 (13 + 4) (by decide), B1 4 (by omega)]
    have r5 : h3.1 (13 + 5) = h.1 (13 + 5) := by rw [T1 5 (by omega), A2.1 (13 + 5) (by decide), B1 5 (by omega)]
    have r0 : h3.1 13 = h.1 13 := by rw [T3 13 (by omega) (by omega), A2.1 13 (by decide), A1.1 13 (by decide)]
    obtain ⟨m1, m2, m3, m4, m5, m6⟩ := id M
    refine CAc.put (Or.inr W) h40 M D4 (by omega) (by omega) (M1 := (fun i => if i = f then d (2 * f) else (mvO h4 13).1 i, (mvO h4 13).2.1, fun q => if q = gu then d (12 + gu) else (mvO h4 13).2.2.1 q, (mvO h4 13).2.2.2.1, (mvO h4 13).2.2.2.2.1, (mvO h4 13).2.2.2.2.2.1 - ii 1, (mvO h4 13).2.2.2.2.2.2)) ?_ ?_
    · intro r z0' z1 z2 z3
      refine Or.inl ⟨z0', f, hf, z1, fun i hi => by rw [z2], fun i hi => rfl, fun q hq => ?_, rfl, fun i hi => rfl, rfl⟩
      show (if q = gu then _ else _) = if (q : Int) = fkM hd f 5 then _ else _
      rw [hgu, z3]
      by_cases z : q = gu
      · rw [if_pos z, if_pos (by omega)]
      · rw [if_neg z, if_neg (by omega)]
    · rw [mv4]
      refine ⟨fun i hi => ?_, fun i hi => ?_, fun q hq => ?_, fun t t1 t2 => ?_, fun i hi => ?_, ?_⟩
      · show (if i = f then d (2 * f) else h3.1 (13 + 1) i) = h.1 (13 + 1) i
        by_cases z : i = f
        · rw [if_pos z, z]; exact (m1 f hf).symm
        · rw [if_neg z, r1, upd_ne z]
      · show h3.1 (13 + 2) i = h.1 (13 + 2) i
        rw [r2]
      · show (if q = gu then d (12 + gu) else h3.1 (13 + 3) q) = h.1 (13 + 3) q
        by_cases z : q = gu
        · rw [if_pos z, z]
          rcases (show gu = 0 ∨ gu = 1 by omega) with y | y <;> subst y
          · exact m3.1.symm
          · exact m3.2.symm
        · rw [if_neg z, r3, upd_ne z]
      · show upd (h3.1 (13 + 4)) (wr % 100) v (t % 100) = h.1 (13 + 4) (t % 100)
        rw [upd_ne (by omega), r4]
      · show h3.1 (13 + 5) i = h.1 (13 + 5) i
        rw [r5]
      · show (ii (wr + 1 : Nat) - ii 1, h3.1 13 6, h3.1 13 7, h3.1 13 8) = (h.1 13 5, h.1 13 6, h.1 13 7, h.1 13 8)
        rw [r0, show h.1 13 5 = ii wr from m4.1, ii_sub, show (((wr + 1 : Nat) : Int) - 1) = (wr : Int) by omega]
end CU
