/-! the class: moves, pages, acts -/
section CT
variable {hd : Nat → Int} {d : DY} {wr p : Nat} {h : AH}
theorem UN.rc {r r' : Nat → Int32} {M M1 : MV} (u : UN hd r M M1) (e : ∀ q, q < 4 → r' q = r q) : UN hd r' M M1 := by
  unfold UN at u ⊢
  rw [e 0 (by omega), e 1 (by omega), e 2 (by omega), e 3 (by omega)]
  exact u
theorem CHN.rc4 {rc rc' : Nat → Nat → Int32} : ∀ (l : List DY) (k k' wr : Nat) (M : MV), CHN hd rc l k wr M → (∀ i, i < l.length → ∀ q, q < 4 → rc' (k' + i) q = rc (k + i) q) → CHN hd rc' l k' wr M
  | [], _, _, _, _, _, _ => trivial
  | s :: l, k, k', wr, M, ⟨M1, wr1, u, r, w1, w2, c⟩, e => by
    refine ⟨M1, wr1, u.rc (fun q hq => ?_), r, w1, w2, CHN.rc4 l (k + 1) (k' + 1) wr1 M1 c (fun i hi q hq => ?_)⟩
    · have := e 0 (by simp) q hq; rwa [Nat.add_zero, Nat.add_zero] at this
    · have := e (i + 1) (by simp; omega) q hq
      rw [show k' + 1 + i = k' + (i + 1) by omega, show k + 1 + i = k + (i + 1) by omega]; exact this
/-- an act was put down -/
def AD (hd : Nat → Int) (ac : List DY) (wr : Nat) (M : MV) (k : Int) (a b c : Int32) (h1 : AH) : Prop := h1.1 31 1 = ii (min (ac.length + 1) 40 : Nat) ∧ ∃ nx : Nat, nx < 40 ∧ h1.1 31 2 = ii nx ∧ (rcO h1 nx 0 0 = ii k ∧ rcO h1 nx 0 1 = a ∧ rcO h1 nx 0 2 = b ∧ rcO h1 nx 0 3 = c) ∧ CHN hd (rcO h1 nx) (if ac.length = 40 then ac.tail.reverse else ac.reverse) 1 wr M
theorem AD.ag {ac : List DY} {M : MV} {k : Int} {a b c : Int32} {h1 h2 : AH} (x : AD hd ac wr M k a b c h1) (e1 : h2.1 31 = h1.1 31) (e2 : h2.1 32 = h1.1 32) : AD hd ac wr M k a b c h2 := by
  have er : ∀ nx, rcO h2 nx = rcO h1 nx := fun nx => by funext k p; unfold rcO; rw [e2]
  obtain ⟨x1, nx, x2, x3, x4, x5⟩ := x
  exact ⟨by rw [e1]; exact x1, nx, x2, by rw [e1]; exact x3, by rw [er]; exact x4, by rw [er]; exact x5⟩
theorem C_add {ac : List DY} (A : CAc hd ac wr h) (h40 : ac.length ≤ 40) (k : Int) (a b c : Int32) : ∃ h1, f_Acts_add (ii k) a b c h = some h1 ∧ Ag [31, 32] h h1 ∧ AD hd ac wr (mvO h 13) k a b c h1 := by
  obtain ⟨a1, nx, n1, n2, ch⟩ := A
  unfold f_Acts_add
  have t0 : ((nx : Int) * 4 + 0).toNat = 4 * nx := by omega
  have t1 : ((nx : Int) * 4 + 1).toNat = 4 * nx + 1 := by omega
  have t2 : ((nx : Int) * 4 + 2).toNat = 4 * nx + 2 := by omega
  have t3 : ((nx : Int) * 4 + 3).toNat = 4 * nx + 3 := by omega
  have emin : p_Math_min (ii ((ac.length : Int) + 1)) (ii 40) = ii (min (ac.length + 1) 40 : Nat) := by
    unfold p_Math_min
    by_cases q : ac.length = 40
    · rw [q]; decide
    · rw [show min (ac.length + 1) 40 = ac.length + 1 by omega]
      by_cases q2 : ac.length = 39
      · rw [q2]; decide
      · simp (disch := omega) only [Option.bind_some, if_true, if_false, not_true_eq_false, not_false_eq_true, z0, ii_add, ii_sub, ii_mul, ifLeT, ifLeF, ifLtT, ifLtF, ifEqT, ifEqF, ifNeT, ifNeF, ifIn, nixZ, ii_i64, o0, o1, isInT, isInF, tn14, tn12, tn2, tn21, tn47, tn48, tn49, tn471, tn472, Int.reduceToNat, Int.toNat_natCast, Int.reduceAdd, Int.reduceSub, Int.reduceMul, Int.reduceNeg, Nat.reduceAdd, Nat.reduceSub, Nat.reduceMul]; rfl
  have e31 : ∀ v1 v2 v3 v4, (wI (wI (wI (wI h 32 (4 * nx) v1) 32 (4 * nx + 1) v2) 32 (4 * nx + 2) v3) 32 (4 * nx + 3) v4).1 31 = h.1 31 := fun v1 v2 v3 v4 => by rw [wI_ne (by decide), wI_ne (by decide), wI_ne (by decide), wI_ne (by decide)]
  simp (disch := omega) only [Option.bind_some, if_true, if_false, not_true_eq_false, not_false_eq_true, z0, ii_add, ii_sub, ii_mul, ifLeT, ifLeF, ifLtT, ifLtF, ifEqT, ifEqF, ifNeT, ifNeF, ifIn, nixZ, ii_i64, o0, o1, isInT, isInF, tn14, tn12, tn2, tn21, tn47, tn48, tn49, tn471, tn472, Int.reduceToNat, Int.toNat_natCast, Int.reduceAdd, Int.reduceSub, Int.reduceMul, Int.reduceNeg, Nat.reduceAdd, Nat.reduceSub, Nat.reduceMul, n2, t0, t1, t2, t3, e31]
  rw [wI_self, upd_ne (by decide), e31, a1, ii_add, emin, ii_rem (by omega) (by omega) (by omega) (by omega)]
  obtain ⟨m, hm⟩ : ∃ m, m = (nx + 1) % 40 := ⟨_, rfl⟩
  have em : ((nx : Int) + 1) % 40 = (m : Int) := by omega
  rw [em]
  refine ⟨_, rfl, (((((((Ag.rf _ _).pI (by decide)).pI (by decide)).pI (by decide)).pI (by decide)).pI (by decide)).pI (by decide)), ?_⟩
  have r32 : ∀ v w j, (wI (wI (wI (wI (wI (wI h 32 (4 * nx) (ii k)) 32 (4 * nx + 1) a) 32 (4 * nx + 2) b) 32 (4 * nx + 3) c) 31 2 v) 31 1 w).1 32 j = if j = 4 * nx + 3 then c else if j = 4 * nx + 2 then b else if j = 4 * nx + 1 then a else if j = 4 * nx then ii k else h.1 32 j := by
    intro v w j
    rw [wI_ne (by decide), wI_ne (by decide)]
    simp only [wI_self, upd]
  refine ⟨by rw [wI_self, upd_self], m, by omega, by rw [wI_self, upd_ne (by decide), wI_self, upd_self], ?_, ?_⟩
  · have hi : (m + 39 - 0) % 40 = nx := by omega
    unfold rcO
    rw [hi, r32, r32, r32, r32]
    refine ⟨?_, ?_, ?_, ?_⟩
    · rw [if_neg (by omega), if_neg (by omega), if_neg (by omega), if_pos (by omega)]
    · rw [if_neg (by omega), if_neg (by omega), if_pos (by omega)]
    · rw [if_neg (by omega), if_pos (by omega)]
    · rw [if_pos (by omega)]
  · have hc : CHN hd (rcO h nx) (if ac.length = 40 then ac.tail.reverse else ac.reverse) 0 wr (mvO h 13) := by
      by_cases q : ac.length = 40
      · rw [if_pos q]
        cases ac with
        | nil => simp at q
        | cons x ac =>
          rw [List.reverse_cons] at ch
          exact CHN.pre _ _ _ _ _ ch
      · rw [if_neg q]; exact ch
    have hlen : (if ac.length = 40 then ac.tail.reverse else ac.reverse).length ≤ 39 := by
      by_cases q : ac.length = 40
      · rw [if_pos q]; simp; omega
      · rw [if_neg q]; simp; omega
    refine CHN.rc4 _ 0 1 wr _ hc (fun i hi q hq => ?_)
    unfold rcO
    have e : (m + 39 - (1 + i)) % 40 = (nx + 39 - (0 + i)) % 40 := by omega
    have ne : (nx + 39 - (0 + i)) % 40 ≠ nx := by omega
    rw [r32, e, if_neg (by omega), if_neg (by omega), if_neg (by omega), if_neg (by omega)]
theorem pu40_rev (ac : List DY) (d : DY) : (pu40 ac d).reverse = d :: (if ac.length = 40 then ac.tail.reverse else ac.reverse) := by
  unfold pu40
  by_cases q : ac.length = 40
  · rw [if_pos q, if_pos q]; simp
  · rw [if_neg q, if_neg q]; simp
theorem CAc.put {ac : List DY} (H : HS hd) (h40 : ac.length ≤ 40) {M : MV} (R : MR hd d wr M) {k : Int} {a b c : Int32} {h1 : AH} (x : AD hd ac wr M k a b c h1) {wr' : Nat} (w1 : wr ≤ wr') (w2 : wr' ≤ wr + 1) {M1 : MV} (hu : ∀ r, r 0 = ii k → r 1 = a → r 2 = b → r 3 = c → UN hd r (mvO h1 13) M1) (he : MEq (wr - 99) wr M M1) : CAc hd (pu40 ac d) wr' h1 := by
  obtain ⟨x1, nx, x2, x3, ⟨y0, y1, y2, y3⟩, x5⟩ := x
  have h7 : hd 7 ≤ 6 := by have := H.nf; omega
  refine ⟨by rw [x1, pu40_len h40], nx, x2, x3, ?_⟩
  rw [pu40_rev]
  refine ⟨M1, wr, hu _ y0 y1 y2 y3, R.eq he h7 (by omega) (Nat.le_refl _), w1, w2, ?_⟩
  have hlen : (if ac.length = 40 then ac.tail.reverse else ac.reverse).length ≤ 39 := by
    by_cases q : ac.length = 40
    · rw [if_pos q]; simp; omega
    · rw [if_neg q]; simp; omega
  exact CHN.eq H _ 1 wr M M1 x5 he (by omega) (Nat.le_refl _)
theorem C_move (hp : p = 13 ∨ p = 25) (M : MR hd d wr (mvO h p)) (W : HW hd) {f gu : Nat} {c : Nat} (hf : (f : Int) < hd 7) (hg : gu < 2) (hc : (c : Int) < cellsM hd) : ∃ h1, f_Moor_move p (ii f) (ii c) (ii gu) h = some h1 ∧ Ag [p + 1, p + 3] h h1 ∧ MR hd (mvD d f c gu) wr (mvO h1 p) ∧ mvO h1 p = (upd (h.1 (p + 1)) f (ii c), h.1 (p + 2), upd (h.1 (p + 3)) gu (d (12 + gu) ||| bitI c), h.1 (p + 4), h.1 (p + 5), h.1 p 5, h.1 p 6, h.1 p 7, h.1 p 8) := by
  have hw := W.1
  have hcl := W.cells
  have hf6 : f < 6 := by omega
  obtain ⟨m1, m2, m3, m4, m5, m6⟩ := id M
  have et : h.1 (p + 3) gu = d (12 + gu) := by
    rcases (show gu = 0 ∨ gu = 1 by omega) with e | e <;> subst e
    · exact m3.1
    · exact m3.2
  have e3 : ∀ v, (wI h (p + 1) f v).1 (p + 3) gu = d (12 + gu) := fun v => by rw [wI_ne (by omega)]; exact et
  have main : f_Moor_move p (ii f) (ii c) (ii gu) h = some (wI (wI h (p + 1) f (ii c)) (p + 3) gu (d (12 + gu) ||| bitI c)) := by
    unfold f_Moor_move
    rcases (show gu = 0 ∨ gu = 1 by omega) with e | e <;> subst e
    · have e3' := e3 (ii c)
      simp (disch := omega) only [Option.bind_some, if_true, if_false, not_true_eq_false, not_false_eq_true, z0, ii_add, ii_sub, ii_mul, ifLeT, ifLeF, ifLtT, ifLtF, ifEqT, ifEqF, ifNeT, ifNeF, ifIn, nixZ, ii_i64, o0, o1, isInT, isInF, tn14, tn12, tn2, tn21, tn47, tn48, tn49, tn471, tn472, Int.reduceToNat, Int.toNat_natCast, Int.reduceAdd, Int.reduceSub, Int.reduceMul, Int.reduceNeg, Nat.reduceAdd, Nat.reduceSub, Nat.reduceMul, Int.natCast_zero, e3']
      rfl
    · have e3' := e3 (ii c)
      simp (disch := omega) only [Option.bind_some, if_true, if_false, not_true_eq_false, not_false_eq_true, z0, ii_add, ii_sub, ii_mul, ifLeT, ifLeF, ifLtT, ifLtF, ifEqT, ifEqF, ifNeT, ifNeF, ifIn, nixZ, ii_i64, o0, o1, isInT, isInF, tn14, tn12, tn2, tn21, tn47, tn48, tn49, tn471, tn472, Int.reduceToNat, Int.toNat_natCast, Int.reduceAdd, Int.reduceSub, Int.reduceMul, Int.reduceNeg, Nat.reduceAdd, Nat.reduceSub, Nat.reduceMul, Int.natCast_one, e3']
      rfl
  have emv : mvO (wI (wI h (p + 1) f (ii c)) (p + 3) gu (d (12 + gu) ||| bitI c)) p = (upd (h.1 (p + 1)) f (ii c), h.1 (p + 2), upd (h.1 (p + 3)) gu (d (12 + gu) ||| bitI c), h.1 (p + 4), h.1 (p + 5), h.1 p 5, h.1 p 6, h.1 p 7, h.1 p 8) := by
    have q1 : (wI (wI h (p + 1) f (ii c)) (p + 3) gu (d (12 + gu) ||| bitI c)).1 (p + 1) = upd (h.1 (p + 1)) f (ii c) := by rw [wI_ne (by omega), wI_self]
    have q2 : (wI (wI h (p + 1) f (ii c)) (p + 3) gu (d (12 + gu) ||| bitI c)).1 (p + 2) = h.1 (p + 2) := by rw [wI_ne (by omega), wI_ne (by omega)]
    have q3 : (wI (wI h (p + 1) f (ii c)) (p + 3) gu (d (12 + gu) ||| bitI c)).1 (p + 3) = upd (h.1 (p + 3)) gu (d (12 + gu) ||| bitI c) := by rw [wI_self, wI_ne (by omega)]
    have q4 : (wI (wI h (p + 1) f (ii c)) (p + 3) gu (d (12 + gu) ||| bitI c)).1 (p + 4) = h.1 (p + 4) := by rw [wI_ne (by omega), wI_ne (by omega)]
    have q5 : (wI (wI h (p + 1) f (ii c)) (p + 3) gu (d (12 + gu) ||| bitI c)).1 (p + 5) = h.1 (p + 5) := by rw [wI_ne (by omega), wI_ne (by omega)]
    have q0 : (wI (wI h (p + 1) f (ii c)) (p + 3) gu (d (12 + gu) ||| bitI c)).1 p = h.1 p := by rw [wI_ne (by omega), wI_ne (by omega)]
    unfold mvO
    rw [q1, q2, q3, q4, q5, q0]
  refine ⟨_, main, ((Ag.rf _ _).pI (by simp)).pI (by simp), ?_, emv⟩
  rw [emv]
  have eb := mvD_bL (d := d) (c := (c : Int)) hf6 hg
  have hi := fun j (hj : 14 ≤ j) => mvD_hi (d := d) (f := f) (gu := gu) (c := (c : Int)) hf6 hg hj
  refine ⟨fun k hk => ?_, fun k hk => ?_, ⟨?_, ?_⟩, ⟨m4.1, m4.2.1, by rw [eb]; exact m4.2.2.1, fun i hi' => ?_⟩, fun k hk => by rw [hi _ (by omega)]; exact m5 k hk, ?_, ?_, ?_⟩
  · show upd (h.1 (p + 1)) f (ii c) k = _
    unfold mvD
    by_cases e : k = f
    · subst e; rw [upd_self, upd_ne (by omega), upd_self]
    · rw [upd_ne e, upd_ne (by omega), upd_ne (by omega)]; exact m1 k hk
  · show h.1 (p + 2) k = _
    unfold mvD
    rw [upd_ne (by omega), upd_ne (by omega)]; exact m2 k hk
  · show upd (h.1 (p + 3)) gu _ 0 = _
    unfold mvD
    by_cases e : gu = 0
    · subst e; rw [upd_self, upd_self]
    · rw [upd_ne (by omega), upd_ne (by omega), upd_ne (by omega)]; exact m3.1
  · show upd (h.1 (p + 3)) gu _ 1 = _
    unfold mvD
    by_cases e : gu = 1
    · subst e; rw [upd_self, upd_self]
    · rw [upd_ne (by omega), upd_ne (by omega), upd_ne (by omega)]; exact m3.2
  · rw [eb] at hi' ⊢
    have := m4.2.2.2 i hi'
    unfold bkE at this ⊢
    rw [hi _ (by omega), hi _ (by omega), hi _ (by omega)]
    exact this
  · show h.1 p 6 = wlM (mvD d f c gu)
    rw [show h.1 p 6 = wlM d from m6.1]
    unfold wlM
    exact mk_eq (fun i hi' => by rw [hi _ (by omega)])
  · rw [hi 44 (by omega)]; exact m6.2.1
  · rw [hi 45 (by omega)]; exact m6.2.2
end CT
