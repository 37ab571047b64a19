/-! the class: the fault of a heath -/
section HL
variable {bs : List Int} {o : Nat} {h : AH} {J : Nat → Int}
def iniH (J : Nat → Int) : Nat → Int := fun j => if j < 4 then usM 0 j else if j ≤ 8 then 0 else J j
theorem ini_c {κ : Nat} (hk : κ < 5) : iniH J (ciM κ) = 0 := by
  have := ci_lo hk
  unfold iniH
  rw [if_neg (by omega), if_pos (by omega)]
theorem ini_v {κ n : Nat} (hk : κ < 5) (v : vld (iniH J) κ n) : κ = 0 ∧ n = 0 := by
  unfold vld at v
  rw [ini_c hk] at v
  omega
theorem ini_r {w : Nat} (hw : w < 4) : iniH J (hbM 0 0 + w) = usM 0 w := by
  have e : hbM 0 0 + w = w := by show 0 + w = w; omega
  rw [e]
  unfold iniH
  rw [if_pos hw]
theorem ini_hp : HP (iniH J) (iniH J 4).toNat := by
  refine ⟨fun κ hk => by rw [ini_c hk]; exact ⟨Int.le_refl _, by omega⟩, fun κ n w hk v hw => ?_, fun v hv => ?_⟩
  · obtain ⟨e1, e2⟩ := ini_v hk v
    subst e1; subst e2
    rw [ini_r hw]
    exact us_ok 0 (by omega) w hw
  · have : iniH J 4 = 0 := ini_c (κ := 1) (by omega)
    rw [this] at hv
    exact absurd hv (by simp)
def HKo (o : Nat) (h h1 : AH) : Prop := (∀ x, x ≠ 1 → x ≠ 4 → x ≠ 5 → x ≠ 6 → x ≠ 7 → (x < o ∨ o + 6 ≤ x) → h1.1 x = h.1 x) ∧ h1.2 = h.2 ∧ ∀ j, j ≠ 2 → h1.1 1 j = h.1 1 j
theorem HKo.f0 {q : Nat} {h1 : AH} (X : HF0 h q h1) : HKo o h h1 := ⟨fun x a b c d e _ => X.1 x a b c d e, X.2.1, X.2.2.1⟩
theorem HKo.sf {q : Nat} {h1 h2 : AH} (ho : o = 43 ∨ o = 49) (X : HF0 h q h1) (F : SF o h1 h2) : HKo o h h2 := ⟨fun x a b c d e f => by rw [F.2 x f]; exact X.1 x a b c d e, by rw [F.1]; exact X.2.1, fun j hj => by rw [F.2 1 (by omega)]; exact X.2.2.1 j hj⟩
theorem HKo.ks {h1 : AH} (X : HKo o h h1) (ho : o = 43 ∨ o = 49) (e : h.2.2 3 4 = o) : CKs h h1 ∧ KR h h1 := by
  obtain ⟨x1, x2, x3⟩ := X
  refine ⟨⟨fun x hx hs hp => ?_, x3 1 (by decide), by rw [x1 33 (by decide) (by decide) (by decide) (by decide) (by decide) (by omega)], fun x hx _ => ?_, by rw [x2]⟩, ⟨fun x hx => x1 x (by omega) (by omega) (by omega) (by omega) (by omega) (by omega), fun x hx => by rw [x2], by rw [x2]⟩⟩
  · unfold spP at hp
    refine x1 x (fun z => by subst z; exact absurd hs (by decide)) (fun z => by subst z; exact absurd hs (by decide)) (fun z => by subst z; exact absurd hs (by decide)) (fun z => by subst z; exact absurd hs (by decide)) (fun z => by subst z; exact absurd hs (by decide)) (by omega)
  · simp only [List.mem_cons, List.not_mem_nil, or_false] at hx
    rw [x1 x (by omega) (by omega) (by omega) (by omega) (by omega) (by omega)]
def HFo (bs : List Int) (o : Nat) (h : AH) (x : Option (Int32 × AH)) (r : Nat ⊕ (Nat → Int)) : Prop := match r with
  | .inl e => ∃ h1, x = some (ii e, h1) ∧ HKo o h h1
  | .inr H => (Wh H ∧ ∃ h1, x = some (ii (-1), h1) ∧ HKo o h h1 ∧ CH H o h1) ∨ (¬ Wh H ∧ ∃ h1, x = some (ii bs.length, h1) ∧ HKo o h h1)
theorem C_hfault (ok : okB bs) (t : TP 1 1 2 ii h bs) (ho : o = 43 ∨ o = 49) (er : h.2.2 3 4 = o) : HFo bs o h (f_HR_faultOf h) (htF bs 241 0 (iniH J)) := by
  have hFU := fu_1000
  have hl := ok.1
  have X0 : HF0 h 0 (wI h 1 2 (ii 0)) := ⟨fun x a _ _ _ _ => wI_ne a, rfl, fun j hj => by rw [wI_self, upd_ne hj], by rw [wI_self, upd_self]; rfl⟩
  obtain ⟨h1, z1, z2, z3⟩ : ∃ h1, HR_faultOf_L7 FU (ii 0) (wI h 1 2 (ii 0)) = some h1 ∧ HF0 h 0 h1 ∧ ∀ κ, κ < 5 → h1.1 4 κ = ii 0 := by
    refine lup (fun n k (x : AH) => HR_faultOf_L7 n (ii k) x) 5 (fun k x => HF0 h 0 x ∧ ∀ κ, κ < k → x.1 4 κ = ii 0) (fun y => ∃ h1, y = some h1 ∧ HF0 h 0 h1 ∧ ∀ κ, κ < 5 → h1.1 4 κ = ii 0) ?_ ?_ 5 0 FU _ (by omega) (by omega) ⟨X0, fun κ hk => by omega⟩
    · rintro n x ⟨r1, r2⟩
      refine ⟨x, ?_, r1, r2⟩
      simp (disch := omega) only [Option.bind_some, if_true, if_false, not_true_eq_false, not_false_eq_true, z0, ii_add, ii_sub, ii_mul, ifLeT, ifLeF, ifLtT, ifLtF, ifEqT, ifEqF, ifNeT, ifNeF, ifIn, nixZ, ii_i64, o0, o1, isInT, isInF, tn14, tn12, tn2, tn21, tn47, tn48, tn49, tn471, tn472, Int.reduceToNat, Int.toNat_natCast, Int.reduceAdd, Int.reduceSub, Int.reduceMul, Int.reduceNeg, Nat.reduceAdd, Nat.reduceSub, Nat.reduceMul, HR_faultOf_L7, HR_faultOf_L7_b, Int.cast_ofNat_Int]
    · rintro n k x hk ⟨r1, r2⟩
      right
      refine ⟨wI x 4 k (ii 0), ?_, r1.w (by decide), fun κ hκ => ?_⟩
      · show HR_faultOf_L7_b _ _ _ = _
        unfold HR_faultOf_L7_b
        rw [if_neg (by rw [ii_le (by omega) (by omega) (by omega) (by omega)]; omega), if_pos (by rw [ii_inb (by omega) (by omega)]; simp; omega), ii_nat (by omega) (by omega), Int.toNat_natCast, ii_sc]
      · rw [wI_self]
        by_cases e : κ = k
        · rw [e, upd_self]
        · rw [upd_ne e]; exact r2 κ (by omega)
  obtain ⟨h2, y1, y2, y3, y4, y5⟩ := C_fill (κ := 0) (n := 0) (by omega) (by omega) z2
  have y1' : f_HR_fillWithout (ii 0) (ii 0) h1 = some h2 := y1
  have X : HXc h 0 (iniH J) (iniH J 4).toNat h2 := by
    refine ⟨y2, ⟨fun κ hk => by rw [y3 4 (by decide), z3 κ hk, ini_c hk], fun κ n w hk v hw => ?_⟩, fun v hv => ?_⟩
    · obtain ⟨e1, e2⟩ := ini_v hk v
      subst e1; subst e2
      have hw4 : w < 4 := hw
      rw [ini_r hw4]
      exact y4 w (by omega)
    · have : iniH J 4 = 0 := ini_c (κ := 1) (by omega)
      rw [this] at hv
      exact absurd hv (by simp)
  have key := C_hts ok t 241 0 (iniH J) 0 FU h2 (Nat.zero_le _) (by omega) (by omega) (Nat.le_refl _) ini_hp X
  have hok := htF_ok ok 241 0 (iniH J) (Nat.zero_le _) (by omega) ini_hp
  have e0 : f_HR_faultOf h = HR_faultOf_L33 FU (ii ((0 : Nat) : Int)) h2 := by
    unfold f_HR_faultOf
    generalize FU = F at *
    rw [bind_eq z1, bind_eq y1']
    rfl
  rw [e0]
  generalize htF bs 241 0 (iniH J) = r at *
  rcases r with e | H
  · obtain ⟨h3, u1, u2⟩ := key
    exact ⟨h3, u1, HKo.f0 u2⟩
  · obtain ⟨p, h3, u1, u2⟩ := key
    have hok' : HP H (H 4).toNat := hok
    show _ ∨ _
    rw [u2]
    by_cases q7 : H 7 ≤ 0
    · rw [if_pos q7]
      exact Or.inr ⟨fun z => by have := z.1; omega, h3, rfl, HKo.f0 u1.1⟩
    · rw [if_neg q7]
      have st := C_settle hok' (by omega) ho (by rw [u1.1.2.1]; exact er) u1.2.1 u1.2.2
      rcases st with ⟨w, h4, v1, v2, v3⟩ | ⟨w, h4, v1, v2⟩
      · refine Or.inl ⟨w, h4, ?_, HKo.sf ho u1.1 v2, v3⟩
        rw [bind_eq v1]
        rfl
      · have hk := HKo.sf ho u1.1 v2
        refine Or.inr ⟨w, h4, ?_, hk⟩
        rw [bind_eq v1]
        simp only
        rw [if_pos i00, hk.2.2 1 (by decide), t.1]
end HL
