/-! words of the shallow functions, and rows for their links -/
def FU : Nat := 100000
def remI (x y : Int32) : Int32 := x - x / y * y
def shlI (x y : Int32) : Int32 := x <<< (y &&& 31)
def shrI (x y : Int32) : Int32 := x >>> (y &&& 31)
def ushI (x y : Int32) : Int32 := (x.toUInt32 >>> (y.toUInt32 &&& Int32.toUInt32 31)).toInt32
def chI (x : Int32) : Int32 := (x.toUInt32 % 65536).toInt32
def remL (x y : Int64) : Int64 := x - x / y * y
def shlL (x : Int64) (y : Int32) : Int64 := x <<< (y.toInt64 &&& 63)
def ushL (x : Int64) (y : Int32) : Int64 := (x.toUInt64 >>> (y.toInt64.toUInt64 &&& Int64.toUInt64 63)).toInt64
def sm {α β γ : Type} (q : α ⊕ β) (f : α → γ) (g : β → γ) : γ := match q with
  | .inl a => f a
  | .inr b => g b
theorem ip {c : Prop} [Decidable c] {α : Type} {a b x : α} (hc : c) (h : (if c then a else b) = x) : a = x := by rwa [if_pos hc] at h
theorem ia {c : Prop} [Decidable c] {α : Type} {a b x : α} (hc : ¬ c) (h : (if c then a else b) = x) : b = x := by rwa [if_neg hc] at h
theorem gd {c : Prop} [Decidable c] {α : Type} {a : Option α} {x : α} (h : (if c then a else none) = some x) : c ∧ a = some x := by
  by_cases hc : c
  · exact ⟨hc, by rwa [if_pos hc] at h⟩
  · rw [if_neg hc] at h; cases h
theorem bd {α β : Type} {a : Option α} {f : α → Option β} {x : β} (h : a.bind f = some x) : ∃ q, a = some q ∧ f q = some x := by
  cases a with
  | none => cases h
  | some q => exact ⟨q, rfl, h⟩
section EVX
variable {Γ : AG} {μ : AM} {pc pc' : Nat} {lv lv' : LV} {st st' : List AV} {h h' h'' : AH} {r : Option AV} {g : Prop}
theorem look_d {ps : List (Int × Int)} {d k : Int} (h : ∀ q ∈ ps, k ≠ q.1) : Op.lookupswitch.offset ps d k = d := by
  induction ps with
  | nil => rfl
  | cons q l ih =>
    obtain ⟨a, o⟩ := q
    rw [Op.lookupswitch.offset_cons, if_neg ?_, ih (fun z hz => h z (List.mem_cons_of_mem _ hz))]
    have h1 := h (a, o) List.mem_cons_self
    exact fun z => h1 (by first | exact z | exact z.symm | (simp at z; omega))
theorem Ev.lookD (i tgt : Nat) {x : Int32} {d : Int} {ps : Array (Int × Int)} {len : Nat} (ht : tabOk (mb μ) (mt μ)) (hi' : (mt μ)[i]? = some (pc, .lookupswitch d ps, len)) (hp : (ps.toList.zip (ps.toList.drop 1)).all (fun (a, next) => a.1 < next.1) = true) (ho : ∀ q ∈ ps.toList, x ≠ ii q.1) (hto : (pc : Int) + d = (tgt : Int)) (w : Ev Γ μ tgt lv st h r h') : Ev Γ μ pc lv (vi x :: st) h r h' := by
  refine Ev.look i tgt ht hi' hp (look_d (fun q hq he => ho q hq ?_)) hto w
  rw [← he]
  exact (Int32.ofInt_toInt x).symm
def cpyOk (sp dp n : Int32) (n0 n1 : Nat) : Bool := decide (¬ sp < 0) && decide (¬ dp < 0) && decide (¬ n < 0) && decide (sp.toNatClampNeg + n.toNatClampNeg ≤ n0) && decide (dp.toNatClampNeg + n.toNatClampNeg ≤ n1)
theorem Ev.copy (i : Nat) {idx : Nat} {n dp sp : Int32} {n0 o0 n1 o1 : Nat} {rest : List AV} (ht : tabOk (mb μ) (mt μ)) (hi : (mt μ)[i]? = some (pc, .invokestatic idx, 3)) (hl : Cond.methodLink (am_own.getD (mo μ) "") idx arraycopyName ∈ gw) (h1 : Cond.native arraycopyName ∈ gw) (h2 : Cond.static arraycopyName ∈ gw) (h3 : Cond.initialized "java/lang/System" ∈ gw) (hlev : 1 ≤ mv μ)
    (hcat : catS rest ≤ 8) (hg : cpyOk sp dp n n0 n1 = true) (w : Ev Γ μ (pc + 3) lv rest (wA h o1 (va_cpy (h.1 o0) (h.1 o1) sp.toNatClampNeg dp.toNatClampNeg n.toNatClampNeg)) r h') : Ev Γ μ pc lv (vi n :: vi dp :: vr 20 n1 o1 :: vi sp :: vr 20 n0 o0 :: rest) h r h' := by
  intro p e s m args below meth c C hrt hlk oh ol os H locs ls hP hD hS hL
  obtain ⟨hx, hb, hml, hown, hts, hK, hN, hT⟩ := id C
  have hd := tabAt ht hi
  have ov1 : okV (vr 20 n1 o1) := os _ (by simp)
  have ov0 : okV (vr 20 n0 o0) := os _ (by simp)
  have orr : okS rest := fun z hz => os z (by simp [hz])
  have hs1 := okV_ref (by decide) ov1
  have hs0 := okV_ref (by decide) ov0
  have he1 := wsA_at Γ h (sh_lt hs1)
  rw [ceA_int hs1 (Or.inl rfl)] at he1
  have he0 := wsA_at Γ h (sh_lt hs0)
  rw [ceA_int hs0 (Or.inl rfl)] at he0
  simp only [cpyOk, Bool.and_eq_true, decide_eq_true_eq] at hg
  obtain ⟨⟨⟨⟨g1, g2⟩, g3⟩, g4⟩, g5⟩ := hg
  have hset := wsA_set Γ h (wA h o1 (va_cpy (h.1 o0) (h.1 o1) sp.toNatClampNeg dp.toNatClampNeg n.toNatClampNeg)) (o := o1) (fun o' no => ce_wA no)
  rw [ceA_int hs1 (Or.inl rfl)] at hset
  have hz : (wA h o1 (va_cpy (h.1 o0) (h.1 o1) sp.toNatClampNeg dp.toNatClampNeg n.toNatClampNeg)).1 o1 = va_cpy (h.1 o0) (h.1 o1) sp.toNatClampNeg dp.toNatClampNeg n.toNatClampNeg := up2_self
  rw [hz] at hset
  refine va_copyi hx hb (by rw [hL.1]; exact hml) hown (hts _ hl) (hts _ h1) (hts _ h2) (hts _ h3) hK hP hD hS o0 o1 0 0 he0 he1 rfl rfl rfl g1 g2 g3 g4 g5 (fun _ _ => rfl) hlev ?_ hd (fun H1 locs1 hP1 hD1 hS1 => ?_)
  · rw [catS_eq]
    show catS rest + (7 + 11) ≤ 64 * mv μ
    omega
  · rw [hset] at hP1 hD1
    exact w p e s m args below meth c C hrt hlk (okH_wA oh) ol orr H1 locs1 ls hP1 hD1 hS1 hL
end EVX
