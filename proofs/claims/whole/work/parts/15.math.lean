/-! Math's, by the kit's rows -/
def p_Math_max (x y : Int32) : Int32 := if x < y then y else x
set_option maxRecDepth 20000 in
theorem mw_max1 : Cond.static Lib.Math.max.name ∈ gw := gwt2 230 rfl rfl
set_option maxRecDepth 20000 in
theorem mw_max2 : Cond.code Lib.Math.max.name Lib.Math.max.code 2 (some .int) ∈ gw := gwt2 231 rfl rfl
def p_Math_min (x y : Int32) : Int32 := if y < x then y else x
set_option maxRecDepth 20000 in
theorem mw_min1 : Cond.static Lib.Math.min.name ∈ gw := gwt2 233 rfl rfl
set_option maxRecDepth 20000 in
theorem mw_min2 : Cond.code Lib.Math.min.name Lib.Math.min.code 2 (some .int) ∈ gw := gwt2 234 rfl rfl
def p_Math_abs (x : Int32) : Int32 := if 0 ≤ x then x else 0 - x
set_option maxRecDepth 20000 in
theorem mw_abs1 : Cond.static Lib.Math.abs.name ∈ gw := gwt5 178 rfl rfl
set_option maxRecDepth 20000 in
theorem mw_abs2 : Cond.code Lib.Math.abs.name Lib.Math.abs.code 1 (some .int) ∈ gw := gwt5 179 rfl rfl
def p_Math_maxL (x y : Int64) : Int64 := if y < x then x else y
set_option maxRecDepth 20000 in
theorem mw_maxL1 : Cond.static Lib.MathLoose.max_long.x ∈ gw := gwt7 221 rfl rfl
set_option maxRecDepth 20000 in
theorem mw_maxL2 : Cond.code Lib.MathLoose.max_long.x Lib.MathLoose.max_long.code 4 (some .long) ∈ gw := gwt7 222 rfl rfl
def p_Math_minL (x y : Int64) : Int64 := if y < x then y else x
set_option maxRecDepth 20000 in
theorem mw_minL1 : Cond.static Lib.MathLoose.min_long.x ∈ gw := gwt7 218 rfl rfl
set_option maxRecDepth 20000 in
theorem mw_minL2 : Cond.code Lib.MathLoose.min_long.x Lib.MathLoose.min_long.code 4 (some .long) ∈ gw := gwt7 219 rfl rfl
theorem mw_ini : Cond.initialized "java/lang/Math" ∈ gw := gwt1 16 rfl rfl
section MATH
variable {Γ : AG} {μ : AM} {pc : Nat} {lv : LV} {h h' : AH} {r : Option AV}
theorem Ev.mmax (i : Nat) {idx : Nat} {x y : Int32} {rest : List AV} (ht : tabOk (mb μ) (mt μ)) (hi : (mt μ)[i]? = some (pc, .invokestatic idx, 3)) (hl : Cond.methodLink (am_own.getD (mo μ) "") idx Lib.Math.max.name ∈ gw) (hlev : 1 ≤ mv μ) (hcat : catS rest ≤ 8) (w : Ev Γ μ (pc + 3) lv (vi (p_Math_max x y) :: rest) h r h') : Ev Γ μ pc lv (vi y :: vi x :: rest) h r h' := by
  intro p e s m args below meth c C hrt hlk oh ol os H locs ls hP hD hS hL
  obtain ⟨hx, hb, hml, hown, hts, hK, hN, hT⟩ := id C
  have hd := tabAt ht hi
  have orr : okS rest := fun z hz => os z (by simp [hz])
  refine va_mmax hx hb (by rw [hL.1]; exact hml) hown (hts _ hl) (hts _ mw_max1) (hts _ mw_ini) (hts _ mw_max2) hlev ?_ (Nat.zero_le _) (Nat.zero_le _) hd (w p e s m args below meth c C hrt hlk oh ol (okS_cons.mpr ⟨trivial, orr⟩) H locs ls hP hD hS hL)
  rw [catS_eq]
  show catS rest + _ ≤ 64 * mv μ
  omega
theorem Ev.mmin (i : Nat) {idx : Nat} {x y : Int32} {rest : List AV} (ht : tabOk (mb μ) (mt μ)) (hi : (mt μ)[i]? = some (pc, .invokestatic idx, 3)) (hl : Cond.methodLink (am_own.getD (mo μ) "") idx Lib.Math.min.name ∈ gw) (hlev : 1 ≤ mv μ) (hcat : catS rest ≤ 8) (w : Ev Γ μ (pc + 3) lv (vi (p_Math_min x y) :: rest) h r h') : Ev Γ μ pc lv (vi y :: vi x :: rest) h r h' := by
  intro p e s m args below meth c C hrt hlk oh ol os H locs ls hP hD hS hL
  obtain ⟨hx, hb, hml, hown, hts, hK, hN, hT⟩ := id C
  have hd := tabAt ht hi
  have orr : okS rest := fun z hz => os z (by simp [hz])
  refine va_mmin hx hb (by rw [hL.1]; exact hml) hown (hts _ hl) (hts _ mw_min1) (hts _ mw_ini) (hts _ mw_min2) hlev ?_ (Nat.zero_le _) (Nat.zero_le _) hd (w p e s m args below meth c C hrt hlk oh ol (okS_cons.mpr ⟨trivial, orr⟩) H locs ls hP hD hS hL)
  rw [catS_eq]
  show catS rest + _ ≤ 64 * mv μ
  omega
theorem Ev.mabs (i : Nat) {idx : Nat} {x : Int32} {rest : List AV} (ht : tabOk (mb μ) (mt μ)) (hi : (mt μ)[i]? = some (pc, .invokestatic idx, 3)) (hl : Cond.methodLink (am_own.getD (mo μ) "") idx Lib.Math.abs.name ∈ gw) (hlev : 1 ≤ mv μ) (hcat : catS rest ≤ 8) (w : Ev Γ μ (pc + 3) lv (vi (p_Math_abs x) :: rest) h r h') : Ev Γ μ pc lv (vi x :: rest) h r h' := by
  intro p e s m args below meth c C hrt hlk oh ol os H locs ls hP hD hS hL
  obtain ⟨hx, hb, hml, hown, hts, hK, hN, hT⟩ := id C
  have hd := tabAt ht hi
  have orr : okS rest := fun z hz => os z (by simp [hz])
  refine va_mabs hx hb (by rw [hL.1]; exact hml) hown (hts _ hl) (hts _ mw_abs1) (hts _ mw_ini) (hts _ mw_abs2) hlev ?_ (Nat.zero_le _) (Nat.zero_le _) hd (w p e s m args below meth c C hrt hlk oh ol (okS_cons.mpr ⟨trivial, orr⟩) H locs ls hP hD hS hL)
  rw [catS_eq]
  show catS rest + _ ≤ 64 * mv μ
  omega
theorem Ev.mmaxL (i : Nat) {idx : Nat} {x y : Int64} {rest : List AV} (ht : tabOk (mb μ) (mt μ)) (hi : (mt μ)[i]? = some (pc, .invokestatic idx, 3)) (hl : Cond.methodLink (am_own.getD (mo μ) "") idx Lib.MathLoose.max_long.x ∈ gw) (hlev : 1 ≤ mv μ) (hcat : catS rest ≤ 8) (w : Ev Γ μ (pc + 3) lv (vl (p_Math_maxL x y) :: rest) h r h') : Ev Γ μ pc lv (vl y :: vl x :: rest) h r h' := by
  intro p e s m args below meth c C hrt hlk oh ol os H locs ls hP hD hS hL
  obtain ⟨hx, hb, hml, hown, hts, hK, hN, hT⟩ := id C
  have hd := tabAt ht hi
  have orr : okS rest := fun z hz => os z (by simp [hz])
  refine va_mmax_long hx hb (by rw [hL.1]; exact hml) hown (hts _ hl) (hts _ mw_maxL1) (hts _ mw_ini) (hts _ mw_maxL2) hlev ?_ (Nat.zero_le _) (Nat.zero_le _) hd (w p e s m args below meth c C hrt hlk oh ol (okS_cons.mpr ⟨trivial, orr⟩) H locs ls hP hD hS hL)
  rw [catS_eq]
  show catS rest + _ ≤ 64 * mv μ
  omega
theorem Ev.mminL (i : Nat) {idx : Nat} {x y : Int64} {rest : List AV} (ht : tabOk (mb μ) (mt μ)) (hi : (mt μ)[i]? = some (pc, .invokestatic idx, 3)) (hl : Cond.methodLink (am_own.getD (mo μ) "") idx Lib.MathLoose.min_long.x ∈ gw) (hlev : 1 ≤ mv μ) (hcat : catS rest ≤ 8) (w : Ev Γ μ (pc + 3) lv (vl (p_Math_minL x y) :: rest) h r h') : Ev Γ μ pc lv (vl y :: vl x :: rest) h r h' := by
  intro p e s m args below meth c C hrt hlk oh ol os H locs ls hP hD hS hL
  obtain ⟨hx, hb, hml, hown, hts, hK, hN, hT⟩ := id C
  have hd := tabAt ht hi
  have orr : okS rest := fun z hz => os z (by simp [hz])
  refine va_mmin_long hx hb (by rw [hL.1]; exact hml) hown (hts _ hl) (hts _ mw_minL1) (hts _ mw_ini) (hts _ mw_minL2) hlev ?_ (Nat.zero_le _) (Nat.zero_le _) hd (w p e s m args below meth c C hrt hlk oh ol (okS_cons.mpr ⟨trivial, orr⟩) H locs ls hP hD hS hL)
  rw [catS_eq]
  show catS rest + _ ≤ 64 * mv μ
  omega
end MATH
