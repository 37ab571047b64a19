/-! the constructors of the leaves (printed by wip/gen/ctor.py) -/
def y_Tape_i : MethodName := ⟨"HeathForks$Tape", "<init>", "()V"⟩
def z_Tape : List Value := [.null, .int 0, .int 0]
theorem zf_Tape : ZF ("HeathForks$Tape", F_Tape, 3) z_Tape := ⟨T_Tape, ty_Tape, by decide +kernel⟩
theorem ct_Tape : ctB y_Tape_i prog_9_method_1_code 1 ("HeathForks$Tape", F_Tape, 3) := ⟨rfl, rfl, by decide +kernel, ⟨by decide, by decide⟩, (gwt1 38 rfl rfl), (gwt1 37 rfl rfl), (gwt1 35 rfl rfl), (gwt1 2 rfl rfl)⟩
def born_Tape (Γ : AG) (h0 : Nat) (u : Nat → Nat) : va_W := [(h0, .inr (1, [.ref (u 0), .int 0, .int 0]))] ++ ([((u 0), .inl (gc Γ 20, 240, .inl fun _ => 0))])
set_option maxHeartbeats 4000000 in
set_option maxRecDepth 100000 in
theorem m_Tape_i (Γ : AG) : CtM Γ y_Tape_i prog_9_method_1_code 1 1 1 240 1 z_Tape (born_Tape Γ) := by
  refine CtM.of (by decide) rfl (by decide) ?_
  intro h0 p e s m args below meth c A hAe C hin hr hlk ls hl
  refine cw_a0 C (lv_at hl 0 rfl) (by decide +kernel) ?_
  refine cw_obj C (idx := 3) (gwt1 39 rfl rfl) (gwt1 32 rfl rfl) (gwt1 33 rfl rfl) hl.1 (by decide +kernel) (Nat.le_of_ble_eq_true rfl) (Nat.le_of_ble_eq_true rfl) ?_
  refine cw_a0 C (lv_at hl 0 rfl) (by decide +kernel) ?_
  refine cw_si C (n := 240) (v := 240) (by decide +kernel) (by decide) ?_
  refine cw_newa C (atype := .int) 0 (n := 240) (k := 20) (N := 240) (a0 := (240, .inl fun _ => 0)) rfl (gwt1 55 rfl rfl) rfl (fun _ => rfl) (by decide) (by decide) (by decide) (Nat.le_of_ble_eq_true rfl) (Nat.le_of_ble_eq_true rfl) (by decide +kernel) (fun q8 => ?_)
  refine cw_put C hin (idx := 9) (ci := 1) (j := 0) (ty := (.array .int)) (fs' := [.ref q8, .int 0, .int 0]) rfl (by decide) (gwt1 40 rfl rfl) (by decide) rfl rfl (by decide +kernel) rfl rfl (Nat.le_of_ble_eq_true rfl) rfl (by decide +kernel) ?_
  refine cw_a0 C (lv_at hl 0 rfl) (by decide +kernel) ?_
  refine cw_ic C (n := 0) (v := 0) (by decide +kernel) (by decide) ?_
  refine cw_put C hin (idx := 15) (ci := 1) (j := 1) (ty := .int) (fs' := [.ref q8, .int 0, .int 0]) rfl (by decide) (gwt1 41 rfl rfl) (by decide) rfl rfl (by decide +kernel) rfl rfl (Nat.le_of_ble_eq_true rfl) rfl (by decide +kernel) ?_
  refine cw_a0 C (lv_at hl 0 rfl) (by decide +kernel) ?_
  refine cw_ic C (n := 0) (v := 0) (by decide +kernel) (by decide) ?_
  refine cw_put C hin (idx := 19) (ci := 1) (j := 2) (ty := .int) (fs' := [.ref q8, .int 0, .int 0]) rfl (by decide) (gwt1 44 rfl rfl) (by decide) rfl rfl (by decide +kernel) rfl rfl (Nat.le_of_ble_eq_true rfl) rfl (by decide +kernel) ?_
  exact cw_end C (lf [q8]) hr hlk hAe rfl (by decide +kernel)
def y_Heath_i : MethodName := ⟨"HeathForks$Heath", "<init>", "()V"⟩
def z_Heath : List Value := [.null, .null, .null, .null, .null, .int 0, .int 0, .int 0, .int 0, .int 0, .int 0, .int 0, .int 0, .int 0]
theorem zf_Heath : ZF ("HeathForks$Heath", F_Heath, 14) z_Heath := ⟨T_Heath, ty_Heath, by decide +kernel⟩
theorem ct_Heath : ctB y_Heath_i prog_4_method_1_code 1 ("HeathForks$Heath", F_Heath, 14) := ⟨rfl, rfl, by decide +kernel, ⟨by decide, by decide⟩, (gwt1 66 rfl rfl), (gwt1 65 rfl rfl), (gwt1 63 rfl rfl), (gwt1 4 rfl rfl)⟩
def born_Heath (Γ : AG) (h0 : Nat) (u : Nat → Nat) : va_W := [(h0, .inr (3, [.ref (u 0), .ref (u 1), .ref (u 2), .ref (u 3), .ref (u 4), .int 0, .int 0, .int 0, .int 0, .int 0, .int 0, .int 0, .int 0, .int 0]))] ++ ([((u 0), .inl (gc Γ 20, 30, .inl fun _ => 0))] ++ ([((u 1), .inl (gc Γ 20, 30, .inl fun _ => 0))] ++ ([((u 2), .inl (gc Γ 20, 30, .inl fun _ => 0))] ++ ([((u 3), .inl (gc Γ 20, 30, .inl fun _ => 0))] ++ ([((u 4), .inl (gc Γ 20, 36, .inl fun _ => 0))])))))
set_option maxHeartbeats 4000000 in
set_option maxRecDepth 100000 in
theorem m_Heath_i (Γ : AG) : CtM Γ y_Heath_i prog_4_method_1_code 1 1 5 156 3 z_Heath (born_Heath Γ) := by
  refine CtM.of (by decide) rfl (by decide) ?_
  intro h0 p e s m args below meth c A hAe C hin hr hlk ls hl
  refine cw_a0 C (lv_at hl 0 rfl) (by decide +kernel) ?_
  refine cw_obj C (idx := 3) (gwt1 67 rfl rfl) (gwt1 32 rfl rfl) (gwt1 33 rfl rfl) hl.1 (by decide +kernel) (Nat.le_of_ble_eq_true rfl) (Nat.le_of_ble_eq_true rfl) ?_
  refine cw_a0 C (lv_at hl 0 rfl) (by decide +kernel) ?_
  refine cw_bi C (n := 30) (v := 30) (by decide +kernel) (by decide) ?_
  refine cw_newa C (atype := .int) 0 (n := 30) (k := 20) (N := 30) (a0 := (30, .inl fun _ => 0)) rfl (gwt1 55 rfl rfl) rfl (fun _ => rfl) (by decide) (by decide) (by decide) (Nat.le_of_ble_eq_true rfl) (Nat.le_of_ble_eq_true rfl) (by decide +kernel) (fun q7 => ?_)
  refine cw_put C hin (idx := 9) (ci := 3) (j := 0) (ty := (.array .int)) (fs' := [.ref q7, .null, .null, .null, .null, .int 0, .int 0, .int 0, .int 0, .int 0, .int 0, .int 0, .int 0, .int 0]) rfl (by decide) (gwt1 68 rfl rfl) (by decide) rfl rfl (by decide +kernel) rfl rfl (Nat.le_of_ble_eq_true rfl) rfl (by decide +kernel) ?_
  refine cw_a0 C (lv_at hl 0 rfl) (by decide +kernel) ?_
  refine cw_bi C (n := 30) (v := 30) (by decide +kernel) (by decide) ?_
  refine cw_newa C (atype := .int) 0 (n := 30) (k := 20) (N := 30) (a0 := (30, .inl fun _ => 0)) rfl (gwt1 55 rfl rfl) rfl (fun _ => rfl) (by decide) (by decide) (by decide) (Nat.le_of_ble_eq_true rfl) (Nat.le_of_ble_eq_true rfl) (by decide +kernel) (fun q15 => ?_)
  refine cw_put C hin (idx := 15) (ci := 3) (j := 1) (ty := (.array .int)) (fs' := [.ref q7, .ref q15, .null, .null, .null, .int 0, .int 0, .int 0, .int 0, .int 0, .int 0, .int 0, .int 0, .int 0]) rfl (by decide) (gwt1 69 rfl rfl) (by decide) rfl rfl (by decide +kernel) rfl rfl (Nat.le_of_ble_eq_true rfl) rfl (by decide +kernel) ?_
  refine cw_a0 C (lv_at hl 0 rfl) (by decide +kernel) ?_
  refine cw_bi C (n := 30) (v := 30) (by decide +kernel) (by decide) ?_
  refine cw_newa C (atype := .int) 0 (n := 30) (k := 20) (N := 30) (a0 := (30, .inl fun _ => 0)) rfl (gwt1 55 rfl rfl) rfl (fun _ => rfl) (by decide) (by decide) (by decide) (Nat.le_of_ble_eq_true rfl) (Nat.le_of_ble_eq_true rfl) (by decide +kernel) (fun q23 => ?_)
  refine cw_put C hin (idx := 18) (ci := 3) (j := 2) (ty := (.array .int)) (fs' := [.ref q7, .ref q15, .ref q23, .null, .null, .int 0, .int 0, .int 0, .int 0, .int 0, .int 0, .int 0, .int 0, .int 0]) rfl (by decide) (gwt1 70 rfl rfl) (by decide) rfl rfl (by decide +kernel) rfl rfl (Nat.le_of_ble_eq_true rfl) rfl (by decide +kernel) ?_
  refine cw_a0 C (lv_at hl 0 rfl) (by decide +kernel) ?_
  refine cw_bi C (n := 30) (v := 30) (by decide +kernel) (by decide) ?_
  refine cw_newa C (atype := .int) 0 (n := 30) (k := 20) (N := 30) (a0 := (30, .inl fun _ => 0)) rfl (gwt1 55 rfl rfl) rfl (fun _ => rfl) (by decide) (by decide) (by decide) (Nat.le_of_ble_eq_true rfl) (Nat.le_of_ble_eq_true rfl) (by decide +kernel) (fun q31 => ?_)
  refine cw_put C hin (idx := 21) (ci := 3) (j := 3) (ty := (.array .int)) (fs' := [.ref q7, .ref q15, .ref q23, .ref q31, .null, .int 0, .int 0, .int 0, .int 0, .int 0, .int 0, .int 0, .int 0, .int 0]) rfl (by decide) (gwt1 71 rfl rfl) (by decide) rfl rfl (by decide +kernel) rfl rfl (Nat.le_of_ble_eq_true rfl) rfl (by decide +kernel) ?_
  refine cw_a0 C (lv_at hl 0 rfl) (by decide +kernel) ?_
  refine cw_bi C (n := 36) (v := 36) (by decide +kernel) (by decide) ?_
  refine cw_newa C (atype := .int) 0 (n := 36) (k := 20) (N := 36) (a0 := (36, .inl fun _ => 0)) rfl (gwt1 55 rfl rfl) rfl (fun _ => rfl) (by decide) (by decide) (by decide) (Nat.le_of_ble_eq_true rfl) (Nat.le_of_ble_eq_true rfl) (by decide +kernel) (fun q39 => ?_)
  refine cw_put C hin (idx := 24) (ci := 3) (j := 4) (ty := (.array .int)) (fs' := [.ref q7, .ref q15, .ref q23, .ref q31, .ref q39, .int 0, .int 0, .int 0, .int 0, .int 0, .int 0, .int 0, .int 0, .int 0]) rfl (by decide) (gwt1 72 rfl rfl) (by decide) rfl rfl (by decide +kernel) rfl rfl (Nat.le_of_ble_eq_true rfl) rfl (by decide +kernel) ?_
  refine cw_a0 C (lv_at hl 0 rfl) (by decide +kernel) ?_
  refine cw_ic C (n := 0) (v := 0) (by decide +kernel) (by decide) ?_
  refine cw_put C hin (idx := 27) (ci := 3) (j := 5) (ty := .int) (fs' := [.ref q7, .ref q15, .ref q23, .ref q31, .ref q39, .int 0, .int 0, .int 0, .int 0, .int 0, .int 0, .int 0, .int 0, .int 0]) rfl (by decide) (gwt1 73 rfl rfl) (by decide) rfl rfl (by decide +kernel) rfl rfl (Nat.le_of_ble_eq_true rfl) rfl (by decide +kernel) ?_
  refine cw_a0 C (lv_at hl 0 rfl) (by decide +kernel) ?_
  refine cw_ic C (n := 0) (v := 0) (by decide +kernel) (by decide) ?_
  refine cw_put C hin (idx := 31) (ci := 3) (j := 6) (ty := .int) (fs' := [.ref q7, .ref q15, .ref q23, .ref q31, .ref q39, .int 0, .int 0, .int 0, .int 0, .int 0, .int 0, .int 0, .int 0, .int 0]) rfl (by decide) (gwt1 75 rfl rfl) (by decide) rfl rfl (by decide +kernel) rfl rfl (Nat.le_of_ble_eq_true rfl) rfl (by decide +kernel) ?_
  refine cw_a0 C (lv_at hl 0 rfl) (by decide +kernel) ?_
  refine cw_ic C (n := 0) (v := 0) (by decide +kernel) (by decide) ?_
  refine cw_put C hin (idx := 34) (ci := 3) (j := 7) (ty := .int) (fs' := [.ref q7, .ref q15, .ref q23, .ref q31, .ref q39, .int 0, .int 0, .int 0, .int 0, .int 0, .int 0, .int 0, .int 0, .int 0]) rfl (by decide) (gwt1 77 rfl rfl) (by decide) rfl rfl (by decide +kernel) rfl rfl (Nat.le_of_ble_eq_true rfl) rfl (by decide +kernel) ?_
  refine cw_a0 C (lv_at hl 0 rfl) (by decide +kernel) ?_
  refine cw_ic C (n := 0) (v := 0) (by decide +kernel) (by decide) ?_
  refine cw_put C hin (idx := 37) (ci := 3) (j := 8) (ty := .int) (fs' := [.ref q7, .ref q15, .ref q23, .ref q31, .ref q39, .int 0, .int 0, .int 0, .int 0, .int 0, .int 0, .int 0, .int 0, .int 0]) rfl (by decide) (gwt1 79 rfl rfl) (by decide) rfl rfl (by decide +kernel) rfl rfl (Nat.le_of_ble_eq_true rfl) rfl (by decide +kernel) ?_
  refine cw_a0 C (lv_at hl 0 rfl) (by decide +kernel) ?_
  refine cw_ic C (n := 0) (v := 0) (by decide +kernel) (by decide) ?_
  refine cw_put C hin (idx := 40) (ci := 3) (j := 9) (ty := .int) (fs' := [.ref q7, .ref q15, .ref q23, .ref q31, .ref q39, .int 0, .int 0, .int 0, .int 0, .int 0, .int 0, .int 0, .int 0, .int 0]) rfl (by decide) (gwt1 82 rfl rfl) (by decide) rfl rfl (by decide +kernel) rfl rfl (Nat.le_of_ble_eq_true rfl) rfl (by decide +kernel) ?_
  refine cw_a0 C (lv_at hl 0 rfl) (by decide +kernel) ?_
  refine cw_ic C (n := 0) (v := 0) (by decide +kernel) (by decide) ?_
  refine cw_put C hin (idx := 43) (ci := 3) (j := 10) (ty := .int) (fs' := [.ref q7, .ref q15, .ref q23, .ref q31, .ref q39, .int 0, .int 0, .int 0, .int 0, .int 0, .int 0, .int 0, .int 0, .int 0]) rfl (by decide) (gwt1 86 rfl rfl) (by decide) rfl rfl (by decide +kernel) rfl rfl (Nat.le_of_ble_eq_true rfl) rfl (by decide +kernel) ?_
  refine cw_a0 C (lv_at hl 0 rfl) (by decide +kernel) ?_
  refine cw_ic C (n := 0) (v := 0) (by decide +kernel) (by decide) ?_
  refine cw_put C hin (idx := 46) (ci := 3) (j := 11) (ty := .int) (fs' := [.ref q7, .ref q15, .ref q23, .ref q31, .ref q39, .int 0, .int 0, .int 0, .int 0, .int 0, .int 0, .int 0, .int 0, .int 0]) rfl (by decide) (gwt1 89 rfl rfl) (by decide) rfl rfl (by decide +kernel) rfl rfl (Nat.le_of_ble_eq_true rfl) rfl (by decide +kernel) ?_
  refine cw_a0 C (lv_at hl 0 rfl) (by decide +kernel) ?_
  refine cw_ic C (n := 0) (v := 0) (by decide +kernel) (by decide) ?_
  refine cw_put C hin (idx := 49) (ci := 3) (j := 12) (ty := .int) (fs' := [.ref q7, .ref q15, .ref q23, .ref q31, .ref q39, .int 0, .int 0, .int 0, .int 0, .int 0, .int 0, .int 0, .int 0, .int 0]) rfl (by decide) (gwt1 91 rfl rfl) (by decide) rfl rfl (by decide +kernel) rfl rfl (Nat.le_of_ble_eq_true rfl) rfl (by decide +kernel) ?_
  refine cw_a0 C (lv_at hl 0 rfl) (by decide +kernel) ?_
  refine cw_ic C (n := 0) (v := 0) (by decide +kernel) (by decide) ?_
  refine cw_put C hin (idx := 52) (ci := 3) (j := 13) (ty := .int) (fs' := [.ref q7, .ref q15, .ref q23, .ref q31, .ref q39, .int 0, .int 0, .int 0, .int 0, .int 0, .int 0, .int 0, .int 0, .int 0]) rfl (by decide) (gwt1 92 rfl rfl) (by decide) rfl rfl (by decide +kernel) rfl rfl (Nat.le_of_ble_eq_true rfl) rfl (by decide +kernel) ?_
  exact cw_end C (lf [q7, q15, q23, q31, q39]) hr hlk hAe rfl (by decide +kernel)
def y_Law_i : MethodName := ⟨"HeathForks$Law", "<init>", "()V"⟩
def z_Law : List Value := [.null, .null, .int 0, .int 0]
theorem zf_Law : ZF ("HeathForks$Law", F_Law, 4) z_Law := ⟨T_Law, ty_Law, by decide +kernel⟩
theorem ct_Law : ctB y_Law_i prog_6_method_1_code 1 ("HeathForks$Law", F_Law, 4) := ⟨rfl, rfl, by decide +kernel, ⟨by decide, by decide⟩, (gwt1 149 rfl rfl), (gwt1 148 rfl rfl), (gwt1 146 rfl rfl), (gwt1 6 rfl rfl)⟩
def born_Law (Γ : AG) (h0 : Nat) (u : Nat → Nat) : va_W := [(h0, .inr (5, [.ref (u 0), .ref (u 1), .int 0, .int 0]))] ++ ([((u 0), .inl (gc Γ 20, 240, .inl fun _ => 0))] ++ ([((u 1), .inl (gc Γ 20, 64, .inl fun _ => 0))]))
set_option maxHeartbeats 4000000 in
set_option maxRecDepth 100000 in
theorem m_Law_i (Γ : AG) : CtM Γ y_Law_i prog_6_method_1_code 1 1 2 304 5 z_Law (born_Law Γ) := by
  refine CtM.of (by decide) rfl (by decide) ?_
  intro h0 p e s m args below meth c A hAe C hin hr hlk ls hl
  refine cw_a0 C (lv_at hl 0 rfl) (by decide +kernel) ?_
  refine cw_obj C (idx := 3) (gwt1 150 rfl rfl) (gwt1 32 rfl rfl) (gwt1 33 rfl rfl) hl.1 (by decide +kernel) (Nat.le_of_ble_eq_true rfl) (Nat.le_of_ble_eq_true rfl) ?_
  refine cw_a0 C (lv_at hl 0 rfl) (by decide +kernel) ?_
  refine cw_si C (n := 240) (v := 240) (by decide +kernel) (by decide) ?_
  refine cw_newa C (atype := .int) 0 (n := 240) (k := 20) (N := 240) (a0 := (240, .inl fun _ => 0)) rfl (gwt1 55 rfl rfl) rfl (fun _ => rfl) (by decide) (by decide) (by decide) (Nat.le_of_ble_eq_true rfl) (Nat.le_of_ble_eq_true rfl) (by decide +kernel) (fun q8 => ?_)
  refine cw_put C hin (idx := 9) (ci := 5) (j := 0) (ty := (.array .int)) (fs' := [.ref q8, .null, .int 0, .int 0]) rfl (by decide) (gwt1 151 rfl rfl) (by decide) rfl rfl (by decide +kernel) rfl rfl (Nat.le_of_ble_eq_true rfl) rfl (by decide +kernel) ?_
  refine cw_a0 C (lv_at hl 0 rfl) (by decide +kernel) ?_
  refine cw_bi C (n := 64) (v := 64) (by decide +kernel) (by decide) ?_
  refine cw_newa C (atype := .int) 0 (n := 64) (k := 20) (N := 64) (a0 := (64, .inl fun _ => 0)) rfl (gwt1 55 rfl rfl) rfl (fun _ => rfl) (by decide) (by decide) (by decide) (Nat.le_of_ble_eq_true rfl) (Nat.le_of_ble_eq_true rfl) (by decide +kernel) (fun q16 => ?_)
  refine cw_put C hin (idx := 15) (ci := 5) (j := 1) (ty := (.array .int)) (fs' := [.ref q8, .ref q16, .int 0, .int 0]) rfl (by decide) (gwt1 152 rfl rfl) (by decide) rfl rfl (by decide +kernel) rfl rfl (Nat.le_of_ble_eq_true rfl) rfl (by decide +kernel) ?_
  refine cw_a0 C (lv_at hl 0 rfl) (by decide +kernel) ?_
  refine cw_ic C (n := 0) (v := 0) (by decide +kernel) (by decide) ?_
  refine cw_put C hin (idx := 18) (ci := 5) (j := 2) (ty := .int) (fs' := [.ref q8, .ref q16, .int 0, .int 0]) rfl (by decide) (gwt1 153 rfl rfl) (by decide) rfl rfl (by decide +kernel) rfl rfl (Nat.le_of_ble_eq_true rfl) rfl (by decide +kernel) ?_
  refine cw_a0 C (lv_at hl 0 rfl) (by decide +kernel) ?_
  refine cw_ic C (n := 0) (v := 0) (by decide +kernel) (by decide) ?_
  refine cw_put C hin (idx := 22) (ci := 5) (j := 3) (ty := .int) (fs' := [.ref q8, .ref q16, .int 0, .int 0]) rfl (by decide) (gwt1 155 rfl rfl) (by decide) rfl rfl (by decide +kernel) rfl rfl (Nat.le_of_ble_eq_true rfl) rfl (by decide +kernel) ?_
  exact cw_end C (lf [q8, q16]) hr hlk hAe rfl (by decide +kernel)
def y_Walks_i : MethodName := ⟨"HeathForks$Walks", "<init>", "()V"⟩
def z_Walks : List Value := [.null, .int 0]
theorem zf_Walks : ZF ("HeathForks$Walks", F_Walks, 2) z_Walks := ⟨T_Walks, ty_Walks, by decide +kernel⟩
theorem ct_Walks : ctB y_Walks_i prog_10_method_1_code 1 ("HeathForks$Walks", F_Walks, 2) := ⟨rfl, rfl, by decide +kernel, ⟨by decide, by decide⟩, (gwt1 179 rfl rfl), (gwt1 178 rfl rfl), (gwt1 176 rfl rfl), (gwt1 8 rfl rfl)⟩
def born_Walks (Γ : AG) (h0 : Nat) (u : Nat → Nat) : va_W := [(h0, .inr (7, [.ref (u 0), .int 0]))] ++ ([((u 0), .inl (gc Γ 20, 64, .inl fun _ => 0))])
set_option maxHeartbeats 4000000 in
set_option maxRecDepth 100000 in
theorem m_Walks_i (Γ : AG) : CtM Γ y_Walks_i prog_10_method_1_code 1 1 1 64 7 z_Walks (born_Walks Γ) := by
  refine CtM.of (by decide) rfl (by decide) ?_
  intro h0 p e s m args below meth c A hAe C hin hr hlk ls hl
  refine cw_a0 C (lv_at hl 0 rfl) (by decide +kernel) ?_
  refine cw_obj C (idx := 3) (gwt1 180 rfl rfl) (gwt1 32 rfl rfl) (gwt1 33 rfl rfl) hl.1 (by decide +kernel) (Nat.le_of_ble_eq_true rfl) (Nat.le_of_ble_eq_true rfl) ?_
  refine cw_a0 C (lv_at hl 0 rfl) (by decide +kernel) ?_
  refine cw_bi C (n := 64) (v := 64) (by decide +kernel) (by decide) ?_
  refine cw_newa C (atype := .int) 0 (n := 64) (k := 20) (N := 64) (a0 := (64, .inl fun _ => 0)) rfl (gwt1 55 rfl rfl) rfl (fun _ => rfl) (by decide) (by decide) (by decide) (Nat.le_of_ble_eq_true rfl) (Nat.le_of_ble_eq_true rfl) (by decide +kernel) (fun q7 => ?_)
  refine cw_put C hin (idx := 9) (ci := 7) (j := 0) (ty := (.array .int)) (fs' := [.ref q7, .int 0]) rfl (by decide) (gwt1 181 rfl rfl) (by decide) rfl rfl (by decide +kernel) rfl rfl (Nat.le_of_ble_eq_true rfl) rfl (by decide +kernel) ?_
  refine cw_a0 C (lv_at hl 0 rfl) (by decide +kernel) ?_
  refine cw_ic C (n := 0) (v := 0) (by decide +kernel) (by decide) ?_
  refine cw_put C hin (idx := 15) (ci := 7) (j := 1) (ty := .int) (fs' := [.ref q7, .int 0]) rfl (by decide) (gwt1 182 rfl rfl) (by decide) rfl rfl (by decide +kernel) rfl rfl (Nat.le_of_ble_eq_true rfl) rfl (by decide +kernel) ?_
  exact cw_end C (lf [q7]) hr hlk hAe rfl (by decide +kernel)
def y_Moor_i : MethodName := ⟨"HeathForks$Moor", "<init>", "()V"⟩
def z_Moor : List Value := [.null, .null, .null, .null, .null, .int 0, .int 0, .int 0, .int 0]
theorem zf_Moor : ZF ("HeathForks$Moor", F_Moor, 9) z_Moor := ⟨T_Moor, ty_Moor, by decide +kernel⟩
theorem ct_Moor : ctB y_Moor_i prog_8_method_1_code 1 ("HeathForks$Moor", F_Moor, 9) := ⟨rfl, rfl, by decide +kernel, ⟨by decide, by decide⟩, (gwt1 202 rfl rfl), (gwt1 201 rfl rfl), (gwt1 199 rfl rfl), (gwt1 9 rfl rfl)⟩
def born_Moor (Γ : AG) (h0 : Nat) (u : Nat → Nat) : va_W := [(h0, .inr (8, [.ref (u 0), .ref (u 1), .ref (u 2), .ref (u 3), .ref (u 4), .int 0, .int 0, .int 0, .int 0]))] ++ ([((u 0), .inl (gc Γ 20, 6, .inl fun _ => 0))] ++ ([((u 1), .inl (gc Γ 20, 6, .inl fun _ => 0))] ++ ([((u 2), .inl (gc Γ 20, 2, .inl fun _ => 0))] ++ ([((u 3), .inl (gc Γ 20, 100, .inl fun _ => 0))] ++ ([((u 4), .inl (gc Γ 20, 30, .inl fun _ => 0))])))))
set_option maxHeartbeats 4000000 in
set_option maxRecDepth 100000 in
theorem m_Moor_i (Γ : AG) : CtM Γ y_Moor_i prog_8_method_1_code 1 1 5 144 8 z_Moor (born_Moor Γ) := by
  refine CtM.of (by decide) rfl (by decide) ?_
  intro h0 p e s m args below meth c A hAe C hin hr hlk ls hl
  refine cw_a0 C (lv_at hl 0 rfl) (by decide +kernel) ?_
  refine cw_obj C (idx := 3) (gwt1 203 rfl rfl) (gwt1 32 rfl rfl) (gwt1 33 rfl rfl) hl.1 (by decide +kernel) (Nat.le_of_ble_eq_true rfl) (Nat.le_of_ble_eq_true rfl) ?_
  refine cw_a0 C (lv_at hl 0 rfl) (by decide +kernel) ?_
  refine cw_bi C (n := 6) (v := 6) (by decide +kernel) (by decide) ?_
  refine cw_newa C (atype := .int) 0 (n := 6) (k := 20) (N := 6) (a0 := (6, .inl fun _ => 0)) rfl (gwt1 55 rfl rfl) rfl (fun _ => rfl) (by decide) (by decide) (by decide) (Nat.le_of_ble_eq_true rfl) (Nat.le_of_ble_eq_true rfl) (by decide +kernel) (fun q7 => ?_)
  refine cw_put C hin (idx := 9) (ci := 8) (j := 0) (ty := (.array .int)) (fs' := [.ref q7, .null, .null, .null, .null, .int 0, .int 0, .int 0, .int 0]) rfl (by decide) (gwt1 204 rfl rfl) (by decide) rfl rfl (by decide +kernel) rfl rfl (Nat.le_of_ble_eq_true rfl) rfl (by decide +kernel) ?_
  refine cw_a0 C (lv_at hl 0 rfl) (by decide +kernel) ?_
  refine cw_bi C (n := 6) (v := 6) (by decide +kernel) (by decide) ?_
  refine cw_newa C (atype := .int) 0 (n := 6) (k := 20) (N := 6) (a0 := (6, .inl fun _ => 0)) rfl (gwt1 55 rfl rfl) rfl (fun _ => rfl) (by decide) (by decide) (by decide) (Nat.le_of_ble_eq_true rfl) (Nat.le_of_ble_eq_true rfl) (by decide +kernel) (fun q15 => ?_)
  refine cw_put C hin (idx := 15) (ci := 8) (j := 1) (ty := (.array .int)) (fs' := [.ref q7, .ref q15, .null, .null, .null, .int 0, .int 0, .int 0, .int 0]) rfl (by decide) (gwt1 205 rfl rfl) (by decide) rfl rfl (by decide +kernel) rfl rfl (Nat.le_of_ble_eq_true rfl) rfl (by decide +kernel) ?_
  refine cw_a0 C (lv_at hl 0 rfl) (by decide +kernel) ?_
  refine cw_ic C (n := 2) (v := 2) (by decide +kernel) (by decide) ?_
  refine cw_newa C (atype := .int) 0 (n := 2) (k := 20) (N := 2) (a0 := (2, .inl fun _ => 0)) rfl (gwt1 55 rfl rfl) rfl (fun _ => rfl) (by decide) (by decide) (by decide) (Nat.le_of_ble_eq_true rfl) (Nat.le_of_ble_eq_true rfl) (by decide +kernel) (fun q22 => ?_)
  refine cw_put C hin (idx := 18) (ci := 8) (j := 2) (ty := (.array .int)) (fs' := [.ref q7, .ref q15, .ref q22, .null, .null, .int 0, .int 0, .int 0, .int 0]) rfl (by decide) (gwt1 206 rfl rfl) (by decide) rfl rfl (by decide +kernel) rfl rfl (Nat.le_of_ble_eq_true rfl) rfl (by decide +kernel) ?_
  refine cw_a0 C (lv_at hl 0 rfl) (by decide +kernel) ?_
  refine cw_bi C (n := 100) (v := 100) (by decide +kernel) (by decide) ?_
  refine cw_newa C (atype := .int) 0 (n := 100) (k := 20) (N := 100) (a0 := (100, .inl fun _ => 0)) rfl (gwt1 55 rfl rfl) rfl (fun _ => rfl) (by decide) (by decide) (by decide) (Nat.le_of_ble_eq_true rfl) (Nat.le_of_ble_eq_true rfl) (by decide +kernel) (fun q30 => ?_)
  refine cw_put C hin (idx := 21) (ci := 8) (j := 3) (ty := (.array .int)) (fs' := [.ref q7, .ref q15, .ref q22, .ref q30, .null, .int 0, .int 0, .int 0, .int 0]) rfl (by decide) (gwt1 207 rfl rfl) (by decide) rfl rfl (by decide +kernel) rfl rfl (Nat.le_of_ble_eq_true rfl) rfl (by decide +kernel) ?_
  refine cw_a0 C (lv_at hl 0 rfl) (by decide +kernel) ?_
  refine cw_bi C (n := 30) (v := 30) (by decide +kernel) (by decide) ?_
  refine cw_newa C (atype := .int) 0 (n := 30) (k := 20) (N := 30) (a0 := (30, .inl fun _ => 0)) rfl (gwt1 55 rfl rfl) rfl (fun _ => rfl) (by decide) (by decide) (by decide) (Nat.le_of_ble_eq_true rfl) (Nat.le_of_ble_eq_true rfl) (by decide +kernel) (fun q38 => ?_)
  refine cw_put C hin (idx := 24) (ci := 8) (j := 4) (ty := (.array .int)) (fs' := [.ref q7, .ref q15, .ref q22, .ref q30, .ref q38, .int 0, .int 0, .int 0, .int 0]) rfl (by decide) (gwt1 208 rfl rfl) (by decide) rfl rfl (by decide +kernel) rfl rfl (Nat.le_of_ble_eq_true rfl) rfl (by decide +kernel) ?_
  refine cw_a0 C (lv_at hl 0 rfl) (by decide +kernel) ?_
  refine cw_ic C (n := 0) (v := 0) (by decide +kernel) (by decide) ?_
  refine cw_put C hin (idx := 27) (ci := 8) (j := 5) (ty := .int) (fs' := [.ref q7, .ref q15, .ref q22, .ref q30, .ref q38, .int 0, .int 0, .int 0, .int 0]) rfl (by decide) (gwt1 209 rfl rfl) (by decide) rfl rfl (by decide +kernel) rfl rfl (Nat.le_of_ble_eq_true rfl) rfl (by decide +kernel) ?_
  refine cw_a0 C (lv_at hl 0 rfl) (by decide +kernel) ?_
  refine cw_ic C (n := 0) (v := 0) (by decide +kernel) (by decide) ?_
  refine cw_put C hin (idx := 31) (ci := 8) (j := 6) (ty := .int) (fs' := [.ref q7, .ref q15, .ref q22, .ref q30, .ref q38, .int 0, .int 0, .int 0, .int 0]) rfl (by decide) (gwt1 210 rfl rfl) (by decide) rfl rfl (by decide +kernel) rfl rfl (Nat.le_of_ble_eq_true rfl) rfl (by decide +kernel) ?_
  refine cw_a0 C (lv_at hl 0 rfl) (by decide +kernel) ?_
  refine cw_ic C (n := 0) (v := 0) (by decide +kernel) (by decide) ?_
  refine cw_put C hin (idx := 34) (ci := 8) (j := 7) (ty := .int) (fs' := [.ref q7, .ref q15, .ref q22, .ref q30, .ref q38, .int 0, .int 0, .int 0, .int 0]) rfl (by decide) (gwt1 213 rfl rfl) (by decide) rfl rfl (by decide +kernel) rfl rfl (Nat.le_of_ble_eq_true rfl) rfl (by decide +kernel) ?_
  refine cw_a0 C (lv_at hl 0 rfl) (by decide +kernel) ?_
  refine cw_ic C (n := 0) (v := 0) (by decide +kernel) (by decide) ?_
  refine cw_put C hin (idx := 37) (ci := 8) (j := 8) (ty := .int) (fs' := [.ref q7, .ref q15, .ref q22, .ref q30, .ref q38, .int 0, .int 0, .int 0, .int 0]) rfl (by decide) (gwt1 215 rfl rfl) (by decide) rfl rfl (by decide +kernel) rfl rfl (Nat.le_of_ble_eq_true rfl) rfl (by decide +kernel) ?_
  exact cw_end C (lf [q7, q15, q22, q30, q38]) hr hlk hAe rfl (by decide +kernel)
def y_Acts_i : MethodName := ⟨"HeathForks$Acts", "<init>", "()V"⟩
def z_Acts : List Value := [.null, .int 0, .int 0]
theorem zf_Acts : ZF ("HeathForks$Acts", F_Acts, 3) z_Acts := ⟨T_Acts, ty_Acts, by decide +kernel⟩
theorem ct_Acts : ctB y_Acts_i prog_2_method_1_code 1 ("HeathForks$Acts", F_Acts, 3) := ⟨rfl, rfl, by decide +kernel, ⟨by decide, by decide⟩, (gwt2 0 rfl rfl), (gwt1 239 rfl rfl), (gwt1 237 rfl rfl), (gwt1 10 rfl rfl)⟩
def born_Acts (Γ : AG) (h0 : Nat) (u : Nat → Nat) : va_W := [(h0, .inr (9, [.ref (u 0), .int 0, .int 0]))] ++ ([((u 0), .inl (gc Γ 20, 160, .inl fun _ => 0))])
set_option maxHeartbeats 4000000 in
set_option maxRecDepth 100000 in
theorem m_Acts_i (Γ : AG) : CtM Γ y_Acts_i prog_2_method_1_code 1 1 1 160 9 z_Acts (born_Acts Γ) := by
  refine CtM.of (by decide) rfl (by decide) ?_
  intro h0 p e s m args below meth c A hAe C hin hr hlk ls hl
  refine cw_a0 C (lv_at hl 0 rfl) (by decide +kernel) ?_
  refine cw_obj C (idx := 3) (gwt2 1 rfl rfl) (gwt1 32 rfl rfl) (gwt1 33 rfl rfl) hl.1 (by decide +kernel) (Nat.le_of_ble_eq_true rfl) (Nat.le_of_ble_eq_true rfl) ?_
  refine cw_a0 C (lv_at hl 0 rfl) (by decide +kernel) ?_
  refine cw_si C (n := 160) (v := 160) (by decide +kernel) (by decide) ?_
  refine cw_newa C (atype := .int) 0 (n := 160) (k := 20) (N := 160) (a0 := (160, .inl fun _ => 0)) rfl (gwt1 55 rfl rfl) rfl (fun _ => rfl) (by decide) (by decide) (by decide) (Nat.le_of_ble_eq_true rfl) (Nat.le_of_ble_eq_true rfl) (by decide +kernel) (fun q8 => ?_)
  refine cw_put C hin (idx := 11) (ci := 9) (j := 0) (ty := (.array .int)) (fs' := [.ref q8, .int 0, .int 0]) rfl (by decide) (gwt2 2 rfl rfl) (by decide) rfl rfl (by decide +kernel) rfl rfl (Nat.le_of_ble_eq_true rfl) rfl (by decide +kernel) ?_
  refine cw_a0 C (lv_at hl 0 rfl) (by decide +kernel) ?_
  refine cw_ic C (n := 0) (v := 0) (by decide +kernel) (by decide) ?_
  refine cw_put C hin (idx := 15) (ci := 9) (j := 1) (ty := .int) (fs' := [.ref q8, .int 0, .int 0]) rfl (by decide) (gwt2 3 rfl rfl) (by decide) rfl rfl (by decide +kernel) rfl rfl (Nat.le_of_ble_eq_true rfl) rfl (by decide +kernel) ?_
  refine cw_a0 C (lv_at hl 0 rfl) (by decide +kernel) ?_
  refine cw_ic C (n := 0) (v := 0) (by decide +kernel) (by decide) ?_
  refine cw_put C hin (idx := 19) (ci := 9) (j := 2) (ty := .int) (fs' := [.ref q8, .int 0, .int 0]) rfl (by decide) (gwt2 5 rfl rfl) (by decide) rfl rfl (by decide +kernel) rfl rfl (Nat.le_of_ble_eq_true rfl) rfl (by decide +kernel) ?_
  exact cw_end C (lf [q8]) hr hlk hAe rfl (by decide +kernel)
def y_Heard_i : MethodName := ⟨"HeathForks$Heard", "<init>", "()V"⟩
def z_Heard : List Value := [.null, .null, .null, .null, .null, .int 0, .int 0, .int 0, .int 0, .int 0]
theorem zf_Heard : ZF ("HeathForks$Heard", F_Heard, 10) z_Heard := ⟨T_Heard, ty_Heard, by decide +kernel⟩
theorem ct_Heard : ctB y_Heard_i prog_3_method_1_code 1 ("HeathForks$Heard", F_Heard, 10) := ⟨rfl, rfl, by decide +kernel, ⟨by decide, by decide⟩, (gwt2 17 rfl rfl), (gwt2 16 rfl rfl), (gwt2 14 rfl rfl), (gwt1 11 rfl rfl)⟩
def born_Heard (Γ : AG) (h0 : Nat) (u : Nat → Nat) : va_W := [(h0, .inr (10, [.ref (u 0), .ref (u 1), .ref (u 2), .ref (u 3), .ref (u 4), .int 0, .int 0, .int 0, .int 0, .int 0]))] ++ ([((u 0), .inl (gc Γ 20, 12, .inl fun _ => 0))] ++ ([((u 1), .inl (gc Γ 20, 12, .inl fun _ => 0))] ++ ([((u 2), .inl (gc Γ 22, 12, .inl fun _ => 0))] ++ ([((u 3), .inl (gc Γ 20, 480, .inl fun _ => 0))] ++ ([((u 4), .inl (gc Γ 20, 30, .inl fun _ => 0))])))))
set_option maxHeartbeats 4000000 in
set_option maxRecDepth 100000 in
theorem m_Heard_i (Γ : AG) : CtM Γ y_Heard_i prog_3_method_1_code 1 1 5 546 10 z_Heard (born_Heard Γ) := by
  refine CtM.of (by decide) rfl (by decide) ?_
  intro h0 p e s m args below meth c A hAe C hin hr hlk ls hl
  refine cw_a0 C (lv_at hl 0 rfl) (by decide +kernel) ?_
  refine cw_obj C (idx := 3) (gwt2 18 rfl rfl) (gwt1 32 rfl rfl) (gwt1 33 rfl rfl) hl.1 (by decide +kernel) (Nat.le_of_ble_eq_true rfl) (Nat.le_of_ble_eq_true rfl) ?_
  refine cw_a0 C (lv_at hl 0 rfl) (by decide +kernel) ?_
  refine cw_bi C (n := 12) (v := 12) (by decide +kernel) (by decide) ?_
  refine cw_newa C (atype := .int) 0 (n := 12) (k := 20) (N := 12) (a0 := (12, .inl fun _ => 0)) rfl (gwt1 55 rfl rfl) rfl (fun _ => rfl) (by decide) (by decide) (by decide) (Nat.le_of_ble_eq_true rfl) (Nat.le_of_ble_eq_true rfl) (by decide +kernel) (fun q7 => ?_)
  refine cw_put C hin (idx := 9) (ci := 10) (j := 0) (ty := (.array .int)) (fs' := [.ref q7, .null, .null, .null, .null, .int 0, .int 0, .int 0, .int 0, .int 0]) rfl (by decide) (gwt2 19 rfl rfl) (by decide) rfl rfl (by decide +kernel) rfl rfl (Nat.le_of_ble_eq_true rfl) rfl (by decide +kernel) ?_
  refine cw_a0 C (lv_at hl 0 rfl) (by decide +kernel) ?_
  refine cw_bi C (n := 12) (v := 12) (by decide +kernel) (by decide) ?_
  refine cw_newa C (atype := .int) 0 (n := 12) (k := 20) (N := 12) (a0 := (12, .inl fun _ => 0)) rfl (gwt1 55 rfl rfl) rfl (fun _ => rfl) (by decide) (by decide) (by decide) (Nat.le_of_ble_eq_true rfl) (Nat.le_of_ble_eq_true rfl) (by decide +kernel) (fun q15 => ?_)
  refine cw_put C hin (idx := 15) (ci := 10) (j := 1) (ty := (.array .int)) (fs' := [.ref q7, .ref q15, .null, .null, .null, .int 0, .int 0, .int 0, .int 0, .int 0]) rfl (by decide) (gwt2 20 rfl rfl) (by decide) rfl rfl (by decide +kernel) rfl rfl (Nat.le_of_ble_eq_true rfl) rfl (by decide +kernel) ?_
  refine cw_a0 C (lv_at hl 0 rfl) (by decide +kernel) ?_
  refine cw_bi C (n := 12) (v := 12) (by decide +kernel) (by decide) ?_
  refine cw_newa C (atype := .boolean) 2 (n := 12) (k := 22) (N := 12) (a0 := (12, .inl fun _ => 0)) rfl (gwt2 53 rfl rfl) rfl (fun _ => rfl) (by decide) (by decide) (by decide) (Nat.le_of_ble_eq_true rfl) (Nat.le_of_ble_eq_true rfl) (by decide +kernel) (fun q23 => ?_)
  refine cw_put C hin (idx := 18) (ci := 10) (j := 2) (ty := (.array .boolean)) (fs' := [.ref q7, .ref q15, .ref q23, .null, .null, .int 0, .int 0, .int 0, .int 0, .int 0]) rfl (by decide) (gwt2 21 rfl rfl) (by decide) rfl rfl (by decide +kernel) rfl rfl (Nat.le_of_ble_eq_true rfl) rfl (by decide +kernel) ?_
  refine cw_a0 C (lv_at hl 0 rfl) (by decide +kernel) ?_
  refine cw_si C (n := 480) (v := 480) (by decide +kernel) (by decide) ?_
  refine cw_newa C (atype := .int) 0 (n := 480) (k := 20) (N := 480) (a0 := (480, .inl fun _ => 0)) rfl (gwt1 55 rfl rfl) rfl (fun _ => rfl) (by decide) (by decide) (by decide) (Nat.le_of_ble_eq_true rfl) (Nat.le_of_ble_eq_true rfl) (by decide +kernel) (fun q32 => ?_)
  refine cw_put C hin (idx := 22) (ci := 10) (j := 3) (ty := (.array .int)) (fs' := [.ref q7, .ref q15, .ref q23, .ref q32, .null, .int 0, .int 0, .int 0, .int 0, .int 0]) rfl (by decide) (gwt2 22 rfl rfl) (by decide) rfl rfl (by decide +kernel) rfl rfl (Nat.le_of_ble_eq_true rfl) rfl (by decide +kernel) ?_
  refine cw_a0 C (lv_at hl 0 rfl) (by decide +kernel) ?_
  refine cw_bi C (n := 30) (v := 30) (by decide +kernel) (by decide) ?_
  refine cw_newa C (atype := .int) 0 (n := 30) (k := 20) (N := 30) (a0 := (30, .inl fun _ => 0)) rfl (gwt1 55 rfl rfl) rfl (fun _ => rfl) (by decide) (by decide) (by decide) (Nat.le_of_ble_eq_true rfl) (Nat.le_of_ble_eq_true rfl) (by decide +kernel) (fun q40 => ?_)
  refine cw_put C hin (idx := 25) (ci := 10) (j := 4) (ty := (.array .int)) (fs' := [.ref q7, .ref q15, .ref q23, .ref q32, .ref q40, .int 0, .int 0, .int 0, .int 0, .int 0]) rfl (by decide) (gwt2 23 rfl rfl) (by decide) rfl rfl (by decide +kernel) rfl rfl (Nat.le_of_ble_eq_true rfl) rfl (by decide +kernel) ?_
  refine cw_a0 C (lv_at hl 0 rfl) (by decide +kernel) ?_
  refine cw_ic C (n := 0) (v := 0) (by decide +kernel) (by decide) ?_
  refine cw_put C hin (idx := 28) (ci := 10) (j := 5) (ty := .int) (fs' := [.ref q7, .ref q15, .ref q23, .ref q32, .ref q40, .int 0, .int 0, .int 0, .int 0, .int 0]) rfl (by decide) (gwt2 24 rfl rfl) (by decide) rfl rfl (by decide +kernel) rfl rfl (Nat.le_of_ble_eq_true rfl) rfl (by decide +kernel) ?_
  refine cw_a0 C (lv_at hl 0 rfl) (by decide +kernel) ?_
  refine cw_ic C (n := 0) (v := 0) (by decide +kernel) (by decide) ?_
  refine cw_put C hin (idx := 32) (ci := 10) (j := 6) (ty := .int) (fs' := [.ref q7, .ref q15, .ref q23, .ref q32, .ref q40, .int 0, .int 0, .int 0, .int 0, .int 0]) rfl (by decide) (gwt2 26 rfl rfl) (by decide) rfl rfl (by decide +kernel) rfl rfl (Nat.le_of_ble_eq_true rfl) rfl (by decide +kernel) ?_
  refine cw_a0 C (lv_at hl 0 rfl) (by decide +kernel) ?_
  refine cw_ic C (n := 0) (v := 0) (by decide +kernel) (by decide) ?_
  refine cw_put C hin (idx := 35) (ci := 10) (j := 7) (ty := .int) (fs' := [.ref q7, .ref q15, .ref q23, .ref q32, .ref q40, .int 0, .int 0, .int 0, .int 0, .int 0]) rfl (by decide) (gwt2 27 rfl rfl) (by decide) rfl rfl (by decide +kernel) rfl rfl (Nat.le_of_ble_eq_true rfl) rfl (by decide +kernel) ?_
  refine cw_a0 C (lv_at hl 0 rfl) (by decide +kernel) ?_
  refine cw_ic C (n := 0) (v := 0) (by decide +kernel) (by decide) ?_
  refine cw_put C hin (idx := 38) (ci := 10) (j := 8) (ty := .int) (fs' := [.ref q7, .ref q15, .ref q23, .ref q32, .ref q40, .int 0, .int 0, .int 0, .int 0, .int 0]) rfl (by decide) (gwt2 28 rfl rfl) (by decide) rfl rfl (by decide +kernel) rfl rfl (Nat.le_of_ble_eq_true rfl) rfl (by decide +kernel) ?_
  refine cw_a0 C (lv_at hl 0 rfl) (by decide +kernel) ?_
  refine cw_ic C (n := 0) (v := 0) (by decide +kernel) (by decide) ?_
  refine cw_put C hin (idx := 41) (ci := 10) (j := 9) (ty := .int) (fs' := [.ref q7, .ref q15, .ref q23, .ref q32, .ref q40, .int 0, .int 0, .int 0, .int 0, .int 0]) rfl (by decide) (gwt2 30 rfl rfl) (by decide) rfl rfl (by decide +kernel) rfl rfl (Nat.le_of_ble_eq_true rfl) rfl (by decide +kernel) ?_
  exact cw_end C (lf [q7, q15, q23, q32, q40]) hr hlk hAe rfl (by decide +kernel)
def y_Plan_i : MethodName := ⟨"HeathForks$WellPlan", "<init>", "()V"⟩
def z_Plan : List Value := [.null, .null, .null, .int 0, .int 0, .int 0, .int 0, .int 0, .int 0, .int 0, .int 0]
theorem zf_Plan : ZF ("HeathForks$WellPlan", F_Plan, 11) z_Plan := ⟨T_Plan, ty_Plan, by decide +kernel⟩
theorem ct_Plan : ctB y_Plan_i prog_12_method_1_code 1 ("HeathForks$WellPlan", F_Plan, 11) := ⟨rfl, rfl, by decide +kernel, ⟨by decide, by decide⟩, (gwt2 58 rfl rfl), (gwt2 57 rfl rfl), (gwt2 55 rfl rfl), (gwt1 12 rfl rfl)⟩
def born_Plan (Γ : AG) (h0 : Nat) (u : Nat → Nat) : va_W := [(h0, .inr (11, [.ref (u 0), .ref (u 1), .ref (u 2), .int 0, .int 0, .int 0, .int 0, .int 0, .int 0, .int 0, .int 0]))] ++ ([((u 0), .inl (gc Γ 20, 30, .inl fun _ => 0))] ++ ([((u 1), .inl (gc Γ 20, 30, .inl fun _ => 0))] ++ ([((u 2), .inl (gc Γ 20, 30, .inl fun _ => 0))])))
set_option maxHeartbeats 4000000 in
set_option maxRecDepth 100000 in
theorem m_Plan_i (Γ : AG) : CtM Γ y_Plan_i prog_12_method_1_code 1 1 3 90 11 z_Plan (born_Plan Γ) := by
  refine CtM.of (by decide) rfl (by decide) ?_
  intro h0 p e s m args below meth c A hAe C hin hr hlk ls hl
  refine cw_a0 C (lv_at hl 0 rfl) (by decide +kernel) ?_
  refine cw_obj C (idx := 3) (gwt2 59 rfl rfl) (gwt1 32 rfl rfl) (gwt1 33 rfl rfl) hl.1 (by decide +kernel) (Nat.le_of_ble_eq_true rfl) (Nat.le_of_ble_eq_true rfl) ?_
  refine cw_a0 C (lv_at hl 0 rfl) (by decide +kernel) ?_
  refine cw_bi C (n := 30) (v := 30) (by decide +kernel) (by decide) ?_
  refine cw_newa C (atype := .int) 0 (n := 30) (k := 20) (N := 30) (a0 := (30, .inl fun _ => 0)) rfl (gwt1 55 rfl rfl) rfl (fun _ => rfl) (by decide) (by decide) (by decide) (Nat.le_of_ble_eq_true rfl) (Nat.le_of_ble_eq_true rfl) (by decide +kernel) (fun q7 => ?_)
  refine cw_put C hin (idx := 9) (ci := 11) (j := 0) (ty := (.array .int)) (fs' := [.ref q7, .null, .null, .int 0, .int 0, .int 0, .int 0, .int 0, .int 0, .int 0, .int 0]) rfl (by decide) (gwt2 60 rfl rfl) (by decide) rfl rfl (by decide +kernel) rfl rfl (Nat.le_of_ble_eq_true rfl) rfl (by decide +kernel) ?_
  refine cw_a0 C (lv_at hl 0 rfl) (by decide +kernel) ?_
  refine cw_bi C (n := 30) (v := 30) (by decide +kernel) (by decide) ?_
  refine cw_newa C (atype := .int) 0 (n := 30) (k := 20) (N := 30) (a0 := (30, .inl fun _ => 0)) rfl (gwt1 55 rfl rfl) rfl (fun _ => rfl) (by decide) (by decide) (by decide) (Nat.le_of_ble_eq_true rfl) (Nat.le_of_ble_eq_true rfl) (by decide +kernel) (fun q15 => ?_)
  refine cw_put C hin (idx := 15) (ci := 11) (j := 1) (ty := (.array .int)) (fs' := [.ref q7, .ref q15, .null, .int 0, .int 0, .int 0, .int 0, .int 0, .int 0, .int 0, .int 0]) rfl (by decide) (gwt2 61 rfl rfl) (by decide) rfl rfl (by decide +kernel) rfl rfl (Nat.le_of_ble_eq_true rfl) rfl (by decide +kernel) ?_
  refine cw_a0 C (lv_at hl 0 rfl) (by decide +kernel) ?_
  refine cw_bi C (n := 30) (v := 30) (by decide +kernel) (by decide) ?_
  refine cw_newa C (atype := .int) 0 (n := 30) (k := 20) (N := 30) (a0 := (30, .inl fun _ => 0)) rfl (gwt1 55 rfl rfl) rfl (fun _ => rfl) (by decide) (by decide) (by decide) (Nat.le_of_ble_eq_true rfl) (Nat.le_of_ble_eq_true rfl) (by decide +kernel) (fun q23 => ?_)
  refine cw_put C hin (idx := 18) (ci := 11) (j := 2) (ty := (.array .int)) (fs' := [.ref q7, .ref q15, .ref q23, .int 0, .int 0, .int 0, .int 0, .int 0, .int 0, .int 0, .int 0]) rfl (by decide) (gwt2 62 rfl rfl) (by decide) rfl rfl (by decide +kernel) rfl rfl (Nat.le_of_ble_eq_true rfl) rfl (by decide +kernel) ?_
  refine cw_a0 C (lv_at hl 0 rfl) (by decide +kernel) ?_
  refine cw_ic C (n := 0) (v := 0) (by decide +kernel) (by decide) ?_
  refine cw_put C hin (idx := 21) (ci := 11) (j := 3) (ty := .int) (fs' := [.ref q7, .ref q15, .ref q23, .int 0, .int 0, .int 0, .int 0, .int 0, .int 0, .int 0, .int 0]) rfl (by decide) (gwt2 63 rfl rfl) (by decide) rfl rfl (by decide +kernel) rfl rfl (Nat.le_of_ble_eq_true rfl) rfl (by decide +kernel) ?_
  refine cw_a0 C (lv_at hl 0 rfl) (by decide +kernel) ?_
  refine cw_ic C (n := 0) (v := 0) (by decide +kernel) (by decide) ?_
  refine cw_put C hin (idx := 25) (ci := 11) (j := 4) (ty := .int) (fs' := [.ref q7, .ref q15, .ref q23, .int 0, .int 0, .int 0, .int 0, .int 0, .int 0, .int 0, .int 0]) rfl (by decide) (gwt2 64 rfl rfl) (by decide) rfl rfl (by decide +kernel) rfl rfl (Nat.le_of_ble_eq_true rfl) rfl (by decide +kernel) ?_
  refine cw_a0 C (lv_at hl 0 rfl) (by decide +kernel) ?_
  refine cw_ic C (n := 0) (v := 0) (by decide +kernel) (by decide) ?_
  refine cw_put C hin (idx := 28) (ci := 11) (j := 5) (ty := .int) (fs' := [.ref q7, .ref q15, .ref q23, .int 0, .int 0, .int 0, .int 0, .int 0, .int 0, .int 0, .int 0]) rfl (by decide) (gwt2 65 rfl rfl) (by decide) rfl rfl (by decide +kernel) rfl rfl (Nat.le_of_ble_eq_true rfl) rfl (by decide +kernel) ?_
  refine cw_a0 C (lv_at hl 0 rfl) (by decide +kernel) ?_
  refine cw_ic C (n := 0) (v := 0) (by decide +kernel) (by decide) ?_
  refine cw_put C hin (idx := 31) (ci := 11) (j := 6) (ty := .int) (fs' := [.ref q7, .ref q15, .ref q23, .int 0, .int 0, .int 0, .int 0, .int 0, .int 0, .int 0, .int 0]) rfl (by decide) (gwt2 66 rfl rfl) (by decide) rfl rfl (by decide +kernel) rfl rfl (Nat.le_of_ble_eq_true rfl) rfl (by decide +kernel) ?_
  refine cw_a0 C (lv_at hl 0 rfl) (by decide +kernel) ?_
  refine cw_ic C (n := 0) (v := 0) (by decide +kernel) (by decide) ?_
  refine cw_put C hin (idx := 34) (ci := 11) (j := 7) (ty := .boolean) (fs' := [.ref q7, .ref q15, .ref q23, .int 0, .int 0, .int 0, .int 0, .int 0, .int 0, .int 0, .int 0]) rfl (by decide) (gwt2 67 rfl rfl) (by decide) rfl rfl (by decide +kernel) rfl rfl (Nat.le_of_ble_eq_true rfl) rfl (by decide +kernel) ?_
  refine cw_a0 C (lv_at hl 0 rfl) (by decide +kernel) ?_
  refine cw_ic C (n := 0) (v := 0) (by decide +kernel) (by decide) ?_
  refine cw_put C hin (idx := 38) (ci := 11) (j := 8) (ty := .int) (fs' := [.ref q7, .ref q15, .ref q23, .int 0, .int 0, .int 0, .int 0, .int 0, .int 0, .int 0, .int 0]) rfl (by decide) (gwt2 69 rfl rfl) (by decide) rfl rfl (by decide +kernel) rfl rfl (Nat.le_of_ble_eq_true rfl) rfl (by decide +kernel) ?_
  refine cw_a0 C (lv_at hl 0 rfl) (by decide +kernel) ?_
  refine cw_ic C (n := 0) (v := 0) (by decide +kernel) (by decide) ?_
  refine cw_put C hin (idx := 41) (ci := 11) (j := 9) (ty := .int) (fs' := [.ref q7, .ref q15, .ref q23, .int 0, .int 0, .int 0, .int 0, .int 0, .int 0, .int 0, .int 0]) rfl (by decide) (gwt2 71 rfl rfl) (by decide) rfl rfl (by decide +kernel) rfl rfl (Nat.le_of_ble_eq_true rfl) rfl (by decide +kernel) ?_
  refine cw_a0 C (lv_at hl 0 rfl) (by decide +kernel) ?_
  refine cw_ic C (n := 0) (v := 0) (by decide +kernel) (by decide) ?_
  refine cw_put C hin (idx := 44) (ci := 11) (j := 10) (ty := .int) (fs' := [.ref q7, .ref q15, .ref q23, .int 0, .int 0, .int 0, .int 0, .int 0, .int 0, .int 0, .int 0]) rfl (by decide) (gwt2 73 rfl rfl) (by decide) rfl rfl (by decide +kernel) rfl rfl (Nat.le_of_ble_eq_true rfl) rfl (by decide +kernel) ?_
  exact cw_end C (lf [q7, q15, q23]) hr hlk hAe rfl (by decide +kernel)
