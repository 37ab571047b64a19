/-! the readers' constructors, HeathForks' (printed by wip/gen/ctor.py) -/
def y_HR_i : MethodName := ⟨"HeathForks$HeathReader", "<init>", "()V"⟩
def z_HR : List Value := [.null, .null, .null, .null, .null]
theorem zf_HR : ZF ("HeathForks$HeathReader", F_HR, 5) z_HR := ⟨T_HR, ty_HR, by decide +kernel⟩
theorem ct_HR : ctB y_HR_i prog_5_method_1_code 1 ("HeathForks$HeathReader", F_HR, 5) := ⟨rfl, rfl, by decide +kernel, ⟨by decide, by decide⟩, (gwt1 60 rfl rfl), (gwt1 59 rfl rfl), (gwt1 57 rfl rfl), (gwt1 3 rfl rfl)⟩
def born_HR (Γ : AG) (h0 : Nat) (u : (Nat → Nat) × (Nat → Nat)) : va_W := [(h0, .inr (2, [.ref (u.1 0), .ref (u.1 1), .ref (u.1 2), .ref (u.1 3), .ref (u.1 4)]))] ++ ([((u.1 0), .inl (gc Γ 20, 5, .inl fun _ => 0))] ++ ([((u.1 1), .inl (gc Γ 20, 180, .inl fun _ => 0))] ++ ([((u.1 2), .inl (gc Γ 20, 32, .inl fun _ => 0))] ++ ([((u.1 3), .inl (gc Γ 20, 4, .inl fun _ => 0))] ++ (born_Heath Γ (u.1 4) u.2)))))
set_option maxHeartbeats 4000000 in
set_option maxRecDepth 100000 in
theorem m_HR_i (Γ : AG) : CtM Γ y_HR_i prog_5_method_1_code 1 2 10 391 2 z_HR (born_HR Γ) := by
  refine CtM.of (by decide) rfl (by decide) ?_
  intro h0 p e s m args below meth c A hAe C hin hr hlk ls hl
  refine cw_a0 C (lv_at hl 0 rfl) (by decide +kernel) ?_
  refine cw_obj C (idx := 3) (gwt1 61 rfl rfl) (gwt1 32 rfl rfl) (gwt1 33 rfl rfl) hl.1 (by decide +kernel) (Nat.le_of_ble_eq_true rfl) (Nat.le_of_ble_eq_true rfl) ?_
  refine cw_a0 C (lv_at hl 0 rfl) (by decide +kernel) ?_
  refine cw_ic C (n := 5) (v := 5) (by decide +kernel) (by decide) ?_
  refine cw_newa C (atype := .int) 0 (n := 5) (k := 20) (N := 5) (a0 := (5, .inl fun _ => 0)) rfl (gwt1 55 rfl rfl) rfl (fun _ => rfl) (by decide) (by decide) (by decide) (Nat.le_of_ble_eq_true rfl) (Nat.le_of_ble_eq_true rfl) (by decide +kernel) (fun q6 => ?_)
  refine cw_put C hin (idx := 9) (ci := 2) (j := 0) (ty := (.array .int)) (fs' := [.ref q6, .null, .null, .null, .null]) rfl (by decide) (gwt1 123 rfl rfl) (by decide) rfl rfl (by decide +kernel) rfl rfl (Nat.le_of_ble_eq_true rfl) rfl (by decide +kernel) ?_
  refine cw_a0 C (lv_at hl 0 rfl) (by decide +kernel) ?_
  refine cw_si C (n := 180) (v := 180) (by decide +kernel) (by decide) ?_
  refine cw_newa C (atype := .int) 0 (n := 180) (k := 20) (N := 180) (a0 := (180, .inl fun _ => 0)) rfl (gwt1 55 rfl rfl) rfl (fun _ => rfl) (by decide) (by decide) (by decide) (Nat.le_of_ble_eq_true rfl) (Nat.le_of_ble_eq_true rfl) (by decide +kernel) (fun q15 => ?_)
  refine cw_put C hin (idx := 15) (ci := 2) (j := 1) (ty := (.array .int)) (fs' := [.ref q6, .ref q15, .null, .null, .null]) rfl (by decide) (gwt1 124 rfl rfl) (by decide) rfl rfl (by decide +kernel) rfl rfl (Nat.le_of_ble_eq_true rfl) rfl (by decide +kernel) ?_
  refine cw_a0 C (lv_at hl 0 rfl) (by decide +kernel) ?_
  refine cw_bi C (n := 32) (v := 32) (by decide +kernel) (by decide) ?_
  refine cw_newa C (atype := .int) 0 (n := 32) (k := 20) (N := 32) (a0 := (32, .inl fun _ => 0)) rfl (gwt1 55 rfl rfl) rfl (fun _ => rfl) (by decide) (by decide) (by decide) (Nat.le_of_ble_eq_true rfl) (Nat.le_of_ble_eq_true rfl) (by decide +kernel) (fun q23 => ?_)
  refine cw_put C hin (idx := 18) (ci := 2) (j := 2) (ty := (.array .int)) (fs' := [.ref q6, .ref q15, .ref q23, .null, .null]) rfl (by decide) (gwt1 125 rfl rfl) (by decide) rfl rfl (by decide +kernel) rfl rfl (Nat.le_of_ble_eq_true rfl) rfl (by decide +kernel) ?_
  refine cw_a0 C (lv_at hl 0 rfl) (by decide +kernel) ?_
  refine cw_ic C (n := 4) (v := 4) (by decide +kernel) (by decide) ?_
  refine cw_newa C (atype := .int) 0 (n := 4) (k := 20) (N := 4) (a0 := (4, .inl fun _ => 0)) rfl (gwt1 55 rfl rfl) rfl (fun _ => rfl) (by decide) (by decide) (by decide) (Nat.le_of_ble_eq_true rfl) (Nat.le_of_ble_eq_true rfl) (by decide +kernel) (fun q30 => ?_)
  refine cw_put C hin (idx := 21) (ci := 2) (j := 3) (ty := (.array .int)) (fs' := [.ref q6, .ref q15, .ref q23, .ref q30, .null]) rfl (by decide) (gwt1 126 rfl rfl) (by decide) rfl rfl (by decide +kernel) rfl rfl (Nat.le_of_ble_eq_true rfl) rfl (by decide +kernel) ?_
  refine cw_a0 C (lv_at hl 0 rfl) (by decide +kernel) ?_
  refine cw_make C (ik := 24) (ic := 26) (m_Heath_i Γ) rfl zf_Heath ct_Heath (gwt1 62 rfl rfl) (Or.inl (nwt1 64 rfl rfl)) (Nat.le_of_ble_eq_true rfl) (Nat.le_of_ble_eq_true rfl) (Nat.le_of_ble_eq_true rfl) (Nat.le_of_ble_eq_true rfl) (Nat.le_of_ble_eq_true rfl) hl.1 (by decide +kernel) (by decide +kernel) (by decide +kernel) (fun q36 v36 => ?_)
  refine cw_put C hin (idx := 27) (ci := 2) (j := 4) (ty := (.object "HeathForks$Heath")) (fs' := [.ref q6, .ref q15, .ref q23, .ref q30, .ref q36]) rfl (by decide) (gwt1 127 rfl rfl) (by decide) rfl rfl (by decide +kernel) rfl rfl (Nat.le_of_ble_eq_true rfl) rfl (by decide +kernel) ?_
  exact cw_end C ((lf [q6, q15, q23, q30, q36], v36)) hr hlk hAe rfl (by decide +kernel)
def y_LR_i : MethodName := ⟨"HeathForks$LawReader", "<init>", "()V"⟩
def z_LR : List Value := [.null]
theorem zf_LR : ZF ("HeathForks$LawReader", F_LR, 1) z_LR := ⟨T_LR, ty_LR, by decide +kernel⟩
theorem ct_LR : ctB y_LR_i prog_7_method_1_code 1 ("HeathForks$LawReader", F_LR, 1) := ⟨rfl, rfl, by decide +kernel, ⟨by decide, by decide⟩, (gwt1 143 rfl rfl), (gwt1 142 rfl rfl), (gwt1 140 rfl rfl), (gwt1 5 rfl rfl)⟩
def born_LR (Γ : AG) (h0 : Nat) (u : (Nat → Nat) × (Nat → Nat)) : va_W := [(h0, .inr (4, [.ref (u.1 0)]))] ++ (born_Law Γ (u.1 0) u.2)
set_option maxHeartbeats 4000000 in
set_option maxRecDepth 100000 in
theorem m_LR_i (Γ : AG) : CtM Γ y_LR_i prog_7_method_1_code 1 2 3 308 4 z_LR (born_LR Γ) := by
  refine CtM.of (by decide) rfl (by decide) ?_
  intro h0 p e s m args below meth c A hAe C hin hr hlk ls hl
  refine cw_a0 C (lv_at hl 0 rfl) (by decide +kernel) ?_
  refine cw_obj C (idx := 3) (gwt1 144 rfl rfl) (gwt1 32 rfl rfl) (gwt1 33 rfl rfl) hl.1 (by decide +kernel) (Nat.le_of_ble_eq_true rfl) (Nat.le_of_ble_eq_true rfl) ?_
  refine cw_a0 C (lv_at hl 0 rfl) (by decide +kernel) ?_
  refine cw_make C (ik := 9) (ic := 11) (m_Law_i Γ) rfl zf_Law ct_Law (gwt1 145 rfl rfl) (Or.inl (nwt1 147 rfl rfl)) (Nat.le_of_ble_eq_true rfl) (Nat.le_of_ble_eq_true rfl) (Nat.le_of_ble_eq_true rfl) (Nat.le_of_ble_eq_true rfl) (Nat.le_of_ble_eq_true rfl) hl.1 (by decide +kernel) (by decide +kernel) (by decide +kernel) (fun q5 v5 => ?_)
  refine cw_put C hin (idx := 12) (ci := 4) (j := 0) (ty := (.object "HeathForks$Law")) (fs' := [.ref q5]) rfl (by decide) (gwt1 165 rfl rfl) (by decide) rfl rfl (by decide +kernel) rfl rfl (Nat.le_of_ble_eq_true rfl) rfl (by decide +kernel) ?_
  exact cw_end C ((lf [q5], v5)) hr hlk hAe rfl (by decide +kernel)
def y_WR_i : MethodName := ⟨"HeathForks$WalksReader", "<init>", "()V"⟩
def z_WR : List Value := [.null]
theorem zf_WR : ZF ("HeathForks$WalksReader", F_WR, 1) z_WR := ⟨T_WR, ty_WR, by decide +kernel⟩
theorem ct_WR : ctB y_WR_i prog_11_method_1_code 1 ("HeathForks$WalksReader", F_WR, 1) := ⟨rfl, rfl, by decide +kernel, ⟨by decide, by decide⟩, (gwt1 173 rfl rfl), (gwt1 172 rfl rfl), (gwt1 170 rfl rfl), (gwt1 7 rfl rfl)⟩
def born_WR (Γ : AG) (h0 : Nat) (u : (Nat → Nat) × (Nat → Nat)) : va_W := [(h0, .inr (6, [.ref (u.1 0)]))] ++ (born_Walks Γ (u.1 0) u.2)
set_option maxHeartbeats 4000000 in
set_option maxRecDepth 100000 in
theorem m_WR_i (Γ : AG) : CtM Γ y_WR_i prog_11_method_1_code 1 2 2 66 6 z_WR (born_WR Γ) := by
  refine CtM.of (by decide) rfl (by decide) ?_
  intro h0 p e s m args below meth c A hAe C hin hr hlk ls hl
  refine cw_a0 C (lv_at hl 0 rfl) (by decide +kernel) ?_
  refine cw_obj C (idx := 3) (gwt1 174 rfl rfl) (gwt1 32 rfl rfl) (gwt1 33 rfl rfl) hl.1 (by decide +kernel) (Nat.le_of_ble_eq_true rfl) (Nat.le_of_ble_eq_true rfl) ?_
  refine cw_a0 C (lv_at hl 0 rfl) (by decide +kernel) ?_
  refine cw_make C (ik := 9) (ic := 11) (m_Walks_i Γ) rfl zf_Walks ct_Walks (gwt1 175 rfl rfl) (Or.inl (nwt1 177 rfl rfl)) (Nat.le_of_ble_eq_true rfl) (Nat.le_of_ble_eq_true rfl) (Nat.le_of_ble_eq_true rfl) (Nat.le_of_ble_eq_true rfl) (Nat.le_of_ble_eq_true rfl) hl.1 (by decide +kernel) (by decide +kernel) (by decide +kernel) (fun q5 v5 => ?_)
  refine cw_put C hin (idx := 12) (ci := 6) (j := 0) (ty := (.object "HeathForks$Walks")) (fs' := [.ref q5]) rfl (by decide) (gwt1 190 rfl rfl) (by decide) rfl rfl (by decide +kernel) rfl rfl (Nat.le_of_ble_eq_true rfl) rfl (by decide +kernel) ?_
  exact cw_end C ((lf [q5], v5)) hr hlk hAe rfl (by decide +kernel)
