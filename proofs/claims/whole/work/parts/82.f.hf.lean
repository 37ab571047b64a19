/-! HeathForks' constructor (printed by wip/gen/ctor.py) -/
set_option maxHeartbeats 4000000 in
set_option maxRecDepth 100000 in
theorem m_HF_i (Γ : AG) : CtM Γ y_HF_i prog_1_method_1_code 2 3 79 3974 0 z_HF (born_HF Γ) := by
  refine CtM.of (by decide) rfl (by decide) ?_
  intro h0 p e s m args below meth c A hAe C hin hr hlk ls hl
  have lz : z_HF.length = 18 := rfl
  have ln0 : ([] : va_W).length = 0 := rfl
  refine cw_a0 C (lv_at hl 0 rfl) (by decide +kernel) ?_
  refine cw_obj C (idx := 1) (gwt1 31 rfl rfl) (gwt1 32 rfl rfl) (gwt1 33 rfl rfl) hl.1 (by decide +kernel) (Nat.le_of_ble_eq_true rfl) (Nat.le_of_ble_eq_true rfl) ?_
  refine cw_a0 C (lv_at hl 0 rfl) (by decide +kernel) ?_
  refine cp_make C (ik := 7) (ic := 9) (m_Tape_i Γ) rfl zf_Tape ct_Tape (gwt1 34 rfl rfl) (Or.inl (nwt1 36 rfl rfl)) (by decide) (by decide) (cells' := 2) (slots' := 243) rfl rfl (by decide) (by decide) (Nat.le_of_ble_eq_true rfl) hl.1 (by decide +kernel) (by decide +kernel) (by decide +kernel) (fun q5 v5 wq5 hwq5 => ?_)
  have lnq5 := ap_len hwq5 ln0 (k := 2) (l := 2) rfl rfl
  have nwq5 := ap_new hwq5 ln0 rfl
  refine cp_put C hin (idx := 10) (ci := 0) (j := 0) (ty := (.object "HeathForks$Tape")) (n := 18) (nm := "tape") (ds := "LHeathForks$Tape;") (fin := true) rfl (by decide) (by decide +kernel) rfl rfl (gwt2 101 rfl rfl) (by decide) (by decide +kernel) rfl rfl lz (by decide +kernel) (fun f1 hf1 lf1 => ?_)
  refine cw_a0 C (lv_at hl 0 rfl) (by decide +kernel) ?_
  refine cp_make C (ik := 16) (ic := 18) (m_HR_i Γ) rfl zf_HR ct_HR (gwt1 56 rfl rfl) (Or.inl (nwt1 58 rfl rfl)) (by decide) (by decide) (cells' := 13) (slots' := 639) rfl rfl (by decide) (by decide) (Nat.le_of_ble_eq_true rfl) hl.1 (by decide +kernel) (by decide +kernel) (by decide +kernel) (fun q16 v16 wq16 hwq16 => ?_)
  have lnq16 := ap_len hwq16 lnq5 (k := 11) (l := 13) rfl rfl
  have nwq16 := ap_new hwq16 lnq5 rfl
  refine cp_put C hin (idx := 19) (ci := 0) (j := 1) (ty := (.object "HeathForks$HeathReader")) (n := 18) (nm := "heathReader") (ds := "LHeathForks$HeathReader;") (fin := true) rfl (by decide) (by decide +kernel) rfl rfl (gwt2 102 rfl rfl) (by decide) (by decide +kernel) rfl rfl lf1 (by decide +kernel) (fun f2 hf2 lf2 => ?_)
  refine cw_a0 C (lv_at hl 0 rfl) (by decide +kernel) ?_
  refine cp_make C (ik := 23) (ic := 25) (m_LR_i Γ) rfl zf_LR ct_LR (gwt1 139 rfl rfl) (Or.inl (nwt1 141 rfl rfl)) (by decide) (by decide) (cells' := 17) (slots' := 948) rfl rfl (by decide) (by decide) (Nat.le_of_ble_eq_true rfl) hl.1 (by decide +kernel) (by decide +kernel) (by decide +kernel) (fun q27 v27 wq27 hwq27 => ?_)
  have lnq27 := ap_len hwq27 lnq16 (k := 4) (l := 17) rfl rfl
  have nwq27 := ap_new hwq27 lnq16 rfl
  refine cp_put C hin (idx := 26) (ci := 0) (j := 2) (ty := (.object "HeathForks$LawReader")) (n := 18) (nm := "lawReader") (ds := "LHeathForks$LawReader;") (fin := true) rfl (by decide) (by decide +kernel) rfl rfl (gwt2 103 rfl rfl) (by decide) (by decide +kernel) rfl rfl lf2 (by decide +kernel) (fun f3 hf3 lf3 => ?_)
  refine cw_a0 C (lv_at hl 0 rfl) (by decide +kernel) ?_
  refine cp_make C (ik := 30) (ic := 32) (m_WR_i Γ) rfl zf_WR ct_WR (gwt1 169 rfl rfl) (Or.inl (nwt1 171 rfl rfl)) (by decide) (by decide) (cells' := 20) (slots' := 1015) rfl rfl (by decide) (by decide) (Nat.le_of_ble_eq_true rfl) hl.1 (by decide +kernel) (by decide +kernel) (by decide +kernel) (fun q38 v38 wq38 hwq38 => ?_)
  have lnq38 := ap_len hwq38 lnq27 (k := 3) (l := 20) rfl rfl
  have nwq38 := ap_new hwq38 lnq27 rfl
  refine cp_put C hin (idx := 33) (ci := 0) (j := 3) (ty := (.object "HeathForks$WalksReader")) (n := 18) (nm := "walksReader") (ds := "LHeathForks$WalksReader;") (fin := true) rfl (by decide) (by decide +kernel) rfl rfl (gwt2 104 rfl rfl) (by decide) (by decide +kernel) rfl rfl lf3 (by decide +kernel) (fun f4 hf4 lf4 => ?_)
  refine cw_a0 C (lv_at hl 0 rfl) (by decide +kernel) ?_
  refine cw_ic C (n := 4) (v := 4) (by decide +kernel) (by decide) ?_
  refine cp_newq C (idx := 37) 4 (n := 4) (k := 24) (N := 4) (gwt1 194 rfl rfl) C.2.2.2.2.2.1.2.2.2.1 rfl (by decide) (by decide) (by decide) (cells' := 21) (slots' := 1019) rfl rfl (by decide) (by decide) (by decide +kernel) (fun q50 wq50 hwq50 => ?_)
  have lnq50 := ap_len hwq50 lnq38 (k := 1) (l := 21) rfl rfl
  have arq50_q50 := ap_new hwq50 lnq38 rfl
  refine cp_put C hin (idx := 39) (ci := 0) (j := 4) (ty := (.array (.object "HeathForks$Law"))) (n := 18) (nm := "laws") (ds := "[LHeathForks$Law;") (fin := true) rfl (by decide) (by decide +kernel) rfl rfl (gwt2 105 rfl rfl) (by decide) (by decide +kernel) rfl rfl lf4 (by decide +kernel) (fun f5 hf5 lf5 => ?_)
  refine cw_a0 C (lv_at hl 0 rfl) (by decide +kernel) ?_
  refine cw_ic C (n := 4) (v := 4) (by decide +kernel) (by decide) ?_
  refine cp_newq C (idx := 43) 5 (n := 4) (k := 25) (N := 4) (gwt1 196 rfl rfl) C.2.2.2.2.2.1.2.2.2.2 rfl (by decide) (by decide) (by decide) (cells' := 22) (slots' := 1023) rfl rfl (by decide) (by decide) (by decide +kernel) (fun q58 wq58 hwq58 => ?_)
  have lnq58 := ap_len hwq58 lnq50 (k := 1) (l := 22) rfl rfl
  have arq58_q50 := ap_get hwq58 arq50_q50
  have arq58_q58 := ap_new hwq58 lnq50 rfl
  refine cp_put C hin (idx := 45) (ci := 0) (j := 5) (ty := (.array (.object "HeathForks$Walks"))) (n := 18) (nm := "walksTold") (ds := "[LHeathForks$Walks;") (fin := true) rfl (by decide) (by decide +kernel) rfl rfl (gwt2 106 rfl rfl) (by decide) (by decide +kernel) rfl rfl lf5 (by decide +kernel) (fun f6 hf6 lf6 => ?_)
  refine cw_a0 C (lv_at hl 0 rfl) (by decide +kernel) ?_
  refine cw_bi C (n := 6) (v := 6) (by decide +kernel) (by decide) ?_
  refine cp_newa C (atype := .int) 0 (n := 6) (k := 20) (N := 6) (a0 := (6, .inl fun _ => 0)) rfl (gwt1 55 rfl rfl) rfl (fun _ => rfl) (by decide) (by decide) (by decide) (cells' := 23) (slots' := 1029) rfl rfl (by decide) (by decide) (by decide +kernel) (fun q67 wq67 hwq67 => ?_)
  have lnq67 := ap_len hwq67 lnq58 (k := 1) (l := 23) rfl rfl
  have arq67_q50 := ap_get hwq67 arq58_q50
  have arq67_q58 := ap_get hwq67 arq58_q58
  refine cp_put C hin (idx := 49) (ci := 0) (j := 6) (ty := (.array .int)) (n := 18) (nm := "letters") (ds := "[I") (fin := true) rfl (by decide) (by decide +kernel) rfl rfl (gwt2 107 rfl rfl) (by decide) (by decide +kernel) rfl rfl lf6 (by decide +kernel) (fun f7 hf7 lf7 => ?_)
  refine cw_a0 C (lv_at hl 0 rfl) (by decide +kernel) ?_
  refine cp_make C (ik := 53) (ic := 55) (m_Moor_i Γ) rfl zf_Moor ct_Moor (gwt1 198 rfl rfl) (Or.inl (nwt1 200 rfl rfl)) (by decide) (by decide) (cells' := 29) (slots' := 1182) rfl rfl (by decide) (by decide) (Nat.le_of_ble_eq_true rfl) hl.1 (by decide +kernel) (by decide +kernel) (by decide +kernel) (fun q73 v73 wq73 hwq73 => ?_)
  have lnq73 := ap_len hwq73 lnq67 (k := 6) (l := 29) rfl rfl
  have arq73_q50 := ap_get hwq73 arq67_q50
  have arq73_q58 := ap_get hwq73 arq67_q58
  have nwq73 := ap_new hwq73 lnq67 rfl
  refine cp_put C hin (idx := 56) (ci := 0) (j := 7) (ty := (.object "HeathForks$Moor")) (n := 18) (nm := "moor") (ds := "LHeathForks$Moor;") (fin := true) rfl (by decide) (by decide +kernel) rfl rfl (gwt2 108 rfl rfl) (by decide) (by decide +kernel) rfl rfl lf7 (by decide +kernel) (fun f8 hf8 lf8 => ?_)
  refine cw_a0 C (lv_at hl 0 rfl) (by decide +kernel) ?_
  refine cp_make C (ik := 53) (ic := 55) (m_Moor_i Γ) rfl zf_Moor ct_Moor (gwt1 198 rfl rfl) (Or.inl (nwt1 200 rfl rfl)) (by decide) (by decide) (cells' := 35) (slots' := 1335) rfl rfl (by decide) (by decide) (Nat.le_of_ble_eq_true rfl) hl.1 (by decide +kernel) (by decide +kernel) (by decide +kernel) (fun q84 v84 wq84 hwq84 => ?_)
  have lnq84 := ap_len hwq84 lnq73 (k := 6) (l := 35) rfl rfl
  have arq84_q50 := ap_get hwq84 arq73_q50
  have arq84_q58 := ap_get hwq84 arq73_q58
  have nwq84 := ap_new hwq84 lnq73 rfl
  refine cp_put C hin (idx := 60) (ci := 0) (j := 8) (ty := (.object "HeathForks$Moor")) (n := 18) (nm := "kept") (ds := "LHeathForks$Moor;") (fin := true) rfl (by decide) (by decide +kernel) rfl rfl (gwt2 109 rfl rfl) (by decide) (by decide +kernel) rfl rfl lf8 (by decide +kernel) (fun f9 hf9 lf9 => ?_)
  refine cw_a0 C (lv_at hl 0 rfl) (by decide +kernel) ?_
  refine cp_make C (ik := 53) (ic := 55) (m_Moor_i Γ) rfl zf_Moor ct_Moor (gwt1 198 rfl rfl) (Or.inl (nwt1 200 rfl rfl)) (by decide) (by decide) (cells' := 41) (slots' := 1488) rfl rfl (by decide) (by decide) (Nat.le_of_ble_eq_true rfl) hl.1 (by decide +kernel) (by decide +kernel) (by decide +kernel) (fun q95 v95 wq95 hwq95 => ?_)
  have lnq95 := ap_len hwq95 lnq84 (k := 6) (l := 41) rfl rfl
  have arq95_q50 := ap_get hwq95 arq84_q50
  have arq95_q58 := ap_get hwq95 arq84_q58
  have nwq95 := ap_new hwq95 lnq84 rfl
  refine cp_put C hin (idx := 63) (ci := 0) (j := 9) (ty := (.object "HeathForks$Moor")) (n := 18) (nm := "apart") (ds := "LHeathForks$Moor;") (fin := true) rfl (by decide) (by decide +kernel) rfl rfl (gwt2 110 rfl rfl) (by decide) (by decide +kernel) rfl rfl lf9 (by decide +kernel) (fun f10 hf10 lf10 => ?_)
  refine cw_a0 C (lv_at hl 0 rfl) (by decide +kernel) ?_
  refine cp_make C (ik := 66) (ic := 68) (m_Acts_i Γ) rfl zf_Acts ct_Acts (gwt1 236 rfl rfl) (Or.inl (nwt1 238 rfl rfl)) (by decide) (by decide) (cells' := 43) (slots' := 1651) rfl rfl (by decide) (by decide) (Nat.le_of_ble_eq_true rfl) hl.1 (by decide +kernel) (by decide +kernel) (by decide +kernel) (fun q106 v106 wq106 hwq106 => ?_)
  have lnq106 := ap_len hwq106 lnq95 (k := 2) (l := 43) rfl rfl
  have arq106_q50 := ap_get hwq106 arq95_q50
  have arq106_q58 := ap_get hwq106 arq95_q58
  have nwq106 := ap_new hwq106 lnq95 rfl
  refine cp_put C hin (idx := 69) (ci := 0) (j := 10) (ty := (.object "HeathForks$Acts")) (n := 18) (nm := "acts") (ds := "LHeathForks$Acts;") (fin := true) rfl (by decide) (by decide +kernel) rfl rfl (gwt2 111 rfl rfl) (by decide) (by decide +kernel) rfl rfl lf10 (by decide +kernel) (fun f11 hf11 lf11 => ?_)
  refine cw_a0 C (lv_at hl 0 rfl) (by decide +kernel) ?_
  refine cp_make C (ik := 73) (ic := 75) (m_Heard_i Γ) rfl zf_Heard ct_Heard (gwt2 13 rfl rfl) (Or.inl (nwt2 15 rfl rfl)) (by decide) (by decide) (cells' := 49) (slots' := 2207) rfl rfl (by decide) (by decide) (Nat.le_of_ble_eq_true rfl) hl.1 (by decide +kernel) (by decide +kernel) (by decide +kernel) (fun q117 v117 wq117 hwq117 => ?_)
  have lnq117 := ap_len hwq117 lnq106 (k := 6) (l := 49) rfl rfl
  have arq117_q50 := ap_get hwq117 arq106_q50
  have arq117_q58 := ap_get hwq117 arq106_q58
  have nwq117 := ap_new hwq117 lnq106 rfl
  refine cp_put C hin (idx := 76) (ci := 0) (j := 11) (ty := (.object "HeathForks$Heard")) (n := 18) (nm := "heard") (ds := "LHeathForks$Heard;") (fin := true) rfl (by decide) (by decide +kernel) rfl rfl (gwt2 112 rfl rfl) (by decide) (by decide +kernel) rfl rfl lf11 (by decide +kernel) (fun f12 hf12 lf12 => ?_)
  refine cw_a0 C (lv_at hl 0 rfl) (by decide +kernel) ?_
  refine cp_make C (ik := 80) (ic := 82) (m_Plan_i Γ) rfl zf_Plan ct_Plan (gwt2 54 rfl rfl) (Or.inl (nwt2 56 rfl rfl)) (by decide) (by decide) (cells' := 53) (slots' := 2308) rfl rfl (by decide) (by decide) (Nat.le_of_ble_eq_true rfl) hl.1 (by decide +kernel) (by decide +kernel) (by decide +kernel) (fun q128 v128 wq128 hwq128 => ?_)
  have lnq128 := ap_len hwq128 lnq117 (k := 4) (l := 53) rfl rfl
  have arq128_q50 := ap_get hwq128 arq117_q50
  have arq128_q58 := ap_get hwq128 arq117_q58
  have nwq128 := ap_new hwq128 lnq117 rfl
  refine cp_put C hin (idx := 83) (ci := 0) (j := 12) (ty := (.object "HeathForks$WellPlan")) (n := 18) (nm := "plan") (ds := "LHeathForks$WellPlan;") (fin := true) rfl (by decide) (by decide +kernel) rfl rfl (gwt2 113 rfl rfl) (by decide) (by decide +kernel) rfl rfl lf12 (by decide +kernel) (fun f13 hf13 lf13 => ?_)
  refine cw_a0 C (lv_at hl 0 rfl) (by decide +kernel) ?_
  refine cp_make C (ik := 87) (ic := 89) (m_Heath_i Γ) rfl zf_Heath ct_Heath (gwt2 97 rfl rfl) (Or.inl (nwt2 98 rfl rfl)) (by decide) (by decide) (cells' := 59) (slots' := 2478) rfl rfl (by decide) (by decide) (Nat.le_of_ble_eq_true rfl) hl.1 (by decide +kernel) (by decide +kernel) (by decide +kernel) (fun q139 v139 wq139 hwq139 => ?_)
  have lnq139 := ap_len hwq139 lnq128 (k := 6) (l := 59) rfl rfl
  have arq139_q50 := ap_get hwq139 arq128_q50
  have arq139_q58 := ap_get hwq139 arq128_q58
  have nwq139 := ap_new hwq139 lnq128 rfl
  refine cp_put C hin (idx := 90) (ci := 0) (j := 13) (ty := (.object "HeathForks$Heath")) (n := 18) (nm := "heath") (ds := "LHeathForks$Heath;") (fin := false) rfl (by decide) (by decide +kernel) rfl rfl (gwt2 114 rfl rfl) (by decide) (by decide +kernel) rfl rfl lf13 (by decide +kernel) (fun f14 hf14 lf14 => ?_)
  refine cw_a0 C (lv_at hl 0 rfl) (by decide +kernel) ?_
  refine cw_ic C (n := 0) (v := 0) (by decide +kernel) (by decide) ?_
  refine cp_put C hin (idx := 94) (ci := 0) (j := 14) (ty := .int) (n := 18) (nm := "lawCount") (ds := "I") (fin := false) rfl (by decide) (by decide +kernel) rfl rfl (gwt2 115 rfl rfl) (by decide) (by decide +kernel) rfl rfl lf14 (by decide +kernel) (fun f15 hf15 lf15 => ?_)
  refine cw_a0 C (lv_at hl 0 rfl) (by decide +kernel) ?_
  refine cw_ic C (n := 0) (v := 0) (by decide +kernel) (by decide) ?_
  refine cp_put C hin (idx := 98) (ci := 0) (j := 15) (ty := .int) (n := 18) (nm := "walksCount") (ds := "I") (fin := false) rfl (by decide) (by decide +kernel) rfl rfl (gwt2 116 rfl rfl) (by decide) (by decide +kernel) rfl rfl lf15 (by decide +kernel) (fun f16 hf16 lf16 => ?_)
  refine cw_a0 C (lv_at hl 0 rfl) (by decide +kernel) ?_
  refine cw_ic C (n := (-1)) (v := (-1)) (by decide +kernel) (by decide) ?_
  refine cp_put C hin (idx := 101) (ci := 0) (j := 16) (ty := .int) (n := 18) (nm := "holding") (ds := "I") (fin := false) rfl (by decide) (by decide +kernel) rfl rfl (gwt2 117 rfl rfl) (by decide) (by decide +kernel) rfl rfl lf16 (by decide +kernel) (fun f17 hf17 lf17 => ?_)
  refine cw_a0 C (lv_at hl 0 rfl) (by decide +kernel) ?_
  refine cw_ic C (n := 0) (v := 0) (by decide +kernel) (by decide) ?_
  refine cp_put C hin (idx := 104) (ci := 0) (j := 17) (ty := .boolean) (n := 18) (nm := "imaged") (ds := "Z") (fin := false) rfl (by decide) (by decide +kernel) rfl rfl (gwt2 118 rfl rfl) (by decide) (by decide +kernel) rfl rfl lf17 (by decide +kernel) (fun f18 hf18 lf18 => ?_)
  refine cw_ic C (n := 0) (v := 0) (by decide +kernel) (by decide) ?_
  have hFx : f18 = [.ref q5, .ref q16, .ref q27, .ref q38, .ref q50, .ref q58, .ref q67, .ref q73, .ref q84, .ref q95, .ref q106, .ref q117, .ref q128, .ref q139, .int 0, .int 0, .int (-1), .int 0] := by rw [hf18, hf17, hf16, hf15, hf14, hf13, hf12, hf11, hf10, hf9, hf8, hf7, hf6, hf5, hf4, hf3, hf2, hf1]; simp only [z_HF, List.set_cons_succ, List.set_cons_zero]
  refine cw_ist C (k := 1) (i := 1) rfl (lv' := [(1, .int 0), (0, .ref h0)]) (by decide +kernel) hl (by decide) rfl (fun ls1 hl1 => ?_)
  refine cw_il C (lv_at hl1 0 rfl) (by decide +kernel) ?_
  refine cw_ic C (n := 4) (v := 4) (by decide +kernel) (by decide) ?_
  refine cw_geF C (off := 35) (tgt := 208) (by decide +kernel) rfl (by decide) ?_
  refine cw_a0 C (lv_at hl1 1 rfl) (by decide +kernel) ?_
  refine cp_get C (idx := 39) (ci := 0) (j := 4) (v := .ref q50) (n := 18) (nm := "laws") (ds := "[LHeathForks$Law;") (fin := true) rfl (by decide +kernel) rfl rfl (gwt2 105 rfl rfl) (by decide) (by rw [hFx]; rfl) (by decide +kernel) ?_
  refine cw_il C (lv_at hl1 0 rfl) (by decide +kernel) ?_
  refine cp_make C (ik := 37) (ic := 108) (m_Law_i Γ) rfl zf_Law ct_Law (gwt1 194 rfl rfl) (Or.inl (nwt2 99 rfl rfl)) (by decide) (by decide) (cells' := 62) (slots' := 2786) rfl rfl (by decide) (by decide) (Nat.le_of_ble_eq_true rfl) hl1.1 (by decide +kernel) (by decide +kernel) (by decide +kernel) (fun q181_1 v181_1 wq181_1 hwq181_1 => ?_)
  have lnq181_1 := ap_len hwq181_1 lnq139 (k := 3) (l := 62) rfl rfl
  have arq181_1_q50 := ap_get hwq181_1 arq139_q50
  have arq181_1_q58 := ap_get hwq181_1 arq139_q58
  have nwq181_1 := ap_new hwq181_1 lnq139 rfl
  refine cq_ast C 20 4 59 5 (i := 0) (j := 0) (N := 4) (k := 24) arq181_1_q50 rfl nwq181_1 rfl rfl (by decide) (by decide +kernel) (fun w19_ hw19_ => ?_)
  have ls19_ := st_len hw19_ lnq181_1
  have ar19_q50 := st_eq hw19_ arq181_1_q50
  have ar19_q58 := st_ne hw19_ arq181_1_q58 (by decide)
  refine cw_a0 C (lv_at hl1 1 rfl) (by decide +kernel) ?_
  refine cp_get C (idx := 45) (ci := 0) (j := 5) (v := .ref q58) (n := 18) (nm := "walksTold") (ds := "[LHeathForks$Walks;") (fin := true) rfl (by decide +kernel) rfl rfl (gwt2 106 rfl rfl) (by decide) (by rw [hFx]; rfl) (by decide +kernel) ?_
  refine cw_il C (lv_at hl1 0 rfl) (by decide +kernel) ?_
  refine cp_make C (ik := 43) (ic := 109) (m_Walks_i Γ) rfl zf_Walks ct_Walks (gwt1 196 rfl rfl) (Or.inl (nwt2 100 rfl rfl)) (by decide) (by decide) (cells' := 64) (slots' := 2852) rfl rfl (by decide) (by decide) (Nat.le_of_ble_eq_true rfl) hl1.1 (by decide +kernel) (by decide +kernel) (by decide +kernel) (fun q194_1 v194_1 wq194_1 hwq194_1 => ?_)
  have lnq194_1 := ap_len hwq194_1 ls19_ (k := 2) (l := 64) rfl rfl
  have arq194_1_q50 := ap_get hwq194_1 ar19_q50
  have arq194_1_q58 := ap_get hwq194_1 ar19_q58
  have nwq194_1 := ap_new hwq194_1 ls19_ rfl
  refine cq_ast C 21 5 62 7 (i := 0) (j := 0) (N := 4) (k := 25) arq194_1_q58 rfl nwq194_1 rfl rfl (by decide) (by decide +kernel) (fun w20_ hw20_ => ?_)
  have ls20_ := st_len hw20_ lnq194_1
  have ar20_q50 := st_ne hw20_ arq194_1_q50 (by decide)
  have ar20_q58 := st_eq hw20_ arq194_1_q58
  refine cw_inc C (i := 1) (k := 0) (n := 1) (v := 1) (lv' := [(1, .int 1), (0, .ref h0)]) (by decide +kernel) hl1 rfl (by decide) (by decide) rfl (fun ls2 hl2 => ?_)
  refine cw_go C (off := (-34)) (tgt := 171) (by decide +kernel) rfl ?_
  refine cw_il C (lv_at hl2 0 rfl) (by decide +kernel) ?_
  refine cw_ic C (n := 4) (v := 4) (by decide +kernel) (by decide) ?_
  refine cw_geF C (off := 35) (tgt := 208) (by decide +kernel) rfl (by decide) ?_
  refine cw_a0 C (lv_at hl2 1 rfl) (by decide +kernel) ?_
  refine cp_get C (idx := 39) (ci := 0) (j := 4) (v := .ref q50) (n := 18) (nm := "laws") (ds := "[LHeathForks$Law;") (fin := true) rfl (by decide +kernel) rfl rfl (gwt2 105 rfl rfl) (by decide) (by rw [hFx]; rfl) (by decide +kernel) ?_
  refine cw_il C (lv_at hl2 0 rfl) (by decide +kernel) ?_
  refine cp_make C (ik := 37) (ic := 108) (m_Law_i Γ) rfl zf_Law ct_Law (gwt1 194 rfl rfl) (Or.inl (nwt2 99 rfl rfl)) (by decide) (by decide) (cells' := 67) (slots' := 3160) rfl rfl (by decide) (by decide) (Nat.le_of_ble_eq_true rfl) hl2.1 (by decide +kernel) (by decide +kernel) (by decide +kernel) (fun q181_2 v181_2 wq181_2 hwq181_2 => ?_)
  have lnq181_2 := ap_len hwq181_2 ls20_ (k := 3) (l := 67) rfl rfl
  have arq181_2_q50 := ap_get hwq181_2 ar20_q50
  have arq181_2_q58 := ap_get hwq181_2 ar20_q58
  have nwq181_2 := ap_new hwq181_2 ls20_ rfl
  refine cq_ast C 20 4 64 5 (i := 1) (j := 1) (N := 4) (k := 24) arq181_2_q50 rfl nwq181_2 rfl rfl (by decide) (by decide +kernel) (fun w21_ hw21_ => ?_)
  have ls21_ := st_len hw21_ lnq181_2
  have ar21_q50 := st_eq hw21_ arq181_2_q50
  have ar21_q58 := st_ne hw21_ arq181_2_q58 (by decide)
  refine cw_a0 C (lv_at hl2 1 rfl) (by decide +kernel) ?_
  refine cp_get C (idx := 45) (ci := 0) (j := 5) (v := .ref q58) (n := 18) (nm := "walksTold") (ds := "[LHeathForks$Walks;") (fin := true) rfl (by decide +kernel) rfl rfl (gwt2 106 rfl rfl) (by decide) (by rw [hFx]; rfl) (by decide +kernel) ?_
  refine cw_il C (lv_at hl2 0 rfl) (by decide +kernel) ?_
  refine cp_make C (ik := 43) (ic := 109) (m_Walks_i Γ) rfl zf_Walks ct_Walks (gwt1 196 rfl rfl) (Or.inl (nwt2 100 rfl rfl)) (by decide) (by decide) (cells' := 69) (slots' := 3226) rfl rfl (by decide) (by decide) (Nat.le_of_ble_eq_true rfl) hl2.1 (by decide +kernel) (by decide +kernel) (by decide +kernel) (fun q194_2 v194_2 wq194_2 hwq194_2 => ?_)
  have lnq194_2 := ap_len hwq194_2 ls21_ (k := 2) (l := 69) rfl rfl
  have arq194_2_q50 := ap_get hwq194_2 ar21_q50
  have arq194_2_q58 := ap_get hwq194_2 ar21_q58
  have nwq194_2 := ap_new hwq194_2 ls21_ rfl
  refine cq_ast C 21 5 67 7 (i := 1) (j := 1) (N := 4) (k := 25) arq194_2_q58 rfl nwq194_2 rfl rfl (by decide) (by decide +kernel) (fun w22_ hw22_ => ?_)
  have ls22_ := st_len hw22_ lnq194_2
  have ar22_q50 := st_ne hw22_ arq194_2_q50 (by decide)
  have ar22_q58 := st_eq hw22_ arq194_2_q58
  refine cw_inc C (i := 1) (k := 0) (n := 1) (v := 2) (lv' := [(1, .int 2), (0, .ref h0)]) (by decide +kernel) hl2 rfl (by decide) (by decide) rfl (fun ls3 hl3 => ?_)
  refine cw_go C (off := (-34)) (tgt := 171) (by decide +kernel) rfl ?_
  refine cw_il C (lv_at hl3 0 rfl) (by decide +kernel) ?_
  refine cw_ic C (n := 4) (v := 4) (by decide +kernel) (by decide) ?_
  refine cw_geF C (off := 35) (tgt := 208) (by decide +kernel) rfl (by decide) ?_
  refine cw_a0 C (lv_at hl3 1 rfl) (by decide +kernel) ?_
  refine cp_get C (idx := 39) (ci := 0) (j := 4) (v := .ref q50) (n := 18) (nm := "laws") (ds := "[LHeathForks$Law;") (fin := true) rfl (by decide +kernel) rfl rfl (gwt2 105 rfl rfl) (by decide) (by rw [hFx]; rfl) (by decide +kernel) ?_
  refine cw_il C (lv_at hl3 0 rfl) (by decide +kernel) ?_
  refine cp_make C (ik := 37) (ic := 108) (m_Law_i Γ) rfl zf_Law ct_Law (gwt1 194 rfl rfl) (Or.inl (nwt2 99 rfl rfl)) (by decide) (by decide) (cells' := 72) (slots' := 3534) rfl rfl (by decide) (by decide) (Nat.le_of_ble_eq_true rfl) hl3.1 (by decide +kernel) (by decide +kernel) (by decide +kernel) (fun q181_3 v181_3 wq181_3 hwq181_3 => ?_)
  have lnq181_3 := ap_len hwq181_3 ls22_ (k := 3) (l := 72) rfl rfl
  have arq181_3_q50 := ap_get hwq181_3 ar22_q50
  have arq181_3_q58 := ap_get hwq181_3 ar22_q58
  have nwq181_3 := ap_new hwq181_3 ls22_ rfl
  refine cq_ast C 20 4 69 5 (i := 2) (j := 2) (N := 4) (k := 24) arq181_3_q50 rfl nwq181_3 rfl rfl (by decide) (by decide +kernel) (fun w23_ hw23_ => ?_)
  have ls23_ := st_len hw23_ lnq181_3
  have ar23_q50 := st_eq hw23_ arq181_3_q50
  have ar23_q58 := st_ne hw23_ arq181_3_q58 (by decide)
  refine cw_a0 C (lv_at hl3 1 rfl) (by decide +kernel) ?_
  refine cp_get C (idx := 45) (ci := 0) (j := 5) (v := .ref q58) (n := 18) (nm := "walksTold") (ds := "[LHeathForks$Walks;") (fin := true) rfl (by decide +kernel) rfl rfl (gwt2 106 rfl rfl) (by decide) (by rw [hFx]; rfl) (by decide +kernel) ?_
  refine cw_il C (lv_at hl3 0 rfl) (by decide +kernel) ?_
  refine cp_make C (ik := 43) (ic := 109) (m_Walks_i Γ) rfl zf_Walks ct_Walks (gwt1 196 rfl rfl) (Or.inl (nwt2 100 rfl rfl)) (by decide) (by decide) (cells' := 74) (slots' := 3600) rfl rfl (by decide) (by decide) (Nat.le_of_ble_eq_true rfl) hl3.1 (by decide +kernel) (by decide +kernel) (by decide +kernel) (fun q194_3 v194_3 wq194_3 hwq194_3 => ?_)
  have lnq194_3 := ap_len hwq194_3 ls23_ (k := 2) (l := 74) rfl rfl
  have arq194_3_q50 := ap_get hwq194_3 ar23_q50
  have arq194_3_q58 := ap_get hwq194_3 ar23_q58
  have nwq194_3 := ap_new hwq194_3 ls23_ rfl
  refine cq_ast C 21 5 72 7 (i := 2) (j := 2) (N := 4) (k := 25) arq194_3_q58 rfl nwq194_3 rfl rfl (by decide) (by decide +kernel) (fun w24_ hw24_ => ?_)
  have ls24_ := st_len hw24_ lnq194_3
  have ar24_q50 := st_ne hw24_ arq194_3_q50 (by decide)
  have ar24_q58 := st_eq hw24_ arq194_3_q58
  refine cw_inc C (i := 1) (k := 0) (n := 1) (v := 3) (lv' := [(1, .int 3), (0, .ref h0)]) (by decide +kernel) hl3 rfl (by decide) (by decide) rfl (fun ls4 hl4 => ?_)
  refine cw_go C (off := (-34)) (tgt := 171) (by decide +kernel) rfl ?_
  refine cw_il C (lv_at hl4 0 rfl) (by decide +kernel) ?_
  refine cw_ic C (n := 4) (v := 4) (by decide +kernel) (by decide) ?_
  refine cw_geF C (off := 35) (tgt := 208) (by decide +kernel) rfl (by decide) ?_
  refine cw_a0 C (lv_at hl4 1 rfl) (by decide +kernel) ?_
  refine cp_get C (idx := 39) (ci := 0) (j := 4) (v := .ref q50) (n := 18) (nm := "laws") (ds := "[LHeathForks$Law;") (fin := true) rfl (by decide +kernel) rfl rfl (gwt2 105 rfl rfl) (by decide) (by rw [hFx]; rfl) (by decide +kernel) ?_
  refine cw_il C (lv_at hl4 0 rfl) (by decide +kernel) ?_
  refine cp_make C (ik := 37) (ic := 108) (m_Law_i Γ) rfl zf_Law ct_Law (gwt1 194 rfl rfl) (Or.inl (nwt2 99 rfl rfl)) (by decide) (by decide) (cells' := 77) (slots' := 3908) rfl rfl (by decide) (by decide) (Nat.le_of_ble_eq_true rfl) hl4.1 (by decide +kernel) (by decide +kernel) (by decide +kernel) (fun q181_4 v181_4 wq181_4 hwq181_4 => ?_)
  have lnq181_4 := ap_len hwq181_4 ls24_ (k := 3) (l := 77) rfl rfl
  have arq181_4_q50 := ap_get hwq181_4 ar24_q50
  have arq181_4_q58 := ap_get hwq181_4 ar24_q58
  have nwq181_4 := ap_new hwq181_4 ls24_ rfl
  refine cq_ast C 20 4 74 5 (i := 3) (j := 3) (N := 4) (k := 24) arq181_4_q50 rfl nwq181_4 rfl rfl (by decide) (by decide +kernel) (fun w25_ hw25_ => ?_)
  have ls25_ := st_len hw25_ lnq181_4
  have ar25_q50 := st_eq hw25_ arq181_4_q50
  have ar25_q58 := st_ne hw25_ arq181_4_q58 (by decide)
  refine cw_a0 C (lv_at hl4 1 rfl) (by decide +kernel) ?_
  refine cp_get C (idx := 45) (ci := 0) (j := 5) (v := .ref q58) (n := 18) (nm := "walksTold") (ds := "[LHeathForks$Walks;") (fin := true) rfl (by decide +kernel) rfl rfl (gwt2 106 rfl rfl) (by decide) (by rw [hFx]; rfl) (by decide +kernel) ?_
  refine cw_il C (lv_at hl4 0 rfl) (by decide +kernel) ?_
  refine cp_make C (ik := 43) (ic := 109) (m_Walks_i Γ) rfl zf_Walks ct_Walks (gwt1 196 rfl rfl) (Or.inl (nwt2 100 rfl rfl)) (by decide) (by decide) (cells' := 79) (slots' := 3974) rfl rfl (by decide) (by decide) (Nat.le_of_ble_eq_true rfl) hl4.1 (by decide +kernel) (by decide +kernel) (by decide +kernel) (fun q194_4 v194_4 wq194_4 hwq194_4 => ?_)
  have lnq194_4 := ap_len hwq194_4 ls25_ (k := 2) (l := 79) rfl rfl
  have arq194_4_q50 := ap_get hwq194_4 ar25_q50
  have arq194_4_q58 := ap_get hwq194_4 ar25_q58
  have nwq194_4 := ap_new hwq194_4 ls25_ rfl
  refine cq_ast C 21 5 77 7 (i := 3) (j := 3) (N := 4) (k := 25) arq194_4_q58 rfl nwq194_4 rfl rfl (by decide) (by decide +kernel) (fun w26_ hw26_ => ?_)
  have ls26_ := st_len hw26_ lnq194_4
  have ar26_q50 := st_ne hw26_ arq194_4_q50 (by decide)
  have ar26_q58 := st_eq hw26_ arq194_4_q58
  refine cw_inc C (i := 1) (k := 0) (n := 1) (v := 4) (lv' := [(1, .int 4), (0, .ref h0)]) (by decide +kernel) hl4 rfl (by decide) (by decide) rfl (fun ls5 hl5 => ?_)
  refine cw_go C (off := (-34)) (tgt := 171) (by decide +kernel) rfl ?_
  refine cw_il C (lv_at hl5 0 rfl) (by decide +kernel) ?_
  refine cw_ic C (n := 4) (v := 4) (by decide +kernel) (by decide) ?_
  refine cw_geT C (off := 35) (tgt := 208) (by decide +kernel) rfl (by decide) ?_
  exact cw_end C ((lf [q5, q16, q27, q38, q50, q58, q67, q73, q84, q95, q106, q117, q128, q139, q181_1, q194_1, q181_2, q194_2, q181_3, q194_3, q181_4, q194_4], (fun i => [v5, (fun _ => 0), (fun _ => 0), (fun _ => 0), (fun _ => 0), (fun _ => 0), (fun _ => 0), v73, v84, v95, v106, v117, v128, v139, v181_1, v194_1, v181_2, v194_2, v181_3, v194_3, v181_4, v194_4].getD i (fun _ => 0)), (fun i => [(fun _ => 0, fun _ => 0), v16, v27, v38].getD i (fun _ => 0, fun _ => 0)))) hr hlk hAe (by rw [hf18, hf17, hf16, hf15, hf14, hf13, hf12, hf11, hf10, hf9, hf8, hf7, hf6, hf5, hf4, hf3, hf2, hf1, hw26_, hwq194_4, hw25_, hwq181_4, hw24_, hwq194_3, hw23_, hwq181_3, hw22_, hwq194_2, hw21_, hwq181_2, hw20_, hwq194_1, hw19_, hwq181_1, hwq139, hwq128, hwq117, hwq106, hwq95, hwq84, hwq73, hwq67, hwq58, hwq50, hwq38, hwq27, hwq16, hwq5]; exact eq_HF Γ h0 q5 q16 q27 q38 q50 q58 q67 q73 q84 q95 q106 q117 q128 q139 q181_1 q194_1 q181_2 q194_2 q181_3 q194_3 q181_4 q194_4 v5 v73 v84 v95 v106 v117 v128 v139 v181_1 v194_1 v181_2 v194_2 v181_3 v194_3 v181_4 v194_4 v16 v27 v38) (by decide +kernel)
