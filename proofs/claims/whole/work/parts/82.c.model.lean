/-! the Model's constructor (printed by wip/gen/ctor.py) -/
set_option maxHeartbeats 4000000 in
set_option maxRecDepth 100000 in
theorem m_R_i (Γ : AG) : CtM Γ y_R_i prog_14_method_1_code 1 1 24 12036 12 z_R (born_R Γ) := by
  refine CtM.of (by decide) rfl (by decide) ?_
  intro h0 p e s m args below meth c A hAe C hin hr hlk ls hl
  have lz : z_R.length = 56 := rfl
  refine cw_a0 C (lv_at hl 0 rfl) (by decide +kernel) ?_
  refine cw_obj C (idx := 3) (gwt6 113 rfl rfl) (gwt1 32 rfl rfl) (gwt1 33 rfl rfl) hl.1 (by decide +kernel) (Nat.le_of_ble_eq_true rfl) (Nat.le_of_ble_eq_true rfl) ?_
  refine cw_a0 C (lv_at hl 0 rfl) (by decide +kernel) ?_
  refine cw_si C (n := 240) (v := 240) (by decide +kernel) (by decide) ?_
  refine cp_newa C (atype := .byte) 1 (n := 240) (k := 21) (N := 240) (a0 := (240, .inl fun _ => 0)) rfl (gwt3 220 rfl rfl) rfl (fun _ => rfl) (by decide) (by decide) (by decide) (cells' := 1) (slots' := 240) rfl rfl (by decide) (by decide) (by decide +kernel) (fun q8 wq8 hwq8 => ?_)
  refine cp_put C hin (idx := 9) (ci := 12) (j := 1) (ty := (.array .byte)) (n := 56) (nm := "tape") (ds := "[B") (fin := true) rfl (by decide) (by decide +kernel) rfl rfl (gwt6 117 rfl rfl) (by decide) (by decide +kernel) rfl rfl lz (by decide +kernel) (fun f1 hf1 lf1 => ?_)
  refine cw_a0 C (lv_at hl 0 rfl) (by decide +kernel) ?_
  refine cw_si C (n := 960) (v := 960) (by decide +kernel) (by decide) ?_
  refine cp_newa C (atype := .byte) 1 (n := 960) (k := 21) (N := 960) (a0 := (960, .inl fun _ => 0)) rfl (gwt3 220 rfl rfl) rfl (fun _ => rfl) (by decide) (by decide) (by decide) (cells' := 2) (slots' := 1200) rfl rfl (by decide) (by decide) (by decide +kernel) (fun q17 wq17 hwq17 => ?_)
  refine cp_put C hin (idx := 13) (ci := 12) (j := 2) (ty := (.array .byte)) (n := 56) (nm := "texts") (ds := "[B") (fin := true) rfl (by decide) (by decide +kernel) rfl rfl (gwt6 118 rfl rfl) (by decide) (by decide +kernel) rfl rfl lf1 (by decide +kernel) (fun f2 hf2 lf2 => ?_)
  refine cw_a0 C (lv_at hl 0 rfl) (by decide +kernel) ?_
  refine cw_ic C (n := 4) (v := 4) (by decide +kernel) (by decide) ?_
  refine cp_newa C (atype := .int) 0 (n := 4) (k := 20) (N := 4) (a0 := (4, .inl fun _ => 0)) rfl (gwt1 55 rfl rfl) rfl (fun _ => rfl) (by decide) (by decide) (by decide) (cells' := 3) (slots' := 1204) rfl rfl (by decide) (by decide) (by decide +kernel) (fun q24 wq24 hwq24 => ?_)
  refine cp_put C hin (idx := 16) (ci := 12) (j := 3) (ty := (.array .int)) (n := 56) (nm := "textLong") (ds := "[I") (fin := true) rfl (by decide) (by decide +kernel) rfl rfl (gwt6 119 rfl rfl) (by decide) (by decide +kernel) rfl rfl lf2 (by decide +kernel) (fun f3 hf3 lf3 => ?_)
  refine cw_a0 C (lv_at hl 0 rfl) (by decide +kernel) ?_
  refine cw_si C (n := 128) (v := 128) (by decide +kernel) (by decide) ?_
  refine cp_newa C (atype := .int) 0 (n := 128) (k := 20) (N := 128) (a0 := (128, .inl fun _ => 0)) rfl (gwt1 55 rfl rfl) rfl (fun _ => rfl) (by decide) (by decide) (by decide) (cells' := 4) (slots' := 1332) rfl rfl (by decide) (by decide) (by decide +kernel) (fun q33 wq33 hwq33 => ?_)
  refine cp_put C hin (idx := 20) (ci := 12) (j := 4) (ty := (.array .int)) (n := 56) (nm := "letters") (ds := "[I") (fin := true) rfl (by decide) (by decide +kernel) rfl rfl (gwt6 120 rfl rfl) (by decide) (by decide +kernel) rfl rfl lf3 (by decide +kernel) (fun f4 hf4 lf4 => ?_)
  refine cw_a0 C (lv_at hl 0 rfl) (by decide +kernel) ?_
  refine cw_a0 C (lv_at hl 0 rfl) (by decide +kernel) ?_
  refine cp_get C (idx := 9) (ci := 12) (j := 1) (v := .ref q8) (n := 56) (nm := "tape") (ds := "[B") (fin := true) rfl (by decide +kernel) rfl rfl (gwt6 117 rfl rfl) (by decide) (by rw [hf4, hf3, hf2, hf1]; rfl) (by decide +kernel) ?_
  refine cp_put C hin (idx := 23) (ci := 12) (j := 5) (ty := (.array .byte)) (n := 56) (nm := "text") (ds := "[B") (fin := false) rfl (by decide) (by decide +kernel) rfl rfl (gwt6 121 rfl rfl) (by decide) (by decide +kernel) rfl rfl lf4 (by decide +kernel) (fun f5 hf5 lf5 => ?_)
  refine cw_a0 C (lv_at hl 0 rfl) (by decide +kernel) ?_
  refine cw_lds C (k := 26) (C.2.2.2.2.2.1.2.2.1 12 (26, 1, 9, 1314) (by decide) rfl) (by decide +kernel) ?_
  refine cp_put C hin (idx := 28) (ci := 12) (j := 15) (ty := (.object "java/lang/String")) (n := 56) (nm := "labels") (ds := "Ljava/lang/String;") (fin := true) rfl (by decide) (by decide +kernel) rfl rfl (gwt6 131 rfl rfl) (by decide) (by decide +kernel) rfl rfl lf5 (by decide +kernel) (fun f6 hf6 lf6 => ?_)
  refine cw_a0 C (lv_at hl 0 rfl) (by decide +kernel) ?_
  refine cw_lds C (k := 32) (C.2.2.2.2.2.1.2.2.1 12 (32, 1, 7, 1315) (by decide) rfl) (by decide +kernel) ?_
  refine cp_put C hin (idx := 34) (ci := 12) (j := 16) (ty := (.object "java/lang/String")) (n := 56) (nm := "allowed") (ds := "Ljava/lang/String;") (fin := true) rfl (by decide) (by decide +kernel) rfl rfl (gwt6 132 rfl rfl) (by decide) (by decide +kernel) rfl rfl lf6 (by decide +kernel) (fun f7 hf7 lf7 => ?_)
  refine cw_a0 C (lv_at hl 0 rfl) (by decide +kernel) ?_
  refine cw_ic C (n := 4) (v := 4) (by decide +kernel) (by decide) ?_
  refine cp_newa C (atype := .int) 0 (n := 4) (k := 20) (N := 4) (a0 := (4, .inl fun _ => 0)) rfl (gwt1 55 rfl rfl) rfl (fun _ => rfl) (by decide) (by decide) (by decide) (cells' := 5) (slots' := 1336) rfl rfl (by decide) (by decide) (by decide +kernel) (fun q60 wq60 hwq60 => ?_)
  refine cp_put C hin (idx := 37) (ci := 12) (j := 18) (ty := (.array .int)) (n := 56) (nm := "rule") (ds := "[I") (fin := true) rfl (by decide) (by decide +kernel) rfl rfl (gwt6 134 rfl rfl) (by decide) (by decide +kernel) rfl rfl lf7 (by decide +kernel) (fun f8 hf8 lf8 => ?_)
  refine cw_a0 C (lv_at hl 0 rfl) (by decide +kernel) ?_
  refine cw_ic C (n := 4) (v := 4) (by decide +kernel) (by decide) ?_
  refine cp_newa C (atype := .int) 0 (n := 4) (k := 20) (N := 4) (a0 := (4, .inl fun _ => 0)) rfl (gwt1 55 rfl rfl) rfl (fun _ => rfl) (by decide) (by decide) (by decide) (cells' := 6) (slots' := 1340) rfl rfl (by decide) (by decide) (by decide +kernel) (fun q67 wq67 hwq67 => ?_)
  refine cp_put C hin (idx := 40) (ci := 12) (j := 19) (ty := (.array .int)) (n := 56) (nm := "ruleRead") (ds := "[I") (fin := true) rfl (by decide) (by decide +kernel) rfl rfl (gwt6 135 rfl rfl) (by decide) (by decide +kernel) rfl rfl lf8 (by decide +kernel) (fun f9 hf9 lf9 => ?_)
  refine cw_a0 C (lv_at hl 0 rfl) (by decide +kernel) ?_
  refine cw_bi C (n := 52) (v := 52) (by decide +kernel) (by decide) ?_
  refine cp_newa C (atype := .int) 0 (n := 52) (k := 20) (N := 52) (a0 := (52, .inl fun _ => 0)) rfl (gwt1 55 rfl rfl) rfl (fun _ => rfl) (by decide) (by decide) (by decide) (cells' := 7) (slots' := 1392) rfl rfl (by decide) (by decide) (by decide +kernel) (fun q75 wq75 hwq75 => ?_)
  refine cp_put C hin (idx := 43) (ci := 12) (j := 20) (ty := (.array .int)) (n := 56) (nm := "vein") (ds := "[I") (fin := true) rfl (by decide) (by decide +kernel) rfl rfl (gwt6 136 rfl rfl) (by decide) (by decide +kernel) rfl rfl lf9 (by decide +kernel) (fun f10 hf10 lf10 => ?_)
  refine cw_a0 C (lv_at hl 0 rfl) (by decide +kernel) ?_
  refine cw_bi C (n := 52) (v := 52) (by decide +kernel) (by decide) ?_
  refine cp_newa C (atype := .int) 0 (n := 52) (k := 20) (N := 52) (a0 := (52, .inl fun _ => 0)) rfl (gwt1 55 rfl rfl) rfl (fun _ => rfl) (by decide) (by decide) (by decide) (cells' := 8) (slots' := 1444) rfl rfl (by decide) (by decide) (by decide +kernel) (fun q83 wq83 hwq83 => ?_)
  refine cp_put C hin (idx := 46) (ci := 12) (j := 21) (ty := (.array .int)) (n := 56) (nm := "veinRead") (ds := "[I") (fin := true) rfl (by decide) (by decide +kernel) rfl rfl (gwt6 137 rfl rfl) (by decide) (by decide +kernel) rfl rfl lf10 (by decide +kernel) (fun f11 hf11 lf11 => ?_)
  refine cw_a0 C (lv_at hl 0 rfl) (by decide +kernel) ?_
  refine cw_bi C (n := 12) (v := 12) (by decide +kernel) (by decide) ?_
  refine cp_newa C (atype := .int) 0 (n := 12) (k := 20) (N := 12) (a0 := (12, .inl fun _ => 0)) rfl (gwt1 55 rfl rfl) rfl (fun _ => rfl) (by decide) (by decide) (by decide) (cells' := 9) (slots' := 1456) rfl rfl (by decide) (by decide) (by decide +kernel) (fun q91 wq91 hwq91 => ?_)
  refine cp_put C hin (idx := 49) (ci := 12) (j := 22) (ty := (.array .int)) (n := 56) (nm := "iron") (ds := "[I") (fin := true) rfl (by decide) (by decide +kernel) rfl rfl (gwt6 138 rfl rfl) (by decide) (by decide +kernel) rfl rfl lf11 (by decide +kernel) (fun f12 hf12 lf12 => ?_)
  refine cw_a0 C (lv_at hl 0 rfl) (by decide +kernel) ?_
  refine cw_bi C (n := 12) (v := 12) (by decide +kernel) (by decide) ?_
  refine cp_newa C (atype := .int) 0 (n := 12) (k := 20) (N := 12) (a0 := (12, .inl fun _ => 0)) rfl (gwt1 55 rfl rfl) rfl (fun _ => rfl) (by decide) (by decide) (by decide) (cells' := 10) (slots' := 1468) rfl rfl (by decide) (by decide) (by decide +kernel) (fun q99 wq99 hwq99 => ?_)
  refine cp_put C hin (idx := 52) (ci := 12) (j := 23) (ty := (.array .int)) (n := 56) (nm := "ironRead") (ds := "[I") (fin := true) rfl (by decide) (by decide +kernel) rfl rfl (gwt6 139 rfl rfl) (by decide) (by decide +kernel) rfl rfl lf12 (by decide +kernel) (fun f13 hf13 lf13 => ?_)
  refine cw_a0 C (lv_at hl 0 rfl) (by decide +kernel) ?_
  refine cw_bi C (n := 12) (v := 12) (by decide +kernel) (by decide) ?_
  refine cp_newa C (atype := .int) 0 (n := 12) (k := 20) (N := 12) (a0 := (12, .inl fun _ => 0)) rfl (gwt1 55 rfl rfl) rfl (fun _ => rfl) (by decide) (by decide) (by decide) (cells' := 11) (slots' := 1480) rfl rfl (by decide) (by decide) (by decide +kernel) (fun q107 wq107 hwq107 => ?_)
  refine cp_put C hin (idx := 55) (ci := 12) (j := 24) (ty := (.array .int)) (n := 56) (nm := "rock") (ds := "[I") (fin := true) rfl (by decide) (by decide +kernel) rfl rfl (gwt6 140 rfl rfl) (by decide) (by decide +kernel) rfl rfl lf13 (by decide +kernel) (fun f14 hf14 lf14 => ?_)
  refine cw_a0 C (lv_at hl 0 rfl) (by decide +kernel) ?_
  refine cw_bi C (n := 12) (v := 12) (by decide +kernel) (by decide) ?_
  refine cp_newa C (atype := .int) 0 (n := 12) (k := 20) (N := 12) (a0 := (12, .inl fun _ => 0)) rfl (gwt1 55 rfl rfl) rfl (fun _ => rfl) (by decide) (by decide) (by decide) (cells' := 12) (slots' := 1492) rfl rfl (by decide) (by decide) (by decide +kernel) (fun q115 wq115 hwq115 => ?_)
  refine cp_put C hin (idx := 58) (ci := 12) (j := 25) (ty := (.array .int)) (n := 56) (nm := "rockRead") (ds := "[I") (fin := true) rfl (by decide) (by decide +kernel) rfl rfl (gwt6 141 rfl rfl) (by decide) (by decide +kernel) rfl rfl lf14 (by decide +kernel) (fun f15 hf15 lf15 => ?_)
  refine cw_a0 C (lv_at hl 0 rfl) (by decide +kernel) ?_
  refine cw_bi C (n := 36) (v := 36) (by decide +kernel) (by decide) ?_
  refine cp_newa C (atype := .int) 0 (n := 36) (k := 20) (N := 36) (a0 := (36, .inl fun _ => 0)) rfl (gwt1 55 rfl rfl) rfl (fun _ => rfl) (by decide) (by decide) (by decide) (cells' := 13) (slots' := 1528) rfl rfl (by decide) (by decide) (by decide +kernel) (fun q123 wq123 hwq123 => ?_)
  refine cp_put C hin (idx := 61) (ci := 12) (j := 26) (ty := (.array .int)) (n := 56) (nm := "fork") (ds := "[I") (fin := true) rfl (by decide) (by decide +kernel) rfl rfl (gwt6 142 rfl rfl) (by decide) (by decide +kernel) rfl rfl lf15 (by decide +kernel) (fun f16 hf16 lf16 => ?_)
  refine cw_a0 C (lv_at hl 0 rfl) (by decide +kernel) ?_
  refine cw_bi C (n := 36) (v := 36) (by decide +kernel) (by decide) ?_
  refine cp_newa C (atype := .int) 0 (n := 36) (k := 20) (N := 36) (a0 := (36, .inl fun _ => 0)) rfl (gwt1 55 rfl rfl) rfl (fun _ => rfl) (by decide) (by decide) (by decide) (cells' := 14) (slots' := 1564) rfl rfl (by decide) (by decide) (by decide +kernel) (fun q131 wq131 hwq131 => ?_)
  refine cp_put C hin (idx := 64) (ci := 12) (j := 27) (ty := (.array .int)) (n := 56) (nm := "forkRead") (ds := "[I") (fin := true) rfl (by decide) (by decide +kernel) rfl rfl (gwt6 143 rfl rfl) (by decide) (by decide +kernel) rfl rfl lf16 (by decide +kernel) (fun f17 hf17 lf17 => ?_)
  refine cw_a0 C (lv_at hl 0 rfl) (by decide +kernel) ?_
  refine cw_si C (n := 640) (v := 640) (by decide +kernel) (by decide) ?_
  refine cp_newa C (atype := .int) 0 (n := 640) (k := 20) (N := 640) (a0 := (640, .inl fun _ => 0)) rfl (gwt1 55 rfl rfl) rfl (fun _ => rfl) (by decide) (by decide) (by decide) (cells' := 15) (slots' := 2204) rfl rfl (by decide) (by decide) (by decide +kernel) (fun q140 wq140 hwq140 => ?_)
  refine cp_put C hin (idx := 67) (ci := 12) (j := 28) (ty := (.array .int)) (n := 56) (nm := "walk") (ds := "[I") (fin := true) rfl (by decide) (by decide +kernel) rfl rfl (gwt6 144 rfl rfl) (by decide) (by decide +kernel) rfl rfl lf17 (by decide +kernel) (fun f18 hf18 lf18 => ?_)
  refine cw_a0 C (lv_at hl 0 rfl) (by decide +kernel) ?_
  refine cw_ic C (n := 5) (v := 5) (by decide +kernel) (by decide) ?_
  refine cp_newa C (atype := .int) 0 (n := 5) (k := 20) (N := 5) (a0 := (5, .inl fun _ => 0)) rfl (gwt1 55 rfl rfl) rfl (fun _ => rfl) (by decide) (by decide) (by decide) (cells' := 16) (slots' := 2209) rfl rfl (by decide) (by decide) (by decide +kernel) (fun q147 wq147 hwq147 => ?_)
  refine cp_put C hin (idx := 70) (ci := 12) (j := 29) (ty := (.array .int)) (n := 56) (nm := "walkLong") (ds := "[I") (fin := true) rfl (by decide) (by decide +kernel) rfl rfl (gwt6 145 rfl rfl) (by decide) (by decide +kernel) rfl rfl lf18 (by decide +kernel) (fun f19 hf19 lf19 => ?_)
  refine cw_a0 C (lv_at hl 0 rfl) (by decide +kernel) ?_
  refine cw_si C (n := 227) (v := 227) (by decide +kernel) (by decide) ?_
  refine cp_newa C (atype := .int) 0 (n := 227) (k := 20) (N := 227) (a0 := (227, .inl fun _ => 0)) rfl (gwt1 55 rfl rfl) rfl (fun _ => rfl) (by decide) (by decide) (by decide) (cells' := 17) (slots' := 2436) rfl rfl (by decide) (by decide) (by decide +kernel) (fun q156 wq156 hwq156 => ?_)
  refine cp_put C hin (idx := 73) (ci := 12) (j := 41) (ty := (.array .int)) (n := 56) (nm := "now") (ds := "[I") (fin := true) rfl (by decide) (by decide +kernel) rfl rfl (gwt6 157 rfl rfl) (by decide) (by decide +kernel) rfl rfl lf19 (by decide +kernel) (fun f20 hf20 lf20 => ?_)
  refine cw_a0 C (lv_at hl 0 rfl) (by decide +kernel) ?_
  refine cw_si C (n := 227) (v := 227) (by decide +kernel) (by decide) ?_
  refine cp_newa C (atype := .int) 0 (n := 227) (k := 20) (N := 227) (a0 := (227, .inl fun _ => 0)) rfl (gwt1 55 rfl rfl) rfl (fun _ => rfl) (by decide) (by decide) (by decide) (cells' := 18) (slots' := 2663) rfl rfl (by decide) (by decide) (by decide +kernel) (fun q165 wq165 hwq165 => ?_)
  refine cp_put C hin (idx := 76) (ci := 12) (j := 42) (ty := (.array .int)) (n := 56) (nm := "trial") (ds := "[I") (fin := true) rfl (by decide) (by decide +kernel) rfl rfl (gwt6 158 rfl rfl) (by decide) (by decide +kernel) rfl rfl lf20 (by decide +kernel) (fun f21 hf21 lf21 => ?_)
  refine cw_a0 C (lv_at hl 0 rfl) (by decide +kernel) ?_
  refine cw_ic C (n := (-1)) (v := (-1)) (by decide +kernel) (by decide) ?_
  refine cp_put C hin (idx := 79) (ci := 12) (j := 43) (ty := .int) (n := 56) (nm := "law") (ds := "I") (fin := false) rfl (by decide) (by decide +kernel) rfl rfl (gwt6 159 rfl rfl) (by decide) (by decide +kernel) rfl rfl lf21 (by decide +kernel) (fun f22 hf22 lf22 => ?_)
  refine cw_a0 C (lv_at hl 0 rfl) (by decide +kernel) ?_
  refine cw_si C (n := 9080) (v := 9080) (by decide +kernel) (by decide) ?_
  refine cp_newa C (atype := .int) 0 (n := 9080) (k := 20) (N := 9080) (a0 := (9080, .inl fun _ => 0)) rfl (gwt1 55 rfl rfl) rfl (fun _ => rfl) (by decide) (by decide) (by decide) (cells' := 19) (slots' := 11743) rfl rfl (by decide) (by decide) (by decide +kernel) (fun q179 wq179 hwq179 => ?_)
  refine cp_put C hin (idx := 83) (ci := 12) (j := 44) (ty := (.array .int)) (n := 56) (nm := "undoRow") (ds := "[I") (fin := true) rfl (by decide) (by decide +kernel) rfl rfl (gwt6 160 rfl rfl) (by decide) (by decide +kernel) rfl rfl lf22 (by decide +kernel) (fun f23 hf23 lf23 => ?_)
  refine cw_a0 C (lv_at hl 0 rfl) (by decide +kernel) ?_
  refine cw_bi C (n := 12) (v := 12) (by decide +kernel) (by decide) ?_
  refine cp_newa C (atype := .int) 0 (n := 12) (k := 20) (N := 12) (a0 := (12, .inl fun _ => 0)) rfl (gwt1 55 rfl rfl) rfl (fun _ => rfl) (by decide) (by decide) (by decide) (cells' := 20) (slots' := 11755) rfl rfl (by decide) (by decide) (by decide +kernel) (fun q187 wq187 hwq187 => ?_)
  refine cp_put C hin (idx := 86) (ci := 12) (j := 49) (ty := (.array .int)) (n := 56) (nm := "heardFork") (ds := "[I") (fin := true) rfl (by decide) (by decide +kernel) rfl rfl (gwt6 165 rfl rfl) (by decide) (by decide +kernel) rfl rfl lf23 (by decide +kernel) (fun f24 hf24 lf24 => ?_)
  refine cw_a0 C (lv_at hl 0 rfl) (by decide +kernel) ?_
  refine cw_bi C (n := 12) (v := 12) (by decide +kernel) (by decide) ?_
  refine cp_newa C (atype := .int) 0 (n := 12) (k := 20) (N := 12) (a0 := (12, .inl fun _ => 0)) rfl (gwt1 55 rfl rfl) rfl (fun _ => rfl) (by decide) (by decide) (by decide) (cells' := 21) (slots' := 11767) rfl rfl (by decide) (by decide) (by decide +kernel) (fun q195 wq195 hwq195 => ?_)
  refine cp_put C hin (idx := 89) (ci := 12) (j := 50) (ty := (.array .int)) (n := 56) (nm := "heardCell") (ds := "[I") (fin := true) rfl (by decide) (by decide +kernel) rfl rfl (gwt6 166 rfl rfl) (by decide) (by decide +kernel) rfl rfl lf24 (by decide +kernel) (fun f25 hf25 lf25 => ?_)
  refine cw_a0 C (lv_at hl 0 rfl) (by decide +kernel) ?_
  refine cw_bi C (n := 12) (v := 12) (by decide +kernel) (by decide) ?_
  refine cp_newa C (atype := .boolean) 2 (n := 12) (k := 22) (N := 12) (a0 := (12, .inl fun _ => 0)) rfl (gwt2 53 rfl rfl) rfl (fun _ => rfl) (by decide) (by decide) (by decide) (cells' := 22) (slots' := 11779) rfl rfl (by decide) (by decide) (by decide +kernel) (fun q203 wq203 hwq203 => ?_)
  refine cp_put C hin (idx := 92) (ci := 12) (j := 51) (ty := (.array .boolean)) (n := 56) (nm := "heardWater") (ds := "[Z") (fin := true) rfl (by decide) (by decide +kernel) rfl rfl (gwt6 167 rfl rfl) (by decide) (by decide +kernel) rfl rfl lf25 (by decide +kernel) (fun f26 hf26 lf26 => ?_)
  refine cw_a0 C (lv_at hl 0 rfl) (by decide +kernel) ?_
  refine cw_bi C (n := 30) (v := 30) (by decide +kernel) (by decide) ?_
  refine cp_newa C (atype := .int) 0 (n := 30) (k := 20) (N := 30) (a0 := (30, .inl fun _ => 0)) rfl (gwt1 55 rfl rfl) rfl (fun _ => rfl) (by decide) (by decide) (by decide) (cells' := 23) (slots' := 11809) rfl rfl (by decide) (by decide) (by decide +kernel) (fun q211 wq211 hwq211 => ?_)
  refine cp_put C hin (idx := 96) (ci := 12) (j := 53) (ty := (.array .int)) (n := 56) (nm := "leans") (ds := "[I") (fin := true) rfl (by decide) (by decide +kernel) rfl rfl (gwt6 169 rfl rfl) (by decide) (by decide +kernel) rfl rfl lf26 (by decide +kernel) (fun f27 hf27 lf27 => ?_)
  refine cw_a0 C (lv_at hl 0 rfl) (by decide +kernel) ?_
  refine cw_si C (n := 227) (v := 227) (by decide +kernel) (by decide) ?_
  refine cp_newa C (atype := .int) 0 (n := 227) (k := 20) (N := 227) (a0 := (227, .inl fun _ => 0)) rfl (gwt1 55 rfl rfl) rfl (fun _ => rfl) (by decide) (by decide) (by decide) (cells' := 24) (slots' := 12036) rfl rfl (by decide) (by decide) (by decide +kernel) (fun q220 wq220 hwq220 => ?_)
  refine cp_put C hin (idx := 99) (ci := 12) (j := 54) (ty := (.array .int)) (n := 56) (nm := "imageRow") (ds := "[I") (fin := true) rfl (by decide) (by decide +kernel) rfl rfl (gwt6 170 rfl rfl) (by decide) (by decide +kernel) rfl rfl lf27 (by decide +kernel) (fun f28 hf28 lf28 => ?_)
  exact cw_end C (lf [q8, q17, q24, q33, q60, q67, q75, q83, q91, q99, q107, q115, q123, q131, q140, q147, q156, q165, q179, q187, q195, q203, q211, q220]) hr hlk hAe (by rw [hf28, hf27, hf26, hf25, hf24, hf23, hf22, hf21, hf20, hf19, hf18, hf17, hf16, hf15, hf14, hf13, hf12, hf11, hf10, hf9, hf8, hf7, hf6, hf5, hf4, hf3, hf2, hf1, hwq220, hwq211, hwq203, hwq195, hwq187, hwq179, hwq165, hwq156, hwq147, hwq140, hwq131, hwq123, hwq115, hwq107, hwq99, hwq91, hwq83, hwq75, hwq67, hwq60, hwq33, hwq24, hwq17, hwq8]; exact eq_R Γ h0 q8 q17 q24 q33 q60 q67 q75 q83 q91 q99 q107 q115 q123 q131 q140 q147 q156 q165 q179 q187 q195 q203 q211 q220) (by decide +kernel)
