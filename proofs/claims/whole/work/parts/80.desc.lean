def tb_Tape_bytesIn : List (Nat × Instr × Nat) := [(0, .iconst 0, 1), (1, .istore_n 1, 1), (2, .bipush 24, 2), (4, .istore_n 2, 1), (5, .iload_n 2, 1), (6, .ifCond .lt 27, 3), (9, .iload_n 1, 1), (10, .iload_n 0, 1), (11, .iload_n 2, 1), (12, .iushr, 1), (13, .sipush 255, 3), (16, .iand, 1), (17, .ifCond .ne 7, 3), (20, .iconst 0, 1), (21, .goto 4, 3), (24, .iconst 1, 1), (25, .iadd, 1), (26, .istore_n 1, 1), (27, .iinc 2 (-8), 3), (30, .goto (-25), 3), (33, .iload_n 1, 1), (34, .ireturn, 1)]
def m_Tape_bytesIn : AM := (1, ⟨"HeathForks$Tape", "bytesIn", "(I)I"⟩, prog_9_method_2_code, tb_Tape_bytesIn, 3, some .int, 0)
theorem tk_Tape_bytesIn : tabOk prog_9_method_2_code tb_Tape_bytesIn := by unfold tabOk; decide +kernel
set_option maxRecDepth 20000 in
theorem bb0_Tape_bytesIn : cB m_Tape_bytesIn 1 := ⟨(gwt1 2 rfl rfl), (gwt2 162 rfl rfl), ⟨by decide, by decide⟩, by decide +kernel, by decide⟩
theorem bb_Tape_bytesIn : cB m_Tape_bytesIn 1 := bb0_Tape_bytesIn
set_option maxRecDepth 20000 in
theorem vv_Tape_bytesIn : Cond.static (my m_Tape_bytesIn) ∈ gw := (gwt2 161 rfl rfl)
def tb_Tape_append : List (Nat × Instr × Nat) := [(0, .bipush 24, 2), (2, .istore_n 2, 1), (3, .iload_n 2, 1), (4, .ifCond .lt 60, 3), (7, .iload_n 1, 1), (8, .iload_n 2, 1), (9, .iushr, 1), (10, .sipush 255, 3), (13, .iand, 1), (14, .istore_n 3, 1), (15, .iload_n 3, 1), (16, .ifCond .eq 42, 3), (19, .aload_n 0, 1), (20, .getfield 15, 3), (23, .ifCond .lt 35, 3), (26, .aload_n 0, 1), (27, .getfield 15, 3), (30, .aload_n 0, 1), (31, .getfield 9, 3), (34, .arraylength, 1), (35, .if_icmp .ge 23, 3), (38, .aload_n 0, 1), (39, .getfield 9, 3), (42, .aload_n 0, 1), (43, .getfield 15, 3), (46, .iload_n 3, 1), (47, .iastore, 1), (48, .aload_n 0, 1), (49, .dup, 1), (50, .getfield 15, 3), (53, .iconst 1, 1), (54, .iadd, 1), (55, .putfield 15, 3), (58, .iinc 2 (-8), 3), (61, .goto (-58), 3), (64, .return_, 1)]
def m_Tape_append : AM := (1, ⟨"HeathForks$Tape", "append", "(I)V"⟩, prog_9_method_3_code, tb_Tape_append, 4, none, 0)
theorem tk_Tape_append : tabOk prog_9_method_3_code tb_Tape_append := by unfold tabOk; decide +kernel
set_option maxRecDepth 20000 in
theorem bb0_Tape_append : cB m_Tape_append 1 := ⟨(gwt1 2 rfl rfl), (gwt2 166 rfl rfl), ⟨by decide, by decide⟩, by decide +kernel, by decide⟩
theorem bb_Tape_append : cB m_Tape_append 1 := bb0_Tape_append
set_option maxRecDepth 20000 in
theorem vv_Tape_append : cV m_Tape_append := ⟨(gwt2 164 rfl rfl), (gwt2 165 rfl rfl)⟩
def tb_HF_feed : List (Nat × Instr × Nat) := [(0, .iload_n 1, 1), (1, .invokestatic 110, 3), (4, .iload_n 2, 1), (5, .invokestatic 110, 3), (8, .iadd, 1), (9, .iload_n 3, 1), (10, .invokestatic 110, 3), (13, .iadd, 1), (14, .iload 4, 2), (16, .invokestatic 110, 3), (19, .iadd, 1), (20, .iload 5, 2), (22, .invokestatic 110, 3), (25, .iadd, 1), (26, .istore 6, 2), (28, .aload_n 0, 1), (29, .getfield 10, 3), (32, .getfield 114, 3), (35, .iload 6, 2), (37, .iadd, 1), (38, .sipush 240, 3), (41, .if_icmp .le 5, 3), (44, .iconst (-1), 1), (45, .ireturn, 1), (46, .aload_n 0, 1), (47, .getfield 10, 3), (50, .iload_n 1, 1), (51, .invokevirtual 117, 3), (54, .aload_n 0, 1), (55, .getfield 10, 3), (58, .iload_n 2, 1), (59, .invokevirtual 117, 3), (62, .aload_n 0, 1), (63, .getfield 10, 3), (66, .iload_n 3, 1), (67, .invokevirtual 117, 3), (70, .aload_n 0, 1), (71, .getfield 10, 3), (74, .iload 4, 2), (76, .invokevirtual 117, 3), (79, .aload_n 0, 1), (80, .getfield 10, 3), (83, .iload 5, 2), (85, .invokevirtual 117, 3), (88, .aload_n 0, 1), (89, .getfield 10, 3), (92, .getfield 114, 3), (95, .ireturn, 1)]
def m_HF_feed : AM := (0, ⟨"HeathForks", "feed", "(IIIII)I"⟩, prog_1_method_2_code, tb_HF_feed, 7, some .int, 1)
theorem tk_HF_feed : tabOk prog_1_method_2_code tb_HF_feed := by unfold tabOk; decide +kernel
set_option maxRecDepth 20000 in
theorem bb0_HF_feed : cB m_HF_feed 5 := ⟨(gwt1 1 rfl rfl), (gwt2 159 rfl rfl), ⟨by decide, by decide⟩, by decide +kernel, by decide⟩
theorem bb_HF_feed : cB m_HF_feed 5 := bb0_HF_feed
set_option maxRecDepth 20000 in
theorem vv_HF_feed : cV m_HF_feed := ⟨(gwt2 157 rfl rfl), (gwt2 158 rfl rfl)⟩
def tb_HF_end : List (Nat × Instr × Nat) := [(0, .iload_n 1, 1), (1, .ifCond .lt 14, 3), (4, .iload_n 1, 1), (5, .aload_n 0, 1), (6, .getfield 10, 3), (9, .getfield 114, 3), (12, .if_icmp .le 5, 3), (15, .iconst 0, 1), (16, .ireturn, 1), (17, .aload_n 0, 1), (18, .getfield 10, 3), (21, .iload_n 1, 1), (22, .putfield 114, 3), (25, .iconst 1, 1), (26, .ireturn, 1)]
def m_HF_end : AM := (0, ⟨"HeathForks", "end", "(I)Z"⟩, prog_1_method_3_code, tb_HF_end, 2, some .boolean, 0)
theorem tk_HF_end : tabOk prog_1_method_3_code tb_HF_end := by unfold tabOk; decide +kernel
set_option maxRecDepth 20000 in
theorem bb0_HF_end : cB m_HF_end 1 := ⟨(gwt1 1 rfl rfl), (gwt2 170 rfl rfl), ⟨by decide, by decide⟩, by decide +kernel, by decide⟩
theorem bb_HF_end : cB m_HF_end 1 := bb0_HF_end
set_option maxRecDepth 20000 in
theorem vv_HF_end : cV m_HF_end := ⟨(gwt2 168 rfl rfl), (gwt2 169 rfl rfl)⟩
def tb_HR_setItem : List (Nat × Instr × Nat) := [(0, .iload_n 1, 1), (1, .bipush 6, 2), (3, .imul, 1), (4, .iload_n 2, 1), (5, .iadd, 1), (6, .bipush 6, 2), (8, .imul, 1), (9, .iload_n 3, 1), (10, .iadd, 1), (11, .istore 5, 2), (13, .iload 5, 2), (15, .ifCond .lt 22, 3), (18, .iload 5, 2), (20, .aload_n 0, 1), (21, .getfield 15, 3), (24, .arraylength, 1), (25, .if_icmp .ge 12, 3), (28, .aload_n 0, 1), (29, .getfield 15, 3), (32, .iload 5, 2), (34, .iload 4, 2), (36, .iastore, 1), (37, .return_, 1)]
def m_HR_setItem : AM := (2, ⟨"HeathForks$HeathReader", "setItem", "(IIII)V"⟩, prog_5_method_10_code, tb_HR_setItem, 6, none, 0)
theorem tk_HR_setItem : tabOk prog_5_method_10_code tb_HR_setItem := by unfold tabOk; decide +kernel
set_option maxRecDepth 20000 in
theorem bb0_HR_setItem : cB m_HR_setItem 4 := ⟨(gwt1 3 rfl rfl), (gwt2 188 rfl rfl), ⟨by decide, by decide⟩, by decide +kernel, by decide⟩
theorem bb_HR_setItem : cB m_HR_setItem 4 := bb0_HR_setItem
set_option maxRecDepth 20000 in
theorem vv_HR_setItem : cV m_HR_setItem := ⟨(gwt2 187 rfl rfl), (gw_p 1 rfl rfl)⟩
def tb_HR_fillWithout : List (Nat × Instr × Nat) := [(0, .iconst 0, 1), (1, .istore_n 3, 1), (2, .iload_n 3, 1), (3, .bipush 6, 2), (5, .if_icmp .ge 44, 3), (8, .iload_n 1, 1), (9, .bipush 6, 2), (11, .imul, 1), (12, .iload_n 3, 1), (13, .iadd, 1), (14, .istore 4, 2), (16, .iload 4, 2), (18, .ifCond .lt 25, 3), (21, .iload 4, 2), (23, .getstatic 118, 3), (26, .arraylength, 1), (27, .if_icmp .ge 16, 3), (30, .aload_n 0, 1), (31, .iload_n 1, 1), (32, .iload_n 2, 1), (33, .iload_n 3, 1), (34, .getstatic 118, 3), (37, .iload 4, 2), (39, .iaload, 1), (40, .invokevirtual 112, 3), (43, .iinc 3 1, 3), (46, .goto (-44), 3), (49, .return_, 1)]
def m_HR_fillWithout : AM := (2, ⟨"HeathForks$HeathReader", "fillWithout", "(II)V"⟩, prog_5_method_9_code, tb_HR_fillWithout, 5, none, 1)
theorem tk_HR_fillWithout : tabOk prog_5_method_9_code tb_HR_fillWithout := by unfold tabOk; decide +kernel
set_option maxRecDepth 20000 in
theorem bb0_HR_fillWithout : cB m_HR_fillWithout 2 := ⟨(gwt1 3 rfl rfl), (gwt2 182 rfl rfl), ⟨by decide, by decide⟩, by decide +kernel, by decide⟩
theorem bb_HR_fillWithout : cB m_HR_fillWithout 2 := bb0_HR_fillWithout
set_option maxRecDepth 20000 in
theorem vv_HR_fillWithout : cV m_HR_fillWithout := ⟨(gwt2 181 rfl rfl), (gw_p 0 rfl rfl)⟩
def tb_Tape_peek : List (Nat × Instr × Nat) := [(0, .aload_n 0, 1), (1, .getfield 19, 3), (4, .ifCond .lt 63, 3), (7, .aload_n 0, 1), (8, .getfield 19, 3), (11, .aload_n 0, 1), (12, .getfield 15, 3), (15, .if_icmp .ge 52, 3), (18, .aload_n 0, 1), (19, .getfield 19, 3), (22, .aload_n 0, 1), (23, .getfield 9, 3), (26, .arraylength, 1), (27, .if_icmp .ge 40, 3), (30, .aload_n 0, 1), (31, .getfield 9, 3), (34, .aload_n 0, 1), (35, .getfield 19, 3), (38, .iaload, 1), (39, .bipush 32, 2), (41, .if_icmp .eq 13, 3), (44, .aload_n 0, 1), (45, .getfield 9, 3), (48, .aload_n 0, 1), (49, .getfield 19, 3), (52, .iaload, 1), (53, .ireturn, 1), (54, .aload_n 0, 1), (55, .dup, 1), (56, .getfield 19, 3), (59, .iconst 1, 1), (60, .iadd, 1), (61, .putfield 19, 3), (64, .goto (-64), 3), (67, .iconst (-1), 1), (68, .ireturn, 1)]
def m_Tape_peek : AM := (1, ⟨"HeathForks$Tape", "peek", "()I"⟩, prog_9_method_4_code, tb_Tape_peek, 1, some .int, 0)
theorem tk_Tape_peek : tabOk prog_9_method_4_code tb_Tape_peek := by unfold tabOk; decide +kernel
set_option maxRecDepth 20000 in
theorem bb0_Tape_peek : cB m_Tape_peek 0 := ⟨(gwt1 2 rfl rfl), (gwt2 197 rfl rfl), ⟨by decide, by decide⟩, by decide +kernel, by decide⟩
theorem bb_Tape_peek : cB m_Tape_peek 0 := bb0_Tape_peek
set_option maxRecDepth 20000 in
theorem vv_Tape_peek : cV m_Tape_peek := ⟨(gwt2 195 rfl rfl), (gwt2 196 rfl rfl)⟩
def tb_Str_isLatin1 : List (Nat × Instr × Nat) := [(0, .getstatic 38, 3), (3, .ifCond .eq 14, 3), (6, .aload_n 0, 1), (7, .getfield 15, 3), (10, .ifCond .ne 7, 3), (13, .iconst 1, 1), (14, .goto 4, 3), (17, .iconst 0, 1), (18, .ireturn, 1)]
def m_Str_isLatin1 : AM := (13, ⟨"java/lang/String", "isLatin1", "()Z"⟩, prog_23_method_154_code, tb_Str_isLatin1, 1, some .boolean, 0)
theorem tk_Str_isLatin1 : tabOk prog_23_method_154_code tb_Str_isLatin1 := by unfold tabOk; decide +kernel
set_option maxRecDepth 20000 in
theorem bb0_Str_isLatin1 : cB m_Str_isLatin1 0 := ⟨(gwt1 14 rfl rfl), (gwt2 212 rfl rfl), ⟨by decide, by decide⟩, by decide +kernel, by decide⟩
theorem bb_Str_isLatin1 : cB m_Str_isLatin1 0 := bb0_Str_isLatin1
set_option maxRecDepth 20000 in
theorem vv_Str_isLatin1 : cV m_Str_isLatin1 := ⟨(gwt2 210 rfl rfl), (gwt2 211 rfl rfl)⟩
def tb_Str_coder : List (Nat × Instr × Nat) := [(0, .getstatic 38, 3), (3, .ifCond .eq 10, 3), (6, .aload_n 0, 1), (7, .getfield 15, 3), (10, .goto 4, 3), (13, .iconst 1, 1), (14, .ireturn, 1)]
def m_Str_coder : AM := (13, ⟨"java/lang/String", "coder", "()B"⟩, prog_23_method_152_code, tb_Str_coder, 1, some .byte, 0)
theorem tk_Str_coder : tabOk prog_23_method_152_code tb_Str_coder := by unfold tabOk; decide +kernel
set_option maxRecDepth 20000 in
theorem bb0_Str_coder : cB m_Str_coder 0 := ⟨(gwt1 14 rfl rfl), (gwt2 222 rfl rfl), ⟨by decide, by decide⟩, by decide +kernel, by decide⟩
theorem bb_Str_coder : cB m_Str_coder 0 := bb0_Str_coder
set_option maxRecDepth 20000 in
theorem vv_Str_coder : cV m_Str_coder := ⟨(gwt2 220 rfl rfl), (gwt2 221 rfl rfl)⟩
def tb_Str_length : List (Nat × Instr × Nat) := [(0, .aload_n 0, 1), (1, .getfield 9, 3), (4, .arraylength, 1), (5, .aload_n 0, 1), (6, .invokevirtual 335, 3), (9, .ishr, 1), (10, .ireturn, 1)]
def m_Str_length : AM := (13, ⟨"java/lang/String", "length", "()I"⟩, prog_23_method_54_code, tb_Str_length, 1, some .int, 1)
theorem tk_Str_length : tabOk prog_23_method_54_code tb_Str_length := by unfold tabOk; decide +kernel
set_option maxRecDepth 20000 in
theorem bb0_Str_length : cB m_Str_length 0 := ⟨(gwt1 14 rfl rfl), (gwt2 218 rfl rfl), ⟨by decide, by decide⟩, by decide +kernel, by decide⟩
theorem bb_Str_length : cB m_Str_length 0 := bb0_Str_length
set_option maxRecDepth 20000 in
theorem vv_Str_length : cV m_Str_length := ⟨(gwt2 216 rfl rfl), (gwt2 217 rfl rfl)⟩
def tb_Lat_canEncode : List (Nat × Instr × Nat) := [(0, .iload_n 0, 1), (1, .ifCond .lt 14, 3), (4, .iload_n 0, 1), (5, .sipush 255, 3), (8, .if_icmp .gt 7, 3), (11, .iconst 1, 1), (12, .goto 4, 3), (15, .iconst 0, 1), (16, .ireturn, 1)]
def m_Lat_canEncode : AM := (14, ⟨"java/lang/StringLatin1", "canEncode", "(I)Z"⟩, prog_24_method_4_code, tb_Lat_canEncode, 1, some .boolean, 0)
theorem tk_Lat_canEncode : tabOk prog_24_method_4_code tb_Lat_canEncode := by unfold tabOk; decide +kernel
set_option maxRecDepth 20000 in
theorem bb0_Lat_canEncode : cB m_Lat_canEncode 1 := ⟨(gwt1 15 rfl rfl), (gwt2 228 rfl rfl), ⟨by decide, by decide⟩, by decide +kernel, by decide⟩
theorem bb_Lat_canEncode : cB m_Lat_canEncode 1 := bb0_Lat_canEncode
set_option maxRecDepth 20000 in
theorem vv_Lat_canEncode : Cond.static (my m_Lat_canEncode) ∈ gw := (gwt2 227 rfl rfl)
def tb_Lat_indexOfChar : List (Nat × Instr × Nat) := [(0, .iload_n 1, 1), (1, .i2b, 1), (2, .istore 4, 2), (4, .iload_n 2, 1), (5, .istore 5, 2), (7, .iload 5, 2), (9, .iload_n 3, 1), (10, .if_icmp .ge 21, 3), (13, .aload_n 0, 1), (14, .iload 5, 2), (16, .baload, 1), (17, .iload 4, 2), (19, .if_icmp .ne 6, 3), (22, .iload 5, 2), (24, .ireturn, 1), (25, .iinc 5 1, 3), (28, .goto (-21), 3), (31, .iconst (-1), 1), (32, .ireturn, 1)]
def m_Lat_indexOfChar : AM := (14, ⟨"java/lang/StringLatin1", "indexOfChar", "([BIII)I"⟩, prog_24_method_23_code, tb_Lat_indexOfChar, 6, some .int, 0)
theorem tk_Lat_indexOfChar : tabOk prog_24_method_23_code tb_Lat_indexOfChar := by unfold tabOk; decide +kernel
set_option maxRecDepth 20000 in
theorem bb0_Lat_indexOfChar : cB m_Lat_indexOfChar 4 := ⟨(gwt1 15 rfl rfl), (gwt2 237 rfl rfl), ⟨by decide, by decide⟩, by decide +kernel, by decide⟩
theorem bb_Lat_indexOfChar : cB m_Lat_indexOfChar 4 := bb0_Lat_indexOfChar
set_option maxRecDepth 20000 in
theorem vv_Lat_indexOfChar : Cond.static (my m_Lat_indexOfChar) ∈ gw := (gwt2 236 rfl rfl)
def tb_Lat_indexOf : List (Nat × Instr × Nat) := [(0, .iload_n 1, 1), (1, .invokestatic 88, 3), (4, .ifCond .ne 5, 3), (7, .iconst (-1), 1), (8, .ireturn, 1), (9, .iload_n 2, 1), (10, .iconst 0, 1), (11, .invokestatic 92, 3), (14, .istore_n 2, 1), (15, .iload_n 3, 1), (16, .aload_n 0, 1), (17, .arraylength, 1), (18, .invokestatic 38, 3), (21, .istore_n 3, 1), (22, .iload_n 2, 1), (23, .iload_n 3, 1), (24, .if_icmp .lt 5, 3), (27, .iconst (-1), 1), (28, .ireturn, 1), (29, .aload_n 0, 1), (30, .iload_n 1, 1), (31, .iload_n 2, 1), (32, .iload_n 3, 1), (33, .invokestatic 95, 3), (36, .ireturn, 1)]
def m_Lat_indexOf : AM := (14, ⟨"java/lang/StringLatin1", "indexOf", "([BIII)I"⟩, prog_24_method_22_code, tb_Lat_indexOf, 4, some .int, 2)
theorem tk_Lat_indexOf : tabOk prog_24_method_22_code tb_Lat_indexOf := by unfold tabOk; decide +kernel
set_option maxRecDepth 20000 in
theorem bb0_Lat_indexOf : cB m_Lat_indexOf 4 := ⟨(gwt1 15 rfl rfl), (gwt2 225 rfl rfl), ⟨by decide, by decide⟩, by decide +kernel, by decide⟩
theorem bb_Lat_indexOf : cB m_Lat_indexOf 4 := bb0_Lat_indexOf
set_option maxRecDepth 20000 in
theorem vv_Lat_indexOf : Cond.static (my m_Lat_indexOf) ∈ gw := (gwt2 224 rfl rfl)
def tb_Str_indexOf2 : List (Nat × Instr × Nat) := [(0, .aload_n 0, 1), (1, .invokevirtual 492, 3), (4, .ifCond .eq 19, 3), (7, .aload_n 0, 1), (8, .getfield 9, 3), (11, .iload_n 1, 1), (12, .iload_n 2, 1), (13, .aload_n 0, 1), (14, .invokevirtual 505, 3), (17, .invokestatic 637, 3), (20, .goto 16, 3), (23, .aload_n 0, 1), (24, .getfield 9, 3), (27, .iload_n 1, 1), (28, .iload_n 2, 1), (29, .aload_n 0, 1), (30, .invokevirtual 505, 3), (33, .invokestatic 640, 3), (36, .ireturn, 1)]
def m_Str_indexOf2 : AM := (13, ⟨"java/lang/String", "indexOf", "(II)I"⟩, prog_23_method_80_code, tb_Str_indexOf2, 3, some .int, 3)
theorem tk_Str_indexOf2 : tabOk prog_23_method_80_code tb_Str_indexOf2 := by unfold tabOk; decide +kernel
set_option maxRecDepth 20000 in
theorem bb0_Str_indexOf2 : cB m_Str_indexOf2 2 := ⟨(gwt1 14 rfl rfl), (gwt2 208 rfl rfl), ⟨by decide, by decide⟩, by decide +kernel, by decide⟩
theorem bb_Str_indexOf2 : cB m_Str_indexOf2 2 := bb0_Str_indexOf2
set_option maxRecDepth 20000 in
theorem vv_Str_indexOf2 : cV m_Str_indexOf2 := ⟨(gwt2 206 rfl rfl), (gwt2 207 rfl rfl)⟩
def tb_Str_indexOf : List (Nat × Instr × Nat) := [(0, .aload_n 0, 1), (1, .iload_n 1, 1), (2, .iconst 0, 1), (3, .invokevirtual 633, 3), (6, .ireturn, 1)]
def m_Str_indexOf : AM := (13, ⟨"java/lang/String", "indexOf", "(I)I"⟩, prog_23_method_79_code, tb_Str_indexOf, 2, some .int, 4)
theorem tk_Str_indexOf : tabOk prog_23_method_79_code tb_Str_indexOf := by unfold tabOk; decide +kernel
set_option maxRecDepth 20000 in
theorem bb0_Str_indexOf : cB m_Str_indexOf 1 := ⟨(gwt1 14 rfl rfl), (gwt2 204 rfl rfl), ⟨by decide, by decide⟩, by decide +kernel, by decide⟩
theorem bb_Str_indexOf : cB m_Str_indexOf 1 := bb0_Str_indexOf
set_option maxRecDepth 20000 in
theorem vv_Str_indexOf : cV m_Str_indexOf := ⟨(gwt2 202 rfl rfl), (gwt2 203 rfl rfl)⟩
def tb_HF_placeIn : List (Nat × Instr × Nat) := [(0, .iload_n 1, 1), (1, .ifCond .ge 7, 3), (4, .iconst (-1), 1), (5, .goto 9, 3), (8, .aload_n 0, 1), (9, .iload_n 1, 1), (10, .i2c, 1), (11, .invokevirtual 414, 3), (14, .ireturn, 1)]
def m_HF_placeIn : AM := (0, ⟨"HeathForks", "placeIn", "(Ljava/lang/String;I)I"⟩, prog_1_method_56_code, tb_HF_placeIn, 2, some .int, 5)
theorem tk_HF_placeIn : tabOk prog_1_method_56_code tb_HF_placeIn := by unfold tabOk; decide +kernel
set_option maxRecDepth 20000 in
theorem bb0_HF_placeIn : cB m_HF_placeIn 2 := ⟨(gwt1 1 rfl rfl), (gwt2 200 rfl rfl), ⟨by decide, by decide⟩, by decide +kernel, by decide⟩
theorem bb_HF_placeIn : cB m_HF_placeIn 2 := bb0_HF_placeIn
set_option maxRecDepth 20000 in
theorem vv_HF_placeIn : Cond.static (my m_HF_placeIn) ∈ gw := (gwt2 199 rfl rfl)
def tb_HR_lettersOf : List (Nat × Instr × Nat) := [(0, .iload_n 0, 1), (1, .tableswitch 43 0 3 #[31, 34, 37, 40], 31), (32, .ldc 77, 2), (34, .areturn, 1), (35, .ldc 79, 2), (37, .areturn, 1), (38, .ldc 81, 2), (40, .areturn, 1), (41, .ldc 83, 2), (43, .areturn, 1), (44, .ldc 85, 2), (46, .areturn, 1)]
def m_HR_lettersOf : AM := (2, ⟨"HeathForks$HeathReader", "lettersOf", "(I)Ljava/lang/String;"⟩, prog_5_method_5_code, tb_HR_lettersOf, 1, some (.object "java/lang/String"), 0)
theorem tk_HR_lettersOf : tabOk prog_5_method_5_code tb_HR_lettersOf := by unfold tabOk; decide +kernel
set_option maxRecDepth 20000 in
theorem bb0_HR_lettersOf : cB m_HR_lettersOf 1 := ⟨(gwt1 3 rfl rfl), (gwt3 55 rfl rfl), ⟨by decide, by decide⟩, by decide +kernel, by decide⟩
theorem bb_HR_lettersOf : cB m_HR_lettersOf 1 := bb0_HR_lettersOf
set_option maxRecDepth 20000 in
theorem vv_HR_lettersOf : Cond.static (my m_HR_lettersOf) ∈ gw := (gwt3 54 rfl rfl)
def tb_HF_holds : List (Nat × Instr × Nat) := [(0, .iload_n 1, 1), (1, .ifCond .lt 16, 3), (4, .iload_n 0, 1), (5, .iload_n 1, 1), (6, .ishr, 1), (7, .iconst 1, 1), (8, .iand, 1), (9, .iconst 1, 1), (10, .if_icmp .ne 7, 3), (13, .iconst 1, 1), (14, .goto 4, 3), (17, .iconst 0, 1), (18, .ireturn, 1)]
def m_HF_holds : AM := (0, ⟨"HeathForks", "holds", "(II)Z"⟩, prog_1_method_54_code, tb_HF_holds, 2, some .boolean, 0)
theorem tk_HF_holds : tabOk prog_1_method_54_code tb_HF_holds := by unfold tabOk; decide +kernel
set_option maxRecDepth 20000 in
theorem bb0_HF_holds : cB m_HF_holds 2 := ⟨(gwt1 1 rfl rfl), (gwt3 63 rfl rfl), ⟨by decide, by decide⟩, by decide +kernel, by decide⟩
theorem bb_HF_holds : cB m_HF_holds 2 := bb0_HF_holds
set_option maxRecDepth 20000 in
theorem vv_HF_holds : Cond.static (my m_HF_holds) ∈ gw := (gwt3 62 rfl rfl)
def tb_HF_bit : List (Nat × Instr × Nat) := [(0, .iconst 1, 1), (1, .iload_n 0, 1), (2, .ishl, 1), (3, .ireturn, 1)]
def m_HF_bit : AM := (0, ⟨"HeathForks", "bit", "(I)I"⟩, prog_1_method_53_code, tb_HF_bit, 1, some .int, 0)
theorem tk_HF_bit : tabOk prog_1_method_53_code tb_HF_bit := by unfold tabOk; decide +kernel
set_option maxRecDepth 20000 in
theorem bb0_HF_bit : cB m_HF_bit 1 := ⟨(gwt1 1 rfl rfl), (gwt3 66 rfl rfl), ⟨by decide, by decide⟩, by decide +kernel, by decide⟩
theorem bb_HF_bit : cB m_HF_bit 1 := bb0_HF_bit
set_option maxRecDepth 20000 in
theorem vv_HF_bit : Cond.static (my m_HF_bit) ∈ gw := (gwt3 65 rfl rfl)
def tb_Tape_number : List (Nat × Instr × Nat) := [(0, .iconst 0, 1), (1, .istore_n 2, 1), (2, .iconst 0, 1), (3, .istore_n 3, 1), (4, .aload_n 0, 1), (5, .getfield 19, 3), (8, .ifCond .lt 86, 3), (11, .aload_n 0, 1), (12, .getfield 19, 3), (15, .aload_n 0, 1), (16, .getfield 15, 3), (19, .if_icmp .ge 75, 3), (22, .aload_n 0, 1), (23, .getfield 19, 3), (26, .aload_n 0, 1), (27, .getfield 9, 3), (30, .arraylength, 1), (31, .if_icmp .ge 63, 3), (34, .aload_n 0, 1), (35, .getfield 9, 3), (38, .aload_n 0, 1), (39, .getfield 19, 3), (42, .iaload, 1), (43, .bipush 48, 2), (45, .isub, 1), (46, .istore 4, 2), (48, .iload 4, 2), (50, .ifCond .lt 44, 3), (53, .iload 4, 2), (55, .bipush 9, 2), (57, .if_icmp .le 6, 3), (60, .goto 34, 3), (63, .iload_n 3, 1), (64, .iload_n 1, 1), (65, .if_icmp .ne 5, 3), (68, .iconst (-1), 1), (69, .ireturn, 1), (70, .iload_n 2, 1), (71, .bipush 10, 2), (73, .imul, 1), (74, .iload 4, 2), (76, .iadd, 1), (77, .istore_n 2, 1), (78, .iinc 3 1, 3), (81, .aload_n 0, 1), (82, .dup, 1), (83, .getfield 19, 3), (86, .iconst 1, 1), (87, .iadd, 1), (88, .putfield 19, 3), (91, .goto (-87), 3), (94, .iload_n 3, 1), (95, .ifCond .ne 7, 3), (98, .iconst (-1), 1), (99, .goto 4, 3), (102, .iload_n 2, 1), (103, .ireturn, 1)]
def m_Tape_number : AM := (1, ⟨"HeathForks$Tape", "number", "(I)I"⟩, prog_9_method_6_code, tb_Tape_number, 5, some .int, 0)
theorem tk_Tape_number : tabOk prog_9_method_6_code tb_Tape_number := by unfold tabOk; decide +kernel
set_option maxRecDepth 20000 in
theorem bb0_Tape_number : cB m_Tape_number 1 := ⟨(gwt1 2 rfl rfl), (gwt3 74 rfl rfl), ⟨by decide, by decide⟩, by decide +kernel, by decide⟩
theorem bb_Tape_number : cB m_Tape_number 1 := bb0_Tape_number
set_option maxRecDepth 20000 in
theorem vv_Tape_number : cV m_Tape_number := ⟨(gwt3 72 rfl rfl), (gwt3 73 rfl rfl)⟩
def tb_HR_readNumber : List (Nat × Instr × Nat) := [(0, .aload_n 1, 1), (1, .invokevirtual 45, 3), (4, .pop, 1), (5, .aload_n 1, 1), (6, .iconst 2, 1), (7, .invokevirtual 103, 3), (10, .istore 5, 2), (12, .iload 5, 2), (14, .iconst (-1), 1), (15, .if_icmp .ne 5, 3), (18, .iconst 0, 1), (19, .ireturn, 1), (20, .iload_n 2, 1), (21, .bipush 6, 2), (23, .imul, 1), (24, .iload 4, 2), (26, .iadd, 1), (27, .istore 6, 2), (29, .iload 6, 2), (31, .ifCond .lt 43, 3), (34, .iload 6, 2), (36, .getstatic 106, 3), (39, .arraylength, 1), (40, .if_icmp .ge 34, 3), (43, .iload 6, 2), (45, .getstatic 109, 3), (48, .arraylength, 1), (49, .if_icmp .ge 25, 3), (52, .iload 5, 2), (54, .getstatic 109, 3), (57, .iload 6, 2), (59, .iaload, 1), (60, .if_icmp .lt 14, 3), (63, .iload 5, 2), (65, .getstatic 106, 3), (68, .iload 6, 2), (70, .iaload, 1), (71, .if_icmp .le 15, 3), (74, .aload_n 1, 1), (75, .dup, 1), (76, .getfield 31, 3), (79, .iconst 1, 1), (80, .isub, 1), (81, .putfield 31, 3), (84, .iconst 0, 1), (85, .ireturn, 1), (86, .aload_n 0, 1), (87, .iload_n 2, 1), (88, .iload_n 3, 1), (89, .iload 4, 2), (91, .iload 5, 2), (93, .invokevirtual 112, 3), (96, .iconst 1, 1), (97, .ireturn, 1)]
def m_HR_readNumber : AM := (2, ⟨"HeathForks$HeathReader", "readNumber", "(LHeathForks$Tape;III)Z"⟩, prog_5_method_7_code, tb_HR_readNumber, 7, some .boolean, 1)
theorem tk_HR_readNumber : tabOk prog_5_method_7_code tb_HR_readNumber := by unfold tabOk; decide +kernel
set_option maxRecDepth 20000 in
theorem bb0_HR_readNumber : cB m_HR_readNumber 4 := ⟨(gwt1 3 rfl rfl), (gwt3 70 rfl rfl), ⟨by decide, by decide⟩, by decide +kernel, by decide⟩
theorem bb_HR_readNumber : cB m_HR_readNumber 4 := bb0_HR_readNumber
set_option maxRecDepth 20000 in
theorem vv_HR_readNumber : cV m_HR_readNumber := ⟨(gwt3 69 rfl rfl), (gw_p 4 rfl rfl)⟩
def tb_HR_readItems : List (Nat × Instr × Nat) := [(0, .iload_n 2, 1), (1, .invokestatic 87, 3), (4, .astore 4, 2), (6, .iconst 0, 1), (7, .istore 5, 2), (9, .iconst 0, 1), (10, .istore 6, 2), (12, .iload 6, 2), (14, .bipush 6, 2), (16, .if_icmp .gt 73, 3), (19, .aload 4, 2), (21, .aload_n 1, 1), (22, .invokevirtual 45, 3), (25, .invokestatic 62, 3), (28, .istore 7, 2), (30, .iload 7, 2), (32, .ifCond .ge 5, 3), (35, .iconst 1, 1), (36, .ireturn, 1), (37, .iload 5, 2), (39, .iload 7, 2), (41, .invokestatic 91, 3), (44, .ifCond .eq 5, 3), (47, .iconst 0, 1), (48, .ireturn, 1), (49, .iload 5, 2), (51, .iload 7, 2), (53, .invokestatic 95, 3), (56, .ior, 1), (57, .istore 5, 2), (59, .aload_n 1, 1), (60, .dup, 1), (61, .getfield 31, 3), (64, .iconst 1, 1), (65, .iadd, 1), (66, .putfield 31, 3), (69, .aload_n 0, 1), (70, .aload_n 1, 1), (71, .iload_n 2, 1), (72, .iload_n 3, 1), (73, .iload 7, 2), (75, .invokevirtual 99, 3), (78, .ifCond .ne 5, 3), (81, .iconst 0, 1), (82, .ireturn, 1), (83, .iinc 6 1, 3), (86, .goto (-74), 3), (89, .iconst 1, 1), (90, .ireturn, 1)]
def m_HR_readItems : AM := (2, ⟨"HeathForks$HeathReader", "readItems", "(LHeathForks$Tape;II)Z"⟩, prog_5_method_6_code, tb_HR_readItems, 8, some .boolean, 6)
theorem tk_HR_readItems : tabOk prog_5_method_6_code tb_HR_readItems := by unfold tabOk; decide +kernel
set_option maxRecDepth 20000 in
theorem bb0_HR_readItems : cB m_HR_readItems 3 := ⟨(gwt1 3 rfl rfl), (gwt3 52 rfl rfl), ⟨by decide, by decide⟩, by decide +kernel, by decide⟩
theorem bb_HR_readItems : cB m_HR_readItems 3 := bb0_HR_readItems
set_option maxRecDepth 20000 in
theorem vv_HR_readItems : cV m_HR_readItems := ⟨(gwt3 51 rfl rfl), (gw_p 3 rfl rfl)⟩
def tb_Tape_take : List (Nat × Instr × Nat) := [(0, .aload_n 0, 1), (1, .invokevirtual 22, 3), (4, .iload_n 1, 1), (5, .if_icmp .eq 5, 3), (8, .iconst 0, 1), (9, .ireturn, 1), (10, .aload_n 0, 1), (11, .dup, 1), (12, .getfield 19, 3), (15, .iconst 1, 1), (16, .iadd, 1), (17, .putfield 19, 3), (20, .iconst 1, 1), (21, .ireturn, 1)]
def m_Tape_take : AM := (1, ⟨"HeathForks$Tape", "take", "(I)Z"⟩, prog_9_method_5_code, tb_Tape_take, 2, some .boolean, 1)
theorem tk_Tape_take : tabOk prog_9_method_5_code tb_Tape_take := by unfold tabOk; decide +kernel
set_option maxRecDepth 20000 in
theorem bb0_Tape_take : cB m_Tape_take 1 := ⟨(gwt1 2 rfl rfl), (gwt3 86 rfl rfl), ⟨by decide, by decide⟩, by decide +kernel, by decide⟩
theorem bb_Tape_take : cB m_Tape_take 1 := bb0_Tape_take
set_option maxRecDepth 20000 in
theorem vv_Tape_take : cV m_Tape_take := ⟨(gwt3 84 rfl rfl), (gwt3 85 rfl rfl)⟩
def tb_HR_readCourse : List (Nat × Instr × Nat) := [(0, .iload_n 2, 1), (1, .ifCond .lt 8, 3), (4, .iload_n 2, 1), (5, .iconst 4, 1), (6, .if_icmp .lt 5, 3), (9, .iconst 0, 1), (10, .ireturn, 1), (11, .aload_n 0, 1), (12, .getfield 21, 3), (15, .iload_n 2, 1), (16, .iconst 0, 1), (17, .iastore, 1), (18, .aload_n 1, 1), (19, .bipush 58, 2), (21, .invokevirtual 49, 3), (24, .ifCond .ne 5, 3), (27, .iconst 1, 1), (28, .ireturn, 1), (29, .iconst 0, 1), (30, .istore_n 3, 1), (31, .iload_n 3, 1), (32, .bipush 8, 2), (34, .if_icmp .ge 67, 3), (37, .ldc 116, 2), (39, .aload_n 1, 1), (40, .invokevirtual 45, 3), (43, .invokestatic 62, 3), (46, .istore 4, 2), (48, .iload 4, 2), (50, .ifCond .ge 13, 3), (53, .iload_n 3, 1), (54, .ifCond .le 7, 3), (57, .iconst 1, 1), (58, .goto 4, 3), (61, .iconst 0, 1), (62, .ireturn, 1), (63, .aload_n 0, 1), (64, .getfield 18, 3), (67, .iload_n 2, 1), (68, .bipush 8, 2), (70, .imul, 1), (71, .iload_n 3, 1), (72, .iadd, 1), (73, .iload 4, 2), (75, .iastore, 1), (76, .aload_n 0, 1), (77, .getfield 21, 3), (80, .iload_n 2, 1), (81, .iload_n 3, 1), (82, .iconst 1, 1), (83, .iadd, 1), (84, .iastore, 1), (85, .aload_n 1, 1), (86, .dup, 1), (87, .getfield 31, 3), (90, .iconst 1, 1), (91, .iadd, 1), (92, .putfield 31, 3), (95, .iinc 3 1, 3), (98, .goto (-67), 3), (101, .iconst 1, 1), (102, .ireturn, 1)]
def m_HR_readCourse : AM := (2, ⟨"HeathForks$HeathReader", "readCourse", "(LHeathForks$Tape;I)Z"⟩, prog_5_method_8_code, tb_HR_readCourse, 5, some .boolean, 6)
theorem tk_HR_readCourse : tabOk prog_5_method_8_code tb_HR_readCourse := by unfold tabOk; decide +kernel
set_option maxRecDepth 20000 in
theorem bb0_HR_readCourse : cB m_HR_readCourse 2 := ⟨(gwt1 3 rfl rfl), (gwt3 82 rfl rfl), ⟨by decide, by decide⟩, by decide +kernel, by decide⟩
theorem bb_HR_readCourse : cB m_HR_readCourse 2 := bb0_HR_readCourse
set_option maxRecDepth 20000 in
theorem vv_HR_readCourse : cV m_HR_readCourse := ⟨(gwt3 81 rfl rfl), (gw_p 5 rfl rfl)⟩
def tb_HR_readClause : List (Nat × Instr × Nat) := [(0, .ldc 60, 2), (2, .aload_n 1, 1), (3, .invokevirtual 45, 3), (6, .invokestatic 62, 3), (9, .istore_n 2, 1), (10, .iload_n 2, 1), (11, .ifCond .lt 22, 3), (14, .iload_n 2, 1), (15, .iconst 5, 1), (16, .if_icmp .ge 17, 3), (19, .aload_n 0, 1), (20, .getfield 9, 3), (23, .iload_n 2, 1), (24, .iaload, 1), (25, .getstatic 66, 3), (28, .iload_n 2, 1), (29, .iaload, 1), (30, .if_icmp .lt 5, 3), (33, .iconst 0, 1), (34, .ireturn, 1), (35, .aload_n 1, 1), (36, .dup, 1), (37, .getfield 31, 3), (40, .iconst 1, 1), (41, .iadd, 1), (42, .putfield 31, 3), (45, .aload_n 0, 1), (46, .getfield 9, 3), (49, .iload_n 2, 1), (50, .iaload, 1), (51, .istore_n 3, 1), (52, .aload_n 0, 1), (53, .getfield 9, 3), (56, .iload_n 2, 1), (57, .dup2, 1), (58, .iaload, 1), (59, .iconst 1, 1), (60, .iadd, 1), (61, .iastore, 1), (62, .aload_n 0, 1), (63, .iload_n 2, 1), (64, .iload_n 3, 1), (65, .invokevirtual 37, 3), (68, .aload_n 0, 1), (69, .aload_n 1, 1), (70, .iload_n 2, 1), (71, .iload_n 3, 1), (72, .invokevirtual 69, 3), (75, .ifCond .ne 5, 3), (78, .iconst 0, 1), (79, .ireturn, 1), (80, .iload_n 2, 1), (81, .iconst 1, 1), (82, .if_icmp .ne 12, 3), (85, .aload_n 0, 1), (86, .aload_n 1, 1), (87, .iload_n 3, 1), (88, .invokevirtual 73, 3), (91, .ifCond .eq 7, 3), (94, .iconst 1, 1), (95, .goto 4, 3), (98, .iconst 0, 1), (99, .ireturn, 1)]
def m_HR_readClause : AM := (2, ⟨"HeathForks$HeathReader", "readClause", "(LHeathForks$Tape;)Z"⟩, prog_5_method_4_code, tb_HR_readClause, 4, some .boolean, 7)
theorem tk_HR_readClause : tabOk prog_5_method_4_code tb_HR_readClause := by unfold tabOk; decide +kernel
set_option maxRecDepth 20000 in
theorem bb0_HR_readClause : cB m_HR_readClause 1 := ⟨(gwt1 3 rfl rfl), (gwt2 192 rfl rfl), ⟨by decide, by decide⟩, by decide +kernel, by decide⟩
theorem bb_HR_readClause : cB m_HR_readClause 1 := bb0_HR_readClause
set_option maxRecDepth 20000 in
theorem vv_HR_readClause : cV m_HR_readClause := ⟨(gwt2 191 rfl rfl), (gw_p 2 rfl rfl)⟩
def tb_HR_itemOf : List (Nat × Instr × Nat) := [(0, .iload_n 1, 1), (1, .bipush 6, 2), (3, .imul, 1), (4, .iload_n 2, 1), (5, .iadd, 1), (6, .bipush 6, 2), (8, .imul, 1), (9, .iload_n 3, 1), (10, .iadd, 1), (11, .istore 4, 2), (13, .iload 4, 2), (15, .ifCond .lt 23, 3), (18, .iload 4, 2), (20, .aload_n 0, 1), (21, .getfield 15, 3), (24, .arraylength, 1), (25, .if_icmp .ge 13, 3), (28, .aload_n 0, 1), (29, .getfield 15, 3), (32, .iload 4, 2), (34, .iaload, 1), (35, .goto 4, 3), (38, .iconst 0, 1), (39, .ireturn, 1)]
def m_HR_itemOf : AM := (2, ⟨"HeathForks$HeathReader", "itemOf", "(III)I"⟩, prog_5_method_11_code, tb_HR_itemOf, 5, some .int, 0)
theorem tk_HR_itemOf : tabOk prog_5_method_11_code tb_HR_itemOf := by unfold tabOk; decide +kernel
set_option maxRecDepth 20000 in
theorem bb0_HR_itemOf : cB m_HR_itemOf 3 := ⟨(gwt1 3 rfl rfl), (gwt3 96 rfl rfl), ⟨by decide, by decide⟩, by decide +kernel, by decide⟩
theorem bb_HR_itemOf : cB m_HR_itemOf 3 := bb0_HR_itemOf
set_option maxRecDepth 20000 in
theorem vv_HR_itemOf : cV m_HR_itemOf := ⟨(gwt3 95 rfl rfl), (gw_p 7 rfl rfl)⟩
def tb_Heath_isCell : List (Nat × Instr × Nat) := [(0, .iload_n 1, 1), (1, .ifCond .lt 21, 3), (4, .iload_n 1, 1), (5, .aload_n 0, 1), (6, .getfield 40, 3), (9, .if_icmp .ge 13, 3), (12, .iload_n 1, 1), (13, .bipush 30, 2), (15, .if_icmp .ge 7, 3), (18, .iconst 1, 1), (19, .goto 4, 3), (22, .iconst 0, 1), (23, .ireturn, 1)]
def m_Heath_isCell : AM := (3, ⟨"HeathForks$Heath", "isCell", "(I)Z"⟩, prog_4_method_4_code, tb_Heath_isCell, 2, some .boolean, 0)
theorem tk_Heath_isCell : tabOk prog_4_method_4_code tb_Heath_isCell := by unfold tabOk; decide +kernel
set_option maxRecDepth 20000 in
theorem bb0_Heath_isCell : cB m_Heath_isCell 1 := ⟨(gwt1 4 rfl rfl), (gwt3 113 rfl rfl), ⟨by decide, by decide⟩, by decide +kernel, by decide⟩
theorem bb_Heath_isCell : cB m_Heath_isCell 1 := bb0_Heath_isCell
set_option maxRecDepth 20000 in
theorem vv_Heath_isCell : cV m_Heath_isCell := ⟨(gwt3 111 rfl rfl), (gwt3 112 rfl rfl)⟩
def tb_Heath_columnOf : List (Nat × Instr × Nat) := [(0, .aload_n 0, 1), (1, .getfield 27, 3), (4, .iconst 1, 1), (5, .if_icmp .ge 7, 3), (8, .iconst 0, 1), (9, .goto 9, 3), (12, .iload_n 1, 1), (13, .aload_n 0, 1), (14, .getfield 27, 3), (17, .irem, 1), (18, .ireturn, 1)]
def m_Heath_columnOf : AM := (3, ⟨"HeathForks$Heath", "columnOf", "(I)I"⟩, prog_4_method_7_code, tb_Heath_columnOf, 2, some .int, 0)
theorem tk_Heath_columnOf : tabOk prog_4_method_7_code tb_Heath_columnOf := by unfold tabOk; decide +kernel
set_option maxRecDepth 20000 in
theorem bb0_Heath_columnOf : cB m_Heath_columnOf 1 := ⟨(gwt1 4 rfl rfl), (gwt3 117 rfl rfl), ⟨by decide, by decide⟩, by decide +kernel, by decide⟩
theorem bb_Heath_columnOf : cB m_Heath_columnOf 1 := bb0_Heath_columnOf
set_option maxRecDepth 20000 in
theorem vv_Heath_columnOf : cV m_Heath_columnOf := ⟨(gwt3 115 rfl rfl), (gwt3 116 rfl rfl)⟩
def tb_Heath_rowOf : List (Nat × Instr × Nat) := [(0, .aload_n 0, 1), (1, .getfield 27, 3), (4, .iconst 1, 1), (5, .if_icmp .ge 7, 3), (8, .iconst 0, 1), (9, .goto 9, 3), (12, .iload_n 1, 1), (13, .aload_n 0, 1), (14, .getfield 27, 3), (17, .idiv, 1), (18, .ireturn, 1)]
def m_Heath_rowOf : AM := (3, ⟨"HeathForks$Heath", "rowOf", "(I)I"⟩, prog_4_method_8_code, tb_Heath_rowOf, 2, some .int, 0)
theorem tk_Heath_rowOf : tabOk prog_4_method_8_code tb_Heath_rowOf := by unfold tabOk; decide +kernel
set_option maxRecDepth 20000 in
theorem bb0_Heath_rowOf : cB m_Heath_rowOf 1 := ⟨(gwt1 4 rfl rfl), (gwt3 121 rfl rfl), ⟨by decide, by decide⟩, by decide +kernel, by decide⟩
theorem bb_Heath_rowOf : cB m_Heath_rowOf 1 := bb0_Heath_rowOf
set_option maxRecDepth 20000 in
theorem vv_Heath_rowOf : cV m_Heath_rowOf := ⟨(gwt3 119 rfl rfl), (gwt3 120 rfl rfl)⟩
def tb_Heath_beyond : List (Nat × Instr × Nat) := [(0, .aload_n 0, 1), (1, .iload_n 1, 1), (2, .invokevirtual 71, 3), (5, .ifCond .ne 5, 3), (8, .iconst (-1), 1), (9, .ireturn, 1), (10, .iload_n 2, 1), (11, .tableswitch 111 0 3 #[29, 51, 76, 92], 29), (40, .aload_n 0, 1), (41, .iload_n 1, 1), (42, .invokevirtual 75, 3), (45, .iconst 1, 1), (46, .iadd, 1), (47, .aload_n 0, 1), (48, .getfield 27, 3), (51, .if_icmp .ge 9, 3), (54, .iload_n 1, 1), (55, .iconst 1, 1), (56, .iadd, 1), (57, .goto 4, 3), (60, .iconst (-1), 1), (61, .ireturn, 1), (62, .aload_n 0, 1), (63, .iload_n 1, 1), (64, .invokevirtual 78, 3), (67, .iconst 1, 1), (68, .iadd, 1), (69, .aload_n 0, 1), (70, .getfield 31, 3), (73, .if_icmp .ge 12, 3), (76, .iload_n 1, 1), (77, .aload_n 0, 1), (78, .getfield 27, 3), (81, .iadd, 1), (82, .goto 4, 3), (85, .iconst (-1), 1), (86, .ireturn, 1), (87, .aload_n 0, 1), (88, .iload_n 1, 1), (89, .invokevirtual 75, 3), (92, .ifCond .le 9, 3), (95, .iload_n 1, 1), (96, .iconst 1, 1), (97, .isub, 1), (98, .goto 4, 3), (101, .iconst (-1), 1), (102, .ireturn, 1), (103, .aload_n 0, 1), (104, .iload_n 1, 1), (105, .invokevirtual 78, 3), (108, .ifCond .le 12, 3), (111, .iload_n 1, 1), (112, .aload_n 0, 1), (113, .getfield 27, 3), (116, .isub, 1), (117, .goto 4, 3), (120, .iconst (-1), 1), (121, .ireturn, 1), (122, .iconst (-1), 1), (123, .ireturn, 1)]
def m_Heath_beyond : AM := (3, ⟨"HeathForks$Heath", "beyond", "(II)I"⟩, prog_4_method_9_code, tb_Heath_beyond, 3, some .int, 1)
theorem tk_Heath_beyond : tabOk prog_4_method_9_code tb_Heath_beyond := by unfold tabOk; decide +kernel
set_option maxRecDepth 20000 in
theorem bb0_Heath_beyond : cB m_Heath_beyond 2 := ⟨(gwt1 4 rfl rfl), (gwt3 109 rfl rfl), ⟨by decide, by decide⟩, by decide +kernel, by decide⟩
theorem bb_Heath_beyond : cB m_Heath_beyond 2 := bb0_Heath_beyond
set_option maxRecDepth 20000 in
theorem vv_Heath_beyond : cV m_Heath_beyond := ⟨(gwt3 107 rfl rfl), (gwt3 108 rfl rfl)⟩
def tb_Heath_besideBits : List (Nat × Instr × Nat) := [(0, .iconst 0, 1), (1, .istore_n 2, 1), (2, .iconst 0, 1), (3, .istore_n 3, 1), (4, .iload_n 3, 1), (5, .iconst 4, 1), (6, .if_icmp .ge 35, 3), (9, .aload_n 0, 1), (10, .iload_n 1, 1), (11, .iload_n 3, 1), (12, .invokevirtual 65, 3), (15, .istore 4, 2), (17, .iload_n 2, 1), (18, .iload 4, 2), (20, .iconst (-1), 1), (21, .if_icmp .ne 7, 3), (24, .iconst 0, 1), (25, .goto 8, 3), (28, .iload 4, 2), (30, .invokestatic 68, 3), (33, .ior, 1), (34, .istore_n 2, 1), (35, .iinc 3 1, 3), (38, .goto (-34), 3), (41, .iload_n 2, 1), (42, .ireturn, 1)]
def m_Heath_besideBits : AM := (3, ⟨"HeathForks$Heath", "besideBits", "(I)I"⟩, prog_4_method_3_code, tb_Heath_besideBits, 5, some .int, 2)
theorem tk_Heath_besideBits : tabOk prog_4_method_3_code tb_Heath_besideBits := by unfold tabOk; decide +kernel
set_option maxRecDepth 20000 in
theorem bb0_Heath_besideBits : cB m_Heath_besideBits 1 := ⟨(gwt1 4 rfl rfl), (gwt3 105 rfl rfl), ⟨by decide, by decide⟩, by decide +kernel, by decide⟩
theorem bb_Heath_besideBits : cB m_Heath_besideBits 1 := bb0_Heath_besideBits
set_option maxRecDepth 20000 in
theorem vv_Heath_besideBits : cV m_Heath_besideBits := ⟨(gwt3 104 rfl rfl), (gw_p 8 rfl rfl)⟩
def tb_Heath_lay : List (Nat × Instr × Nat) := [(0, .aload_n 0, 1), (1, .iload_n 1, 1), (2, .putfield 27, 3), (5, .aload_n 0, 1), (6, .iload_n 2, 1), (7, .putfield 31, 3), (10, .aload_n 0, 1), (11, .iload_n 3, 1), (12, .putfield 34, 3), (15, .aload_n 0, 1), (16, .iload 4, 2), (18, .putfield 37, 3), (21, .aload_n 0, 1), (22, .aload_n 0, 1), (23, .getfield 27, 3), (26, .aload_n 0, 1), (27, .getfield 31, 3), (30, .imul, 1), (31, .bipush 30, 2), (33, .invokestatic 55, 3), (36, .putfield 40, 3), (39, .aload_n 0, 1), (40, .iconst 0, 1), (41, .putfield 43, 3), (44, .aload_n 0, 1), (45, .iconst 0, 1), (46, .putfield 46, 3), (49, .aload_n 0, 1), (50, .iconst 0, 1), (51, .putfield 49, 3), (54, .aload_n 0, 1), (55, .iconst 0, 1), (56, .putfield 52, 3), (59, .iconst 0, 1), (60, .istore 5, 2), (62, .iload 5, 2), (64, .bipush 30, 2), (66, .if_icmp .ge 59, 3), (69, .aload_n 0, 1), (70, .getfield 9, 3), (73, .iload 5, 2), (75, .iconst (-1), 1), (76, .iastore, 1), (77, .aload_n 0, 1), (78, .getfield 15, 3), (81, .iload 5, 2), (83, .iconst (-1), 1), (84, .iastore, 1), (85, .aload_n 0, 1), (86, .getfield 18, 3), (89, .iload 5, 2), (91, .iconst 0, 1), (92, .iastore, 1), (93, .aload_n 0, 1), (94, .getfield 21, 3), (97, .iload 5, 2), (99, .iload 5, 2), (101, .aload_n 0, 1), (102, .getfield 40, 3), (105, .if_icmp .ge 12, 3), (108, .aload_n 0, 1), (109, .iload 5, 2), (111, .invokevirtual 61, 3), (114, .goto 4, 3), (117, .iconst 0, 1), (118, .iastore, 1), (119, .iinc 5 1, 3), (122, .goto (-60), 3), (125, .return_, 1)]
def m_Heath_lay : AM := (3, ⟨"HeathForks$Heath", "lay", "(IIII)V"⟩, prog_4_method_2_code, tb_Heath_lay, 6, none, 3)
theorem tk_Heath_lay : tabOk prog_4_method_2_code tb_Heath_lay := by unfold tabOk; decide +kernel
set_option maxRecDepth 20000 in
theorem bb0_Heath_lay : cB m_Heath_lay 4 := ⟨(gwt1 4 rfl rfl), (gwt3 100 rfl rfl), ⟨by decide, by decide⟩, by decide +kernel, by decide⟩
theorem bb_Heath_lay : cB m_Heath_lay 4 := bb0_Heath_lay
set_option maxRecDepth 20000 in
theorem vv_Heath_lay : cV m_Heath_lay := ⟨(gwt3 98 rfl rfl), (gwt3 99 rfl rfl)⟩
def tb_Heath_moisten : List (Nat × Instr × Nat) := [(0, .aload_n 0, 1), (1, .iload_n 1, 1), (2, .invokevirtual 71, 3), (5, .ifCond .eq 30, 3), (8, .aload_n 0, 1), (9, .getfield 9, 3), (12, .iload_n 1, 1), (13, .iaload, 1), (14, .iconst (-1), 1), (15, .if_icmp .eq 13, 3), (18, .iload_n 2, 1), (19, .aload_n 0, 1), (20, .getfield 9, 3), (23, .iload_n 1, 1), (24, .iaload, 1), (25, .if_icmp .ge 10, 3), (28, .aload_n 0, 1), (29, .getfield 9, 3), (32, .iload_n 1, 1), (33, .iload_n 2, 1), (34, .iastore, 1), (35, .return_, 1)]
def m_Heath_moisten : AM := (3, ⟨"HeathForks$Heath", "moisten", "(II)V"⟩, prog_4_method_13_code, tb_Heath_moisten, 3, none, 1)
theorem tk_Heath_moisten : tabOk prog_4_method_13_code tb_Heath_moisten := by unfold tabOk; decide +kernel
set_option maxRecDepth 20000 in
theorem bb0_Heath_moisten : cB m_Heath_moisten 2 := ⟨(gwt1 4 rfl rfl), (gwt3 131 rfl rfl), ⟨by decide, by decide⟩, by decide +kernel, by decide⟩
theorem bb_Heath_moisten : cB m_Heath_moisten 2 := bb0_Heath_moisten
set_option maxRecDepth 20000 in
theorem vv_Heath_moisten : cV m_Heath_moisten := ⟨(gwt3 129 rfl rfl), (gwt3 130 rfl rfl)⟩
def tb_Heath_addVein : List (Nat × Instr × Nat) := [(0, .aload_n 0, 1), (1, .dup, 1), (2, .getfield 52, 3), (5, .aload_n 0, 1), (6, .getfield 49, 3), (9, .iload_n 1, 1), (10, .iand, 1), (11, .ior, 1), (12, .putfield 52, 3), (15, .aload_n 0, 1), (16, .dup, 1), (17, .getfield 49, 3), (20, .iload_n 1, 1), (21, .ior, 1), (22, .putfield 49, 3), (25, .aload_n 0, 1), (26, .dup, 1), (27, .getfield 46, 3), (30, .iconst 1, 1), (31, .iadd, 1), (32, .putfield 46, 3), (35, .return_, 1)]
def m_Heath_addVein : AM := (3, ⟨"HeathForks$Heath", "addVein", "(I)V"⟩, prog_4_method_14_code, tb_Heath_addVein, 2, none, 0)
theorem tk_Heath_addVein : tabOk prog_4_method_14_code tb_Heath_addVein := by unfold tabOk; decide +kernel
set_option maxRecDepth 20000 in
theorem bb0_Heath_addVein : cB m_Heath_addVein 1 := ⟨(gwt1 4 rfl rfl), (gwt3 136 rfl rfl), ⟨by decide, by decide⟩, by decide +kernel, by decide⟩
theorem bb_Heath_addVein : cB m_Heath_addVein 1 := bb0_Heath_addVein
set_option maxRecDepth 20000 in
theorem vv_Heath_addVein : cV m_Heath_addVein := ⟨(gwt3 134 rfl rfl), (gwt3 135 rfl rfl)⟩
def tb_HR_settleVein : List (Nat × Instr × Nat) := [(0, .aload_n 0, 1), (1, .iconst 1, 1), (2, .iload_n 1, 1), (3, .iconst 0, 1), (4, .invokevirtual 121, 3), (7, .istore_n 2, 1), (8, .aload_n 0, 1), (9, .iconst 1, 1), (10, .iload_n 1, 1), (11, .iconst 1, 1), (12, .invokevirtual 121, 3), (15, .istore_n 3, 1), (16, .aload_n 0, 1), (17, .iconst 1, 1), (18, .iload_n 1, 1), (19, .iconst 2, 1), (20, .invokevirtual 121, 3), (23, .istore 4, 2), (25, .aload_n 0, 1), (26, .getfield 27, 3), (29, .iload_n 2, 1), (30, .invokevirtual 143, 3), (33, .ifCond .ne 5, 3), (36, .iconst 0, 1), (37, .ireturn, 1), (38, .aload_n 0, 1), (39, .getfield 27, 3), (42, .iload_n 2, 1), (43, .iload_n 3, 1), (44, .invokevirtual 146, 3), (47, .iload_n 2, 1), (48, .invokestatic 95, 3), (51, .istore 5, 2), (53, .iconst 0, 1), (54, .istore 6, 2), (56, .iload 6, 2), (58, .aload_n 0, 1), (59, .getfield 21, 3), (62, .iload_n 1, 1), (63, .iaload, 1), (64, .if_icmp .ge 67, 3), (67, .iload 6, 2), (69, .bipush 8, 2), (71, .if_icmp .ge 60, 3), (74, .aload_n 0, 1), (75, .getfield 27, 3), (78, .iload_n 2, 1), (79, .aload_n 0, 1), (80, .getfield 18, 3), (83, .iload_n 1, 1), (84, .bipush 8, 2), (86, .imul, 1), (87, .iload 6, 2), (89, .iadd, 1), (90, .iaload, 1), (91, .invokevirtual 149, 3), (94, .istore_n 2, 1), (95, .iload_n 2, 1), (96, .iconst (-1), 1), (97, .if_icmp .ne 5, 3), (100, .iconst 0, 1), (101, .ireturn, 1), (102, .iload_n 3, 1), (103, .iload 4, 2), (105, .iadd, 1), (106, .istore_n 3, 1), (107, .aload_n 0, 1), (108, .getfield 27, 3), (111, .iload_n 2, 1), (112, .iload_n 3, 1), (113, .invokevirtual 146, 3), (116, .iload 5, 2), (118, .iload_n 2, 1), (119, .invokestatic 95, 3), (122, .ior, 1), (123, .istore 5, 2), (125, .iinc 6 1, 3), (128, .goto (-72), 3), (131, .aload_n 0, 1), (132, .getfield 27, 3), (135, .iload 5, 2), (137, .invokevirtual 153, 3), (140, .iconst 1, 1), (141, .ireturn, 1)]
def m_HR_settleVein : AM := (2, ⟨"HeathForks$HeathReader", "settleVein", "(I)Z"⟩, prog_5_method_13_code, tb_HR_settleVein, 7, some .boolean, 2)
theorem tk_HR_settleVein : tabOk prog_5_method_13_code tb_HR_settleVein := by unfold tabOk; decide +kernel
set_option maxRecDepth 20000 in
theorem bb0_HR_settleVein : cB m_HR_settleVein 1 := ⟨(gwt1 3 rfl rfl), (gwt3 126 rfl rfl), ⟨by decide, by decide⟩, by decide +kernel, by decide⟩
theorem bb_HR_settleVein : cB m_HR_settleVein 1 := bb0_HR_settleVein
set_option maxRecDepth 20000 in
theorem vv_HR_settleVein : cV m_HR_settleVein := ⟨(gwt3 125 rfl rfl), (gw_p 9 rfl rfl)⟩
def tb_Heath_addIron : List (Nat × Instr × Nat) := [(0, .aload_n 0, 1), (1, .iload_n 1, 1), (2, .invokevirtual 71, 3), (5, .ifCond .eq 13, 3), (8, .aload_n 0, 1), (9, .getfield 15, 3), (12, .iload_n 1, 1), (13, .iaload, 1), (14, .iconst (-1), 1), (15, .if_icmp .eq 5, 3), (18, .iconst 0, 1), (19, .ireturn, 1), (20, .aload_n 0, 1), (21, .getfield 15, 3), (24, .iload_n 1, 1), (25, .iload_n 2, 1), (26, .iastore, 1), (27, .iconst 1, 1), (28, .ireturn, 1)]
def m_Heath_addIron : AM := (3, ⟨"HeathForks$Heath", "addIron", "(II)Z"⟩, prog_4_method_18_code, tb_Heath_addIron, 3, some .boolean, 1)
theorem tk_Heath_addIron : tabOk prog_4_method_18_code tb_Heath_addIron := by unfold tabOk; decide +kernel
set_option maxRecDepth 20000 in
theorem bb0_Heath_addIron : cB m_Heath_addIron 2 := ⟨(gwt1 4 rfl rfl), (gwt3 140 rfl rfl), ⟨by decide, by decide⟩, by decide +kernel, by decide⟩
theorem bb_Heath_addIron : cB m_Heath_addIron 2 := bb0_Heath_addIron
set_option maxRecDepth 20000 in
theorem vv_Heath_addIron : cV m_Heath_addIron := ⟨(gwt3 138 rfl rfl), (gwt3 139 rfl rfl)⟩
def tb_Heath_addRock : List (Nat × Instr × Nat) := [(0, .aload_n 0, 1), (1, .iload_n 1, 1), (2, .invokevirtual 71, 3), (5, .ifCond .eq 12, 3), (8, .aload_n 0, 1), (9, .getfield 18, 3), (12, .iload_n 1, 1), (13, .iaload, 1), (14, .ifCond .eq 5, 3), (17, .iconst 0, 1), (18, .ireturn, 1), (19, .aload_n 0, 1), (20, .getfield 18, 3), (23, .iload_n 1, 1), (24, .iload_n 2, 1), (25, .iastore, 1), (26, .iconst 1, 1), (27, .ireturn, 1)]
def m_Heath_addRock : AM := (3, ⟨"HeathForks$Heath", "addRock", "(II)Z"⟩, prog_4_method_20_code, tb_Heath_addRock, 3, some .boolean, 1)
theorem tk_Heath_addRock : tabOk prog_4_method_20_code tb_Heath_addRock := by unfold tabOk; decide +kernel
set_option maxRecDepth 20000 in
theorem bb0_Heath_addRock : cB m_Heath_addRock 2 := ⟨(gwt1 4 rfl rfl), (gwt3 144 rfl rfl), ⟨by decide, by decide⟩, by decide +kernel, by decide⟩
theorem bb_Heath_addRock : cB m_Heath_addRock 2 := bb0_Heath_addRock
set_option maxRecDepth 20000 in
theorem vv_Heath_addRock : cV m_Heath_addRock := ⟨(gwt3 142 rfl rfl), (gwt3 143 rfl rfl)⟩
def tb_Heath_isFork : List (Nat × Instr × Nat) := [(0, .iload_n 1, 1), (1, .ifCond .lt 21, 3), (4, .iload_n 1, 1), (5, .aload_n 0, 1), (6, .getfield 43, 3), (9, .if_icmp .ge 13, 3), (12, .iload_n 1, 1), (13, .bipush 6, 2), (15, .if_icmp .ge 7, 3), (18, .iconst 1, 1), (19, .goto 4, 3), (22, .iconst 0, 1), (23, .ireturn, 1)]
def m_Heath_isFork : AM := (3, ⟨"HeathForks$Heath", "isFork", "(I)Z"⟩, prog_4_method_5_code, tb_Heath_isFork, 2, some .boolean, 0)
theorem tk_Heath_isFork : tabOk prog_4_method_5_code tb_Heath_isFork := by unfold tabOk; decide +kernel
set_option maxRecDepth 20000 in
theorem bb0_Heath_isFork : cB m_Heath_isFork 1 := ⟨(gwt1 4 rfl rfl), (gwt3 156 rfl rfl), ⟨by decide, by decide⟩, by decide +kernel, by decide⟩
theorem bb_Heath_isFork : cB m_Heath_isFork 1 := bb0_Heath_isFork
set_option maxRecDepth 20000 in
theorem vv_Heath_isFork : cV m_Heath_isFork := ⟨(gwt3 154 rfl rfl), (gwt3 155 rfl rfl)⟩
def tb_Heath_setTrait : List (Nat × Instr × Nat) := [(0, .aload_n 0, 1), (1, .iload_n 1, 1), (2, .invokevirtual 94, 3), (5, .ifCond .eq 25, 3), (8, .iload_n 2, 1), (9, .ifCond .lt 21, 3), (12, .iload_n 2, 1), (13, .bipush 6, 2), (15, .if_icmp .ge 15, 3), (18, .aload_n 0, 1), (19, .getfield 24, 3), (22, .iload_n 1, 1), (23, .bipush 6, 2), (25, .imul, 1), (26, .iload_n 2, 1), (27, .iadd, 1), (28, .iload_n 3, 1), (29, .iastore, 1), (30, .return_, 1)]
def m_Heath_setTrait : AM := (3, ⟨"HeathForks$Heath", "setTrait", "(III)V"⟩, prog_4_method_22_code, tb_Heath_setTrait, 4, none, 1)
theorem tk_Heath_setTrait : tabOk prog_4_method_22_code tb_Heath_setTrait := by unfold tabOk; decide +kernel
set_option maxRecDepth 20000 in
theorem bb0_Heath_setTrait : cB m_Heath_setTrait 3 := ⟨(gwt1 4 rfl rfl), (gwt3 152 rfl rfl), ⟨by decide, by decide⟩, by decide +kernel, by decide⟩
theorem bb_Heath_setTrait : cB m_Heath_setTrait 3 := bb0_Heath_setTrait
set_option maxRecDepth 20000 in
theorem vv_Heath_setTrait : cV m_Heath_setTrait := ⟨(gwt3 150 rfl rfl), (gwt3 151 rfl rfl)⟩
def tb_HR_settleFork : List (Nat × Instr × Nat) := [(0, .iconst 0, 1), (1, .istore_n 2, 1), (2, .iload_n 2, 1), (3, .bipush 6, 2), (5, .if_icmp .ge 25, 3), (8, .aload_n 0, 1), (9, .getfield 27, 3), (12, .iload_n 1, 1), (13, .iload_n 2, 1), (14, .aload_n 0, 1), (15, .iconst 4, 1), (16, .iload_n 1, 1), (17, .iload_n 2, 1), (18, .invokevirtual 121, 3), (21, .invokevirtual 157, 3), (24, .iinc 2 1, 3), (27, .goto (-25), 3), (30, .aload_n 0, 1), (31, .getfield 27, 3), (34, .aload_n 0, 1), (35, .iconst 4, 1), (36, .iload_n 1, 1), (37, .iconst 3, 1), (38, .invokevirtual 121, 3), (41, .invokevirtual 143, 3), (44, .ifCond .ne 13, 3), (47, .aload_n 0, 1), (48, .getfield 27, 3), (51, .iload_n 1, 1), (52, .iconst 3, 1), (53, .iconst (-1), 1), (54, .invokevirtual 157, 3), (57, .aload_n 0, 1), (58, .getfield 27, 3), (61, .aload_n 0, 1), (62, .iconst 4, 1), (63, .iload_n 1, 1), (64, .iconst 0, 1), (65, .invokevirtual 121, 3), (68, .invokevirtual 143, 3), (71, .ireturn, 1)]
def m_HR_settleFork : AM := (2, ⟨"HeathForks$HeathReader", "settleFork", "(I)Z"⟩, prog_5_method_14_code, tb_HR_settleFork, 3, some .boolean, 2)
theorem tk_HR_settleFork : tabOk prog_5_method_14_code tb_HR_settleFork := by unfold tabOk; decide +kernel
set_option maxRecDepth 20000 in
theorem bb0_HR_settleFork : cB m_HR_settleFork 1 := ⟨(gwt1 3 rfl rfl), (gwt3 148 rfl rfl), ⟨by decide, by decide⟩, by decide +kernel, by decide⟩
theorem bb_HR_settleFork : cB m_HR_settleFork 1 := bb0_HR_settleFork
set_option maxRecDepth 20000 in
theorem vv_HR_settleFork : cV m_HR_settleFork := ⟨(gwt3 147 rfl rfl), (gw_p 10 rfl rfl)⟩
def tb_HR_settle : List (Nat × Instr × Nat) := [(0, .aload_n 0, 1), (1, .getfield 27, 3), (4, .aload_n 0, 1), (5, .iconst 0, 1), (6, .iconst 0, 1), (7, .iconst 0, 1), (8, .invokevirtual 121, 3), (11, .aload_n 0, 1), (12, .iconst 0, 1), (13, .iconst 0, 1), (14, .iconst 1, 1), (15, .invokevirtual 121, 3), (18, .aload_n 0, 1), (19, .iconst 0, 1), (20, .iconst 0, 1), (21, .iconst 2, 1), (22, .invokevirtual 121, 3), (25, .aload_n 0, 1), (26, .iconst 0, 1), (27, .iconst 0, 1), (28, .iconst 3, 1), (29, .invokevirtual 121, 3), (32, .invokevirtual 125, 3), (35, .iconst 0, 1), (36, .istore_n 1, 1), (37, .iload_n 1, 1), (38, .aload_n 0, 1), (39, .getfield 9, 3), (42, .iconst 1, 1), (43, .iaload, 1), (44, .if_icmp .ge 24, 3), (47, .iload_n 1, 1), (48, .iconst 4, 1), (49, .if_icmp .ge 19, 3), (52, .aload_n 0, 1), (53, .iload_n 1, 1), (54, .invokevirtual 128, 3), (57, .ifCond .ne 5, 3), (60, .iconst 0, 1), (61, .ireturn, 1), (62, .iinc 1 1, 3), (65, .goto (-28), 3), (68, .iconst 0, 1), (69, .istore_n 1, 1), (70, .iload_n 1, 1), (71, .aload_n 0, 1), (72, .getfield 9, 3), (75, .iconst 2, 1), (76, .iaload, 1), (77, .if_icmp .ge 35, 3), (80, .aload_n 0, 1), (81, .getfield 27, 3), (84, .aload_n 0, 1), (85, .iconst 2, 1), (86, .iload_n 1, 1), (87, .iconst 0, 1), (88, .invokevirtual 121, 3), (91, .aload_n 0, 1), (92, .iconst 2, 1), (93, .iload_n 1, 1), (94, .iconst 1, 1), (95, .invokevirtual 121, 3), (98, .invokevirtual 131, 3), (101, .ifCond .ne 5, 3), (104, .iconst 0, 1), (105, .ireturn, 1), (106, .iinc 1 1, 3), (109, .goto (-39), 3), (112, .iconst 0, 1), (113, .istore_n 1, 1), (114, .iload_n 1, 1), (115, .aload_n 0, 1), (116, .getfield 9, 3), (119, .iconst 3, 1), (120, .iaload, 1), (121, .if_icmp .ge 35, 3), (124, .aload_n 0, 1), (125, .getfield 27, 3), (128, .aload_n 0, 1), (129, .iconst 3, 1), (130, .iload_n 1, 1), (131, .iconst 0, 1), (132, .invokevirtual 121, 3), (135, .aload_n 0, 1), (136, .iconst 3, 1), (137, .iload_n 1, 1), (138, .iconst 1, 1), (139, .invokevirtual 121, 3), (142, .invokevirtual 134, 3), (145, .ifCond .ne 5, 3), (148, .iconst 0, 1), (149, .ireturn, 1), (150, .iinc 1 1, 3), (153, .goto (-39), 3), (156, .aload_n 0, 1), (157, .getfield 27, 3), (160, .aload_n 0, 1), (161, .getfield 9, 3), (164, .iconst 4, 1), (165, .iaload, 1), (166, .putfield 137, 3), (169, .iconst 0, 1), (170, .istore_n 1, 1), (171, .iload_n 1, 1), (172, .aload_n 0, 1), (173, .getfield 9, 3), (176, .iconst 4, 1), (177, .iaload, 1), (178, .if_icmp .ge 19, 3), (181, .aload_n 0, 1), (182, .iload_n 1, 1), (183, .invokevirtual 140, 3), (186, .ifCond .ne 5, 3), (189, .iconst 0, 1), (190, .ireturn, 1), (191, .iinc 1 1, 3), (194, .goto (-23), 3), (197, .iconst 1, 1), (198, .ireturn, 1)]
def m_HR_settle : AM := (2, ⟨"HeathForks$HeathReader", "settle", "()Z"⟩, prog_5_method_12_code, tb_HR_settle, 2, some .boolean, 4)
theorem tk_HR_settle : tabOk prog_5_method_12_code tb_HR_settle := by unfold tabOk; decide +kernel
set_option maxRecDepth 20000 in
theorem bb0_HR_settle : cB m_HR_settle 0 := ⟨(gwt1 3 rfl rfl), (gwt3 92 rfl rfl), ⟨by decide, by decide⟩, by decide +kernel, by decide⟩
theorem bb_HR_settle : cB m_HR_settle 0 := bb0_HR_settle
set_option maxRecDepth 20000 in
theorem vv_HR_settle : cV m_HR_settle := ⟨(gwt3 91 rfl rfl), (gw_p 6 rfl rfl)⟩
def tb_HR_faultOf : List (Nat × Instr × Nat) := [(0, .aload_n 1, 1), (1, .iconst 0, 1), (2, .putfield 31, 3), (5, .iconst 0, 1), (6, .istore_n 2, 1), (7, .iload_n 2, 1), (8, .iconst 5, 1), (9, .if_icmp .ge 16, 3), (12, .aload_n 0, 1), (13, .getfield 9, 3), (16, .iload_n 2, 1), (17, .iconst 0, 1), (18, .iastore, 1), (19, .iinc 2 1, 3), (22, .goto (-15), 3), (25, .aload_n 0, 1), (26, .iconst 0, 1), (27, .iconst 0, 1), (28, .invokevirtual 37, 3), (31, .iconst 0, 1), (32, .istore_n 2, 1), (33, .iload_n 2, 1), (34, .sipush 240, 3), (37, .if_icmp .gt 47, 3), (40, .aload_n 0, 1), (41, .aload_n 1, 1), (42, .invokevirtual 41, 3), (45, .ifCond .ne 8, 3), (48, .aload_n 1, 1), (49, .getfield 31, 3), (52, .ireturn, 1), (53, .aload_n 1, 1), (54, .invokevirtual 45, 3), (57, .iconst (-1), 1), (58, .if_icmp .ne 6, 3), (61, .goto 23, 3), (64, .aload_n 1, 1), (65, .bipush 59, 2), (67, .invokevirtual 49, 3), (70, .ifCond .ne 8, 3), (73, .aload_n 1, 1), (74, .getfield 31, 3), (77, .ireturn, 1), (78, .iinc 2 1, 3), (81, .goto (-48), 3), (84, .aload_n 0, 1), (85, .getfield 9, 3), (88, .iconst 4, 1), (89, .iaload, 1), (90, .ifCond .le 14, 3), (93, .aload_n 0, 1), (94, .invokevirtual 53, 3), (97, .ifCond .eq 7, 3), (100, .iconst (-1), 1), (101, .goto 7, 3), (104, .aload_n 1, 1), (105, .getfield 57, 3), (108, .ireturn, 1)]
def m_HR_faultOf : AM := (2, ⟨"HeathForks$HeathReader", "faultOf", "(LHeathForks$Tape;)I"⟩, prog_5_method_3_code, tb_HR_faultOf, 3, some .int, 8)
theorem tk_HR_faultOf : tabOk prog_5_method_3_code tb_HR_faultOf := by unfold tabOk; decide +kernel
set_option maxRecDepth 20000 in
theorem bb0_HR_faultOf : cB m_HR_faultOf 1 := ⟨(gwt1 3 rfl rfl), (gwt2 178 rfl rfl), ⟨by decide, by decide⟩, by decide +kernel, by decide⟩
theorem bb_HR_faultOf : cB m_HR_faultOf 1 := bb0_HR_faultOf
set_option maxRecDepth 20000 in
theorem vv_HR_faultOf : cV m_HR_faultOf := ⟨(gwt2 176 rfl rfl), (gwt2 177 rfl rfl)⟩
def tb_Law_emit : List (Nat × Instr × Nat) := [(0, .aload_n 0, 1), (1, .getfield 18, 3), (4, .ifCond .lt 35, 3), (7, .aload_n 0, 1), (8, .getfield 18, 3), (11, .aload_n 0, 1), (12, .getfield 9, 3), (15, .arraylength, 1), (16, .if_icmp .ge 23, 3), (19, .aload_n 0, 1), (20, .getfield 9, 3), (23, .aload_n 0, 1), (24, .getfield 18, 3), (27, .iload_n 1, 1), (28, .iastore, 1), (29, .aload_n 0, 1), (30, .dup, 1), (31, .getfield 18, 3), (34, .iconst 1, 1), (35, .iadd, 1), (36, .putfield 18, 3), (39, .return_, 1)]
def m_Law_emit : AM := (5, ⟨"HeathForks$Law", "emit", "(I)V"⟩, prog_6_method_2_code, tb_Law_emit, 2, none, 0)
theorem tk_Law_emit : tabOk prog_6_method_2_code tb_Law_emit := by unfold tabOk; decide +kernel
set_option maxRecDepth 20000 in
theorem bb0_Law_emit : cB m_Law_emit 1 := ⟨(gwt1 6 rfl rfl), (gwt3 180 rfl rfl), ⟨by decide, by decide⟩, by decide +kernel, by decide⟩
theorem bb_Law_emit : cB m_Law_emit 1 := bb0_Law_emit
set_option maxRecDepth 20000 in
theorem vv_Law_emit : cV m_Law_emit := ⟨(gwt3 178 rfl rfl), (gwt3 179 rfl rfl)⟩
def tb_LR_readAtom : List (Nat × Instr × Nat) := [(0, .aload_n 1, 1), (1, .invokevirtual 35, 3), (4, .istore_n 3, 1), (5, .iload_n 3, 1), (6, .bipush 91, 2), (8, .if_icmp .ne 55, 3), (11, .iload_n 2, 1), (12, .bipush 6, 2), (14, .if_icmp .lt 5, 3), (17, .iconst 0, 1), (18, .ireturn, 1), (19, .aload_n 1, 1), (20, .dup, 1), (21, .getfield 18, 3), (24, .iconst 1, 1), (25, .iadd, 1), (26, .putfield 18, 3), (29, .aload_n 0, 1), (30, .aload_n 1, 1), (31, .iload_n 2, 1), (32, .iconst 1, 1), (33, .iadd, 1), (34, .invokevirtual 43, 3), (37, .ifCond .eq 12, 3), (40, .aload_n 1, 1), (41, .invokevirtual 35, 3), (44, .bipush 93, 2), (46, .if_icmp .eq 5, 3), (49, .iconst 0, 1), (50, .ireturn, 1), (51, .aload_n 1, 1), (52, .dup, 1), (53, .getfield 18, 3), (56, .iconst 1, 1), (57, .iadd, 1), (58, .putfield 18, 3), (61, .iconst 1, 1), (62, .ireturn, 1), (63, .ldc 68, 2), (65, .iload_n 3, 1), (66, .invokestatic 70, 3), (69, .istore 4, 2), (71, .iload 4, 2), (73, .ifCond .lt 26, 3), (76, .aload_n 1, 1), (77, .dup, 1), (78, .getfield 18, 3), (81, .iconst 1, 1), (82, .iadd, 1), (83, .putfield 18, 3), (86, .aload_n 0, 1), (87, .getfield 12, 3), (90, .iconst (-1), 1), (91, .iload 4, 2), (93, .isub, 1), (94, .invokevirtual 31, 3), (97, .iconst 1, 1), (98, .ireturn, 1), (99, .aload_n 1, 1), (100, .iconst 4, 1), (101, .invokevirtual 74, 3), (104, .istore 5, 2), (106, .iload 5, 2), (108, .iconst (-1), 1), (109, .if_icmp .ne 5, 3), (112, .iconst 0, 1), (113, .ireturn, 1), (114, .aload_n 0, 1), (115, .getfield 12, 3), (118, .iload 5, 2), (120, .invokevirtual 31, 3), (123, .iconst 1, 1), (124, .ireturn, 1)]
def m_LR_readAtom (d : Nat) : AM := (4, ⟨"HeathForks$LawReader", "readAtom", "(LHeathForks$Tape;I)Z"⟩, prog_7_method_11_code, tb_LR_readAtom, 6, some .boolean, 6 + d)
theorem tk_LR_readAtom : tabOk prog_7_method_11_code tb_LR_readAtom := by unfold tabOk; decide +kernel
set_option maxRecDepth 20000 in
theorem bb0_LR_readAtom : cB (m_LR_readAtom 0) 2 := ⟨(gwt1 5 rfl rfl), (gwt3 174 rfl rfl), ⟨by decide, by decide⟩, by decide +kernel, by decide⟩
theorem bb_LR_readAtom (d : Nat) : cB (m_LR_readAtom d) 2 := bb0_LR_readAtom
set_option maxRecDepth 20000 in
theorem vv_LR_readAtom (d : Nat) : cV (m_LR_readAtom d) := ⟨(gwt3 173 rfl rfl), (gw_p 13 rfl rfl)⟩
def tb_LR_reckoning : List (Nat × Instr × Nat) := [(0, .iload_n 0, 1), (1, .tableswitch 51 42 47 #[45, 39, 51, 42, 51, 48], 39), (40, .bipush (-7), 2), (42, .ireturn, 1), (43, .bipush (-8), 2), (45, .ireturn, 1), (46, .bipush (-9), 2), (48, .ireturn, 1), (49, .bipush (-10), 2), (51, .ireturn, 1), (52, .iconst (-1), 1), (53, .ireturn, 1)]
def m_LR_reckoning : AM := (4, ⟨"HeathForks$LawReader", "reckoning", "(I)I"⟩, prog_7_method_10_code, tb_LR_reckoning, 1, some .int, 0)
theorem tk_LR_reckoning : tabOk prog_7_method_10_code tb_LR_reckoning := by unfold tabOk; decide +kernel
set_option maxRecDepth 20000 in
theorem bb0_LR_reckoning : cB m_LR_reckoning 1 := ⟨(gwt1 5 rfl rfl), (gwt3 184 rfl rfl), ⟨by decide, by decide⟩, by decide +kernel, by decide⟩
theorem bb_LR_reckoning : cB m_LR_reckoning 1 := bb0_LR_reckoning
set_option maxRecDepth 20000 in
theorem vv_LR_reckoning : Cond.static (my m_LR_reckoning) ∈ gw := (gwt3 183 rfl rfl)
def tb_LR_readSum : List (Nat × Instr × Nat) := [(0, .aload_n 0, 1), (1, .aload_n 1, 1), (2, .iload_n 2, 1), (3, .invokevirtual 62, 3), (6, .ifCond .ne 5, 3), (9, .iconst 0, 1), (10, .ireturn, 1), (11, .iconst (-1), 1), (12, .istore_n 3, 1), (13, .iconst 0, 1), (14, .istore 4, 2), (16, .iload 4, 2), (18, .sipush 240, 3), (21, .if_icmp .gt 106, 3), (24, .aload_n 1, 1), (25, .invokevirtual 35, 3), (28, .invokestatic 65, 3), (31, .istore 5, 2), (33, .iload 5, 2), (35, .bipush (-9), 2), (37, .if_icmp .eq 10, 3), (40, .iload 5, 2), (42, .bipush (-10), 2), (44, .if_icmp .ne 7, 3), (47, .iconst 1, 1), (48, .goto 4, 3), (51, .iconst 0, 1), (52, .istore 6, 2), (54, .iload_n 3, 1), (55, .iconst (-1), 1), (56, .if_icmp .eq 16, 3), (59, .iload 6, 2), (61, .ifCond .ne 11, 3), (64, .aload_n 0, 1), (65, .getfield 12, 3), (68, .iload_n 3, 1), (69, .invokevirtual 31, 3), (72, .iload 5, 2), (74, .iconst (-1), 1), (75, .if_icmp .ne 5, 3), (78, .iconst 1, 1), (79, .ireturn, 1), (80, .aload_n 1, 1), (81, .dup, 1), (82, .getfield 18, 3), (85, .iconst 1, 1), (86, .iadd, 1), (87, .putfield 18, 3), (90, .aload_n 0, 1), (91, .aload_n 1, 1), (92, .iload_n 2, 1), (93, .invokevirtual 62, 3), (96, .ifCond .ne 5, 3), (99, .iconst 0, 1), (100, .ireturn, 1), (101, .iload 6, 2), (103, .ifCond .eq 15, 3), (106, .aload_n 0, 1), (107, .getfield 12, 3), (110, .iload 5, 2), (112, .invokevirtual 31, 3), (115, .goto 6, 3), (118, .iload 5, 2), (120, .istore_n 3, 1), (121, .iinc 4 1, 3), (124, .goto (-108), 3), (127, .iconst 0, 1), (128, .ireturn, 1)]
def m_LR_readSum (d : Nat) : AM := (4, ⟨"HeathForks$LawReader", "readSum", "(LHeathForks$Tape;I)Z"⟩, prog_7_method_9_code, tb_LR_readSum, 7, some .boolean, 6 + d)
theorem tk_LR_readSum : tabOk prog_7_method_9_code tb_LR_readSum := by unfold tabOk; decide +kernel
set_option maxRecDepth 20000 in
theorem bb0_LR_readSum : cB (m_LR_readSum 0) 2 := ⟨(gwt1 5 rfl rfl), (gwt3 170 rfl rfl), ⟨by decide, by decide⟩, by decide +kernel, by decide⟩
theorem bb_LR_readSum (d : Nat) : cB (m_LR_readSum d) 2 := bb0_LR_readSum
set_option maxRecDepth 20000 in
theorem vv_LR_readSum (d : Nat) : cV (m_LR_readSum d) := ⟨(gwt3 169 rfl rfl), (gw_p 12 rfl rfl)⟩
def tb_LR_comparing : List (Nat × Instr × Nat) := [(0, .iload_n 0, 1), (1, .tableswitch 36 60 62 #[30, 27, 33], 27), (28, .bipush (-11), 2), (30, .ireturn, 1), (31, .bipush (-12), 2), (33, .ireturn, 1), (34, .bipush (-13), 2), (36, .ireturn, 1), (37, .iconst (-1), 1), (38, .ireturn, 1)]
def m_LR_comparing : AM := (4, ⟨"HeathForks$LawReader", "comparing", "(I)I"⟩, prog_7_method_8_code, tb_LR_comparing, 1, some .int, 0)
theorem tk_LR_comparing : tabOk prog_7_method_8_code tb_LR_comparing := by unfold tabOk; decide +kernel
set_option maxRecDepth 20000 in
theorem bb0_LR_comparing : cB m_LR_comparing 1 := ⟨(gwt1 5 rfl rfl), (gwt3 187 rfl rfl), ⟨by decide, by decide⟩, by decide +kernel, by decide⟩
theorem bb_LR_comparing : cB m_LR_comparing 1 := bb0_LR_comparing
set_option maxRecDepth 20000 in
theorem vv_LR_comparing : Cond.static (my m_LR_comparing) ∈ gw := (gwt3 186 rfl rfl)
def tb_LR_readNested : List (Nat × Instr × Nat) := [(0, .iload_n 2, 1), (1, .bipush 6, 2), (3, .if_icmp .lt 5, 3), (6, .iconst 0, 1), (7, .ireturn, 1), (8, .aload_n 1, 1), (9, .dup, 1), (10, .getfield 18, 3), (13, .iconst 1, 1), (14, .iadd, 1), (15, .putfield 18, 3), (18, .iload_n 3, 1), (19, .bipush 40, 2), (21, .if_icmp .ne 30, 3), (24, .aload_n 0, 1), (25, .aload_n 1, 1), (26, .iload_n 2, 1), (27, .iconst 1, 1), (28, .iadd, 1), (29, .iconst 0, 1), (30, .invokevirtual 51, 3), (33, .ifCond .eq 16, 3), (36, .aload_n 1, 1), (37, .bipush 41, 2), (39, .invokevirtual 39, 3), (42, .ifCond .eq 7, 3), (45, .iconst 1, 1), (46, .goto 4, 3), (49, .iconst 0, 1), (50, .ireturn, 1), (51, .aload_n 0, 1), (52, .aload_n 1, 1), (53, .iload_n 2, 1), (54, .iconst 1, 1), (55, .iadd, 1), (56, .iconst 0, 1), (57, .invokevirtual 55, 3), (60, .ifCond .ne 5, 3), (63, .iconst 0, 1), (64, .ireturn, 1), (65, .aload_n 0, 1), (66, .getfield 12, 3), (69, .bipush (-16), 2), (71, .invokevirtual 31, 3), (74, .iconst 1, 1), (75, .ireturn, 1)]
def m_LR_readNested (d : Nat) : AM := (4, ⟨"HeathForks$LawReader", "readNested", "(LHeathForks$Tape;II)Z"⟩, prog_7_method_7_code, tb_LR_readNested, 4, some .boolean, 47 + d)
theorem tk_LR_readNested : tabOk prog_7_method_7_code tb_LR_readNested := by unfold tabOk; decide +kernel
set_option maxRecDepth 20000 in
theorem bb0_LR_readNested : cB (m_LR_readNested 0) 3 := ⟨(gwt1 5 rfl rfl), (gwt3 199 rfl rfl), ⟨by decide, by decide⟩, by decide +kernel, by decide⟩
theorem bb_LR_readNested (d : Nat) : cB (m_LR_readNested d) 3 := bb0_LR_readNested
set_option maxRecDepth 20000 in
theorem vv_LR_readNested (d : Nat) : cV (m_LR_readNested d) := ⟨(gwt3 198 rfl rfl), (gw_p 16 rfl rfl)⟩
def tb_LR_readUnit : List (Nat × Instr × Nat) := [(0, .aload_n 1, 1), (1, .invokevirtual 35, 3), (4, .istore 4, 2), (6, .iload_n 3, 1), (7, .ifCond .ne 26, 3), (10, .iload 4, 2), (12, .bipush 33, 2), (14, .if_icmp .eq 10, 3), (17, .iload 4, 2), (19, .bipush 40, 2), (21, .if_icmp .ne 12, 3), (24, .aload_n 0, 1), (25, .aload_n 1, 1), (26, .iload_n 2, 1), (27, .iload 4, 2), (29, .invokevirtual 58, 3), (32, .ireturn, 1), (33, .iload_n 3, 1), (34, .ifCond .ne 14, 3), (37, .aload_n 0, 1), (38, .aload_n 1, 1), (39, .iload_n 2, 1), (40, .invokevirtual 43, 3), (43, .ifCond .ne 5, 3), (46, .iconst 0, 1), (47, .ireturn, 1), (48, .aload_n 1, 1), (49, .invokevirtual 35, 3), (52, .invokestatic 47, 3), (55, .istore 5, 2), (57, .iload 5, 2), (59, .iconst (-1), 1), (60, .if_icmp .ne 5, 3), (63, .iconst 0, 1), (64, .ireturn, 1), (65, .aload_n 1, 1), (66, .dup, 1), (67, .getfield 18, 3), (70, .iconst 1, 1), (71, .iadd, 1), (72, .putfield 18, 3), (75, .aload_n 0, 1), (76, .aload_n 1, 1), (77, .iload_n 2, 1), (78, .invokevirtual 43, 3), (81, .ifCond .ne 5, 3), (84, .iconst 0, 1), (85, .ireturn, 1), (86, .aload_n 0, 1), (87, .getfield 12, 3), (90, .iload 5, 2), (92, .invokevirtual 31, 3), (95, .iconst 1, 1), (96, .ireturn, 1)]
def m_LR_readUnit (d : Nat) : AM := (4, ⟨"HeathForks$LawReader", "readUnit", "(LHeathForks$Tape;IZ)Z"⟩, prog_7_method_6_code, tb_LR_readUnit, 6, some .boolean, 47 + d)
theorem tk_LR_readUnit : tabOk prog_7_method_6_code tb_LR_readUnit := by unfold tabOk; decide +kernel
set_option maxRecDepth 20000 in
theorem bb0_LR_readUnit : cB (m_LR_readUnit 0) 3 := ⟨(gwt1 5 rfl rfl), (gwt3 195 rfl rfl), ⟨by decide, by decide⟩, by decide +kernel, by decide⟩
theorem bb_LR_readUnit (d : Nat) : cB (m_LR_readUnit d) 3 := bb0_LR_readUnit
set_option maxRecDepth 20000 in
theorem vv_LR_readUnit (d : Nat) : cV (m_LR_readUnit d) := ⟨(gwt3 194 rfl rfl), (gw_p 15 rfl rfl)⟩
def tb_LR_readCondition : List (Nat × Instr × Nat) := [(0, .aload_n 0, 1), (1, .aload_n 1, 1), (2, .iload_n 2, 1), (3, .iload_n 3, 1), (4, .invokevirtual 55, 3), (7, .ifCond .ne 5, 3), (10, .iconst 0, 1), (11, .ireturn, 1), (12, .iconst 0, 1), (13, .istore 4, 2), (15, .iconst 0, 1), (16, .istore 5, 2), (18, .iload 5, 2), (20, .sipush 240, 3), (23, .if_icmp .gt 96, 3), (26, .aload_n 1, 1), (27, .invokevirtual 35, 3), (30, .istore 6, 2), (32, .iload 4, 2), (34, .ifCond .eq 19, 3), (37, .iload 6, 2), (39, .bipush 38, 2), (41, .if_icmp .eq 12, 3), (44, .aload_n 0, 1), (45, .getfield 12, 3), (48, .bipush (-15), 2), (50, .invokevirtual 31, 3), (53, .iload 6, 2), (55, .bipush 38, 2), (57, .if_icmp .eq 12, 3), (60, .iload 6, 2), (62, .bipush 124, 2), (64, .if_icmp .eq 5, 3), (67, .iconst 1, 1), (68, .ireturn, 1), (69, .aload_n 1, 1), (70, .dup, 1), (71, .getfield 18, 3), (74, .iconst 1, 1), (75, .iadd, 1), (76, .putfield 18, 3), (79, .aload_n 0, 1), (80, .aload_n 1, 1), (81, .iload_n 2, 1), (82, .iconst 0, 1), (83, .invokevirtual 55, 3), (86, .ifCond .ne 5, 3), (89, .iconst 0, 1), (90, .ireturn, 1), (91, .iload 6, 2), (93, .bipush 38, 2), (95, .if_icmp .ne 15, 3), (98, .aload_n 0, 1), (99, .getfield 12, 3), (102, .bipush (-14), 2), (104, .invokevirtual 31, 3), (107, .goto 6, 3), (110, .iconst 1, 1), (111, .istore 4, 2), (113, .iinc 5 1, 3), (116, .goto (-98), 3), (119, .iconst 0, 1), (120, .ireturn, 1)]
def m_LR_readCondition (d : Nat) : AM := (4, ⟨"HeathForks$LawReader", "readCondition", "(LHeathForks$Tape;IZ)Z"⟩, prog_7_method_5_code, tb_LR_readCondition, 7, some .boolean, 47 + d)
theorem tk_LR_readCondition : tabOk prog_7_method_5_code tb_LR_readCondition := by unfold tabOk; decide +kernel
set_option maxRecDepth 20000 in
theorem bb0_LR_readCondition : cB (m_LR_readCondition 0) 3 := ⟨(gwt1 5 rfl rfl), (gwt3 191 rfl rfl), ⟨by decide, by decide⟩, by decide +kernel, by decide⟩
theorem bb_LR_readCondition (d : Nat) : cB (m_LR_readCondition d) 3 := bb0_LR_readCondition
set_option maxRecDepth 20000 in
theorem vv_LR_readCondition (d : Nat) : cV (m_LR_readCondition d) := ⟨(gwt3 190 rfl rfl), (gw_p 14 rfl rfl)⟩
def tb_LR_readClause : List (Nat × Instr × Nat) := [(0, .aload_n 1, 1), (1, .bipush 121, 2), (3, .invokevirtual 39, 3), (6, .ifCond .eq 12, 3), (9, .aload_n 1, 1), (10, .bipush 58, 2), (12, .invokevirtual 39, 3), (15, .ifCond .ne 5, 3), (18, .iconst 0, 1), (19, .ireturn, 1), (20, .aload_n 1, 1), (21, .invokevirtual 35, 3), (24, .istore_n 2, 1), (25, .iload_n 2, 1), (26, .bipush 33, 2), (28, .if_icmp .eq 13, 3), (31, .iload_n 2, 1), (32, .bipush 40, 2), (34, .if_icmp .eq 7, 3), (37, .iconst 1, 1), (38, .goto 4, 3), (41, .iconst 0, 1), (42, .istore_n 3, 1), (43, .iload_n 3, 1), (44, .ifCond .eq 27, 3), (47, .aload_n 0, 1), (48, .aload_n 1, 1), (49, .iconst 0, 1), (50, .invokevirtual 43, 3), (53, .ifCond .ne 5, 3), (56, .iconst 0, 1), (57, .ireturn, 1), (58, .aload_n 1, 1), (59, .invokevirtual 35, 3), (62, .invokestatic 47, 3), (65, .iconst (-1), 1), (66, .if_icmp .ne 5, 3), (69, .iconst 1, 1), (70, .ireturn, 1), (71, .aload_n 0, 1), (72, .aload_n 1, 1), (73, .iconst 0, 1), (74, .iload_n 3, 1), (75, .invokevirtual 51, 3), (78, .ifCond .eq 12, 3), (81, .aload_n 1, 1), (82, .bipush 63, 2), (84, .invokevirtual 39, 3), (87, .ifCond .ne 5, 3), (90, .iconst 0, 1), (91, .ireturn, 1), (92, .aload_n 0, 1), (93, .getfield 12, 3), (96, .bipush (-17), 2), (98, .invokevirtual 31, 3), (101, .aload_n 0, 1), (102, .aload_n 1, 1), (103, .iconst 0, 1), (104, .invokevirtual 43, 3), (107, .ireturn, 1)]
def m_LR_readClause : AM := (4, ⟨"HeathForks$LawReader", "readClause", "(LHeathForks$Tape;)Z"⟩, prog_7_method_4_code, tb_LR_readClause, 4, some .boolean, 88)
theorem tk_LR_readClause : tabOk prog_7_method_4_code tb_LR_readClause := by unfold tabOk; decide +kernel
set_option maxRecDepth 20000 in
theorem bb0_LR_readClause : cB m_LR_readClause 1 := ⟨(gwt1 5 rfl rfl), (gwt3 164 rfl rfl), ⟨by decide, by decide⟩, by decide +kernel, by decide⟩
theorem bb_LR_readClause : cB m_LR_readClause 1 := bb0_LR_readClause
set_option maxRecDepth 20000 in
theorem vv_LR_readClause : cV m_LR_readClause := ⟨(gwt3 163 rfl rfl), (gw_p 11 rfl rfl)⟩
def tb_LR_faultOf : List (Nat × Instr × Nat) := [(0, .aload_n 1, 1), (1, .iconst 0, 1), (2, .putfield 18, 3), (5, .aload_n 0, 1), (6, .getfield 12, 3), (9, .iconst 0, 1), (10, .putfield 24, 3), (13, .iconst 0, 1), (14, .istore_n 2, 1), (15, .iload_n 2, 1), (16, .sipush 240, 3), (19, .if_icmp .gt 55, 3), (22, .aload_n 0, 1), (23, .aload_n 1, 1), (24, .invokevirtual 27, 3), (27, .ifCond .ne 8, 3), (30, .aload_n 1, 1), (31, .getfield 18, 3), (34, .ireturn, 1), (35, .aload_n 0, 1), (36, .getfield 12, 3), (39, .bipush (-18), 2), (41, .invokevirtual 31, 3), (44, .aload_n 1, 1), (45, .invokevirtual 35, 3), (48, .iconst (-1), 1), (49, .if_icmp .ne 5, 3), (52, .iconst (-1), 1), (53, .ireturn, 1), (54, .aload_n 1, 1), (55, .bipush 59, 2), (57, .invokevirtual 39, 3), (60, .ifCond .ne 8, 3), (63, .aload_n 1, 1), (64, .getfield 18, 3), (67, .ireturn, 1), (68, .iinc 2 1, 3), (71, .goto (-56), 3), (74, .aload_n 1, 1), (75, .getfield 18, 3), (78, .ireturn, 1)]
def m_LR_faultOf : AM := (4, ⟨"HeathForks$LawReader", "faultOf", "(LHeathForks$Tape;)I"⟩, prog_7_method_3_code, tb_LR_faultOf, 3, some .int, 89)
theorem tk_LR_faultOf : tabOk prog_7_method_3_code tb_LR_faultOf := by unfold tabOk; decide +kernel
set_option maxRecDepth 20000 in
theorem bb0_LR_faultOf : cB m_LR_faultOf 1 := ⟨(gwt1 5 rfl rfl), (gwt3 160 rfl rfl), ⟨by decide, by decide⟩, by decide +kernel, by decide⟩
theorem bb_LR_faultOf : cB m_LR_faultOf 1 := bb0_LR_faultOf
set_option maxRecDepth 20000 in
theorem vv_LR_faultOf : cV m_LR_faultOf := ⟨(gwt3 158 rfl rfl), (gwt3 159 rfl rfl)⟩
def tb_Walks_add : List (Nat × Instr × Nat) := [(0, .aload_n 0, 1), (1, .getfield 15, 3), (4, .ifCond .lt 39, 3), (7, .aload_n 0, 1), (8, .getfield 15, 3), (11, .aload_n 0, 1), (12, .getfield 9, 3), (15, .arraylength, 1), (16, .if_icmp .ge 27, 3), (19, .aload_n 0, 1), (20, .getfield 9, 3), (23, .aload_n 0, 1), (24, .getfield 15, 3), (27, .iload_n 1, 1), (28, .iconst 4, 1), (29, .imul, 1), (30, .iload_n 2, 1), (31, .iadd, 1), (32, .iastore, 1), (33, .aload_n 0, 1), (34, .dup, 1), (35, .getfield 15, 3), (38, .iconst 1, 1), (39, .iadd, 1), (40, .putfield 15, 3), (43, .return_, 1)]
def m_Walks_add : AM := (7, ⟨"HeathForks$Walks", "add", "(II)V"⟩, prog_10_method_2_code, tb_Walks_add, 3, none, 0)
theorem tk_Walks_add : tabOk prog_10_method_2_code tb_Walks_add := by unfold tabOk; decide +kernel
set_option maxRecDepth 20000 in
theorem bb0_Walks_add : cB m_Walks_add 2 := ⟨(gwt1 8 rfl rfl), (gwt3 219 rfl rfl), ⟨by decide, by decide⟩, by decide +kernel, by decide⟩
theorem bb_Walks_add : cB m_Walks_add 2 := bb0_Walks_add
set_option maxRecDepth 20000 in
theorem vv_Walks_add : cV m_Walks_add := ⟨(gwt3 217 rfl rfl), (gwt3 218 rfl rfl)⟩
def tb_WR_readStretch : List (Nat × Instr × Nat) := [(0, .aload_n 1, 1), (1, .invokevirtual 38, 3), (4, .istore_n 2, 1), (5, .iload_n 2, 1), (6, .bipush 48, 2), (8, .if_icmp .lt 9, 3), (11, .iload_n 2, 1), (12, .bipush 57, 2), (14, .if_icmp .le 5, 3), (17, .iconst 0, 1), (18, .ireturn, 1), (19, .aload_n 1, 1), (20, .dup, 1), (21, .getfield 18, 3), (24, .iconst 1, 1), (25, .iadd, 1), (26, .putfield 18, 3), (29, .iconst 0, 1), (30, .istore_n 3, 1), (31, .iload_n 3, 1), (32, .bipush 8, 2), (34, .if_icmp .ge 58, 3), (37, .ldc 42, 2), (39, .aload_n 1, 1), (40, .invokevirtual 38, 3), (43, .invokestatic 44, 3), (46, .istore 4, 2), (48, .iload 4, 2), (50, .ifCond .ge 13, 3), (53, .iload_n 3, 1), (54, .ifCond .le 7, 3), (57, .iconst 1, 1), (58, .goto 4, 3), (61, .iconst 0, 1), (62, .ireturn, 1), (63, .aload_n 0, 1), (64, .getfield 12, 3), (67, .iload_n 2, 1), (68, .bipush 48, 2), (70, .isub, 1), (71, .iload 4, 2), (73, .invokevirtual 48, 3), (76, .aload_n 1, 1), (77, .dup, 1), (78, .getfield 18, 3), (81, .iconst 1, 1), (82, .iadd, 1), (83, .putfield 18, 3), (86, .iinc 3 1, 3), (89, .goto (-58), 3), (92, .iconst 1, 1), (93, .ireturn, 1)]
def m_WR_readStretch : AM := (6, ⟨"HeathForks$WalksReader", "readStretch", "(LHeathForks$Tape;)Z"⟩, prog_11_method_5_code, tb_WR_readStretch, 5, some .boolean, 6)
theorem tk_WR_readStretch : tabOk prog_11_method_5_code tb_WR_readStretch := by unfold tabOk; decide +kernel
set_option maxRecDepth 20000 in
theorem bb0_WR_readStretch : cB m_WR_readStretch 1 := ⟨(gwt1 7 rfl rfl), (gwt3 212 rfl rfl), ⟨by decide, by decide⟩, by decide +kernel, by decide⟩
theorem bb_WR_readStretch : cB m_WR_readStretch 1 := bb0_WR_readStretch
set_option maxRecDepth 20000 in
theorem vv_WR_readStretch : cV m_WR_readStretch := ⟨(gwt3 211 rfl rfl), (gw_p 18 rfl rfl)⟩
def tb_WR_readStretches : List (Nat × Instr × Nat) := [(0, .iconst 0, 1), (1, .istore_n 2, 1), (2, .iload_n 2, 1), (3, .bipush 8, 2), (5, .if_icmp .ge 44, 3), (8, .iload_n 2, 1), (9, .ifCond .le 14, 3), (12, .aload_n 1, 1), (13, .bipush 59, 2), (15, .invokevirtual 31, 3), (18, .ifCond .ne 5, 3), (21, .iconst 0, 1), (22, .ireturn, 1), (23, .aload_n 0, 1), (24, .aload_n 1, 1), (25, .invokevirtual 35, 3), (28, .ifCond .ne 5, 3), (31, .iconst 0, 1), (32, .ireturn, 1), (33, .aload_n 1, 1), (34, .invokevirtual 38, 3), (37, .iconst (-1), 1), (38, .if_icmp .ne 5, 3), (41, .iconst 1, 1), (42, .ireturn, 1), (43, .iinc 2 1, 3), (46, .goto (-44), 3), (49, .iconst 0, 1), (50, .ireturn, 1)]
def m_WR_readStretches : AM := (6, ⟨"HeathForks$WalksReader", "readStretches", "(LHeathForks$Tape;)Z"⟩, prog_11_method_4_code, tb_WR_readStretches, 3, some .boolean, 7)
theorem tk_WR_readStretches : tabOk prog_11_method_4_code tb_WR_readStretches := by unfold tabOk; decide +kernel
set_option maxRecDepth 20000 in
theorem bb0_WR_readStretches : cB m_WR_readStretches 1 := ⟨(gwt1 7 rfl rfl), (gwt3 207 rfl rfl), ⟨by decide, by decide⟩, by decide +kernel, by decide⟩
theorem bb_WR_readStretches : cB m_WR_readStretches 1 := bb0_WR_readStretches
set_option maxRecDepth 20000 in
theorem vv_WR_readStretches : cV m_WR_readStretches := ⟨(gwt3 206 rfl rfl), (gw_p 17 rfl rfl)⟩
def tb_WR_faultOf : List (Nat × Instr × Nat) := [(0, .aload_n 1, 1), (1, .iconst 0, 1), (2, .putfield 18, 3), (5, .aload_n 0, 1), (6, .getfield 12, 3), (9, .iconst 0, 1), (10, .putfield 24, 3), (13, .aload_n 0, 1), (14, .aload_n 1, 1), (15, .invokevirtual 27, 3), (18, .ifCond .eq 7, 3), (21, .iconst (-1), 1), (22, .goto 7, 3), (25, .aload_n 1, 1), (26, .getfield 18, 3), (29, .ireturn, 1)]
def m_WR_faultOf : AM := (6, ⟨"HeathForks$WalksReader", "faultOf", "(LHeathForks$Tape;)I"⟩, prog_11_method_3_code, tb_WR_faultOf, 2, some .int, 8)
theorem tk_WR_faultOf : tabOk prog_11_method_3_code tb_WR_faultOf := by unfold tabOk; decide +kernel
set_option maxRecDepth 20000 in
theorem bb0_WR_faultOf : cB m_WR_faultOf 1 := ⟨(gwt1 7 rfl rfl), (gwt3 203 rfl rfl), ⟨by decide, by decide⟩, by decide +kernel, by decide⟩
theorem bb_WR_faultOf : cB m_WR_faultOf 1 := bb0_WR_faultOf
set_option maxRecDepth 20000 in
theorem vv_WR_faultOf : cV m_WR_faultOf := ⟨(gwt3 201 rfl rfl), (gwt3 202 rfl rfl)⟩
def tb_HF_fault : List (Nat × Instr × Nat) := [(0, .iload_n 1, 1), (1, .tableswitch 63 0 2 #[27, 39, 51], 27), (28, .aload_n 0, 1), (29, .getfield 19, 3), (32, .aload_n 0, 1), (33, .getfield 10, 3), (36, .invokevirtual 121, 3), (39, .ireturn, 1), (40, .aload_n 0, 1), (41, .getfield 26, 3), (44, .aload_n 0, 1), (45, .getfield 10, 3), (48, .invokevirtual 125, 3), (51, .ireturn, 1), (52, .aload_n 0, 1), (53, .getfield 33, 3), (56, .aload_n 0, 1), (57, .getfield 10, 3), (60, .invokevirtual 126, 3), (63, .ireturn, 1), (64, .bipush (-2), 2), (66, .ireturn, 1)]
def m_HF_fault : AM := (0, ⟨"HeathForks", "fault", "(I)I"⟩, prog_1_method_4_code, tb_HF_fault, 2, some .int, 90)
theorem tk_HF_fault : tabOk prog_1_method_4_code tb_HF_fault := by unfold tabOk; decide +kernel
set_option maxRecDepth 20000 in
theorem bb0_HF_fault : cB m_HF_fault 1 := ⟨(gwt1 1 rfl rfl), (gwt2 174 rfl rfl), ⟨by decide, by decide⟩, by decide +kernel, by decide⟩
theorem bb_HF_fault : cB m_HF_fault 1 := bb0_HF_fault
set_option maxRecDepth 20000 in
theorem vv_HF_fault : cV m_HF_fault := ⟨(gwt2 172 rfl rfl), (gwt2 173 rfl rfl)⟩
def tb_HR_exchange : List (Nat × Instr × Nat) := [(0, .aload_n 0, 1), (1, .getfield 27, 3), (4, .astore_n 2, 1), (5, .aload_n 0, 1), (6, .aload_n 1, 1), (7, .putfield 27, 3), (10, .aload_n 2, 1), (11, .areturn, 1)]
def m_HR_exchange : AM := (2, ⟨"HeathForks$HeathReader", "exchange", "(LHeathForks$Heath;)LHeathForks$Heath;"⟩, prog_5_method_2_code, tb_HR_exchange, 3, some (.object "HeathForks$Heath"), 0)
theorem tk_HR_exchange : tabOk prog_5_method_2_code tb_HR_exchange := by unfold tabOk; decide +kernel
set_option maxRecDepth 20000 in
theorem bb0_HR_exchange : cB m_HR_exchange 1 := ⟨(gwt1 3 rfl rfl), (gwt3 232 rfl rfl), ⟨by decide, by decide⟩, by decide +kernel, by decide⟩
theorem bb_HR_exchange : cB m_HR_exchange 1 := bb0_HR_exchange
set_option maxRecDepth 20000 in
theorem vv_HR_exchange : cV m_HR_exchange := ⟨(gwt3 230 rfl rfl), (gwt3 231 rfl rfl)⟩
def tb_Heath_trait : List (Nat × Instr × Nat) := [(0, .aload_n 0, 1), (1, .iload_n 1, 1), (2, .invokevirtual 94, 3), (5, .ifCond .eq 13, 3), (8, .iload_n 2, 1), (9, .ifCond .lt 9, 3), (12, .iload_n 2, 1), (13, .bipush 6, 2), (15, .if_icmp .lt 5, 3), (18, .iconst 0, 1), (19, .ireturn, 1), (20, .aload_n 0, 1), (21, .getfield 24, 3), (24, .iload_n 1, 1), (25, .bipush 6, 2), (27, .imul, 1), (28, .iload_n 2, 1), (29, .iadd, 1), (30, .iaload, 1), (31, .ireturn, 1)]
def m_Heath_trait : AM := (3, ⟨"HeathForks$Heath", "trait", "(II)I"⟩, prog_4_method_21_code, tb_Heath_trait, 3, some .int, 1)
theorem tk_Heath_trait : tabOk prog_4_method_21_code tb_Heath_trait := by unfold tabOk; decide +kernel
set_option maxRecDepth 20000 in
theorem bb0_Heath_trait : cB m_Heath_trait 2 := ⟨(gwt1 4 rfl rfl), (gwt4 1 rfl rfl), ⟨by decide, by decide⟩, by decide +kernel, by decide⟩
theorem bb_Heath_trait : cB m_Heath_trait 2 := bb0_Heath_trait
set_option maxRecDepth 20000 in
theorem vv_Heath_trait : cV m_Heath_trait := ⟨(gwt3 239 rfl rfl), (gwt4 0 rfl rfl)⟩
def tb_Moor_move : List (Nat × Instr × Nat) := [(0, .iload_n 1, 1), (1, .ifCond .lt 38, 3), (4, .iload_n 1, 1), (5, .bipush 6, 2), (7, .if_icmp .ge 32, 3), (10, .iload_n 3, 1), (11, .ifCond .eq 8, 3), (14, .iload_n 3, 1), (15, .iconst 1, 1), (16, .if_icmp .ne 23, 3), (19, .aload_n 0, 1), (20, .getfield 9, 3), (23, .iload_n 1, 1), (24, .iload_n 2, 1), (25, .iastore, 1), (26, .aload_n 0, 1), (27, .getfield 18, 3), (30, .iload_n 3, 1), (31, .dup2, 1), (32, .iaload, 1), (33, .iload_n 2, 1), (34, .invokestatic 64, 3), (37, .ior, 1), (38, .iastore, 1), (39, .return_, 1)]
def m_Moor_move : AM := (8, ⟨"HeathForks$Moor", "move", "(III)V"⟩, prog_8_method_7_code, tb_Moor_move, 4, none, 1)
theorem tk_Moor_move : tabOk prog_8_method_7_code tb_Moor_move := by unfold tabOk; decide +kernel
set_option maxRecDepth 20000 in
theorem bb0_Moor_move : cB m_Moor_move 3 := ⟨(gwt1 9 rfl rfl), (gwt4 5 rfl rfl), ⟨by decide, by decide⟩, by decide +kernel, by decide⟩
theorem bb_Moor_move : cB m_Moor_move 3 := bb0_Moor_move
set_option maxRecDepth 20000 in
theorem vv_Moor_move : cV m_Moor_move := ⟨(gwt4 3 rfl rfl), (gwt4 4 rfl rfl)⟩
def tb_Moor_begin : List (Nat × Instr × Nat) := [(0, .aload_n 0, 1), (1, .iconst 0, 1), (2, .putfield 27, 3), (5, .aload_n 0, 1), (6, .iconst 0, 1), (7, .putfield 31, 3), (10, .aload_n 0, 1), (11, .iconst 0, 1), (12, .putfield 34, 3), (15, .aload_n 0, 1), (16, .iconst 0, 1), (17, .putfield 37, 3), (20, .iconst 0, 1), (21, .istore_n 2, 1), (22, .iload_n 2, 1), (23, .bipush 30, 2), (25, .if_icmp .ge 16, 3), (28, .aload_n 0, 1), (29, .getfield 24, 3), (32, .iload_n 2, 1), (33, .iconst 0, 1), (34, .iastore, 1), (35, .iinc 2 1, 3), (38, .goto (-16), 3), (41, .aload_n 0, 1), (42, .getfield 18, 3), (45, .iconst 0, 1), (46, .iconst 0, 1), (47, .iastore, 1), (48, .aload_n 0, 1), (49, .getfield 18, 3), (52, .iconst 1, 1), (53, .iconst 0, 1), (54, .iastore, 1), (55, .iconst 0, 1), (56, .istore_n 2, 1), (57, .iload_n 2, 1), (58, .bipush 6, 2), (60, .if_icmp .ge 48, 3), (63, .aload_n 0, 1), (64, .getfield 15, 3), (67, .iload_n 2, 1), (68, .iconst 0, 1), (69, .iastore, 1), (70, .aload_n 0, 1), (71, .getfield 9, 3), (74, .iload_n 2, 1), (75, .iconst (-1), 1), (76, .iastore, 1), (77, .aload_n 1, 1), (78, .iload_n 2, 1), (79, .invokevirtual 40, 3), (82, .ifCond .eq 20, 3), (85, .aload_n 0, 1), (86, .iload_n 2, 1), (87, .aload_n 1, 1), (88, .iload_n 2, 1), (89, .iconst 0, 1), (90, .invokevirtual 46, 3), (93, .aload_n 1, 1), (94, .iload_n 2, 1), (95, .iconst 5, 1), (96, .invokevirtual 46, 3), (99, .invokevirtual 50, 3), (102, .iinc 2 1, 3), (105, .goto (-48), 3), (108, .return_, 1)]
def m_Moor_begin : AM := (8, ⟨"HeathForks$Moor", "begin", "(LHeathForks$Heath;)V"⟩, prog_8_method_2_code, tb_Moor_begin, 3, none, 2)
theorem tk_Moor_begin : tabOk prog_8_method_2_code tb_Moor_begin := by unfold tabOk; decide +kernel
set_option maxRecDepth 20000 in
theorem bb0_Moor_begin : cB m_Moor_begin 1 := ⟨(gwt1 9 rfl rfl), (gwt3 236 rfl rfl), ⟨by decide, by decide⟩, by decide +kernel, by decide⟩
theorem bb_Moor_begin : cB m_Moor_begin 1 := bb0_Moor_begin
set_option maxRecDepth 20000 in
theorem vv_Moor_begin : cV m_Moor_begin := ⟨(gwt3 234 rfl rfl), (gwt3 235 rfl rfl)⟩
def tb_Acts_clear : List (Nat × Instr × Nat) := [(0, .aload_n 0, 1), (1, .iconst 0, 1), (2, .putfield 15, 3), (5, .return_, 1)]
def m_Acts_clear : AM := (9, ⟨"HeathForks$Acts", "clear", "()V"⟩, prog_2_method_2_code, tb_Acts_clear, 1, none, 0)
theorem tk_Acts_clear : tabOk prog_2_method_2_code tb_Acts_clear := by unfold tabOk; decide +kernel
set_option maxRecDepth 20000 in
theorem bb0_Acts_clear : cB m_Acts_clear 0 := ⟨(gwt1 10 rfl rfl), (gwt4 10 rfl rfl), ⟨by decide, by decide⟩, by decide +kernel, by decide⟩
theorem bb_Acts_clear : cB m_Acts_clear 0 := bb0_Acts_clear
set_option maxRecDepth 20000 in
theorem vv_Acts_clear : cV m_Acts_clear := ⟨(gwt4 8 rfl rfl), (gwt4 9 rfl rfl)⟩
def tb_HF_takeHeath : List (Nat × Instr × Nat) := [(0, .aload_n 0, 1), (1, .aload_n 0, 1), (2, .getfield 19, 3), (5, .aload_n 0, 1), (6, .getfield 90, 3), (9, .invokevirtual 400, 3), (12, .putfield 90, 3), (15, .aload_n 0, 1), (16, .getfield 10, 3), (19, .iconst 0, 1), (20, .putfield 114, 3), (23, .aload_n 0, 1), (24, .getfield 56, 3), (27, .aload_n 0, 1), (28, .getfield 90, 3), (31, .invokevirtual 404, 3), (34, .aload_n 0, 1), (35, .getfield 69, 3), (38, .invokevirtual 385, 3), (41, .aload_n 0, 1), (42, .getfield 76, 3), (45, .iconst 0, 1), (46, .putfield 339, 3), (49, .aload_n 0, 1), (50, .iconst 0, 1), (51, .putfield 104, 3), (54, .aload_n 0, 1), (55, .getfield 90, 3), (58, .getfield 359, 3), (61, .ireturn, 1)]
def m_HF_takeHeath : AM := (0, ⟨"HeathForks", "takeHeath", "()I"⟩, prog_1_method_46_code, tb_HF_takeHeath, 1, some .int, 3)
theorem tk_HF_takeHeath : tabOk prog_1_method_46_code tb_HF_takeHeath := by unfold tabOk; decide +kernel
set_option maxRecDepth 20000 in
theorem bb0_HF_takeHeath : cB m_HF_takeHeath 0 := ⟨(gwt1 1 rfl rfl), (gwt3 228 rfl rfl), ⟨by decide, by decide⟩, by decide +kernel, by decide⟩
theorem bb_HF_takeHeath : cB m_HF_takeHeath 0 := bb0_HF_takeHeath
set_option maxRecDepth 20000 in
theorem vv_HF_takeHeath : cV m_HF_takeHeath := ⟨(gwt3 227 rfl rfl), (gw_p 19 rfl rfl)⟩
def tb_LR_exchange : List (Nat × Instr × Nat) := [(0, .aload_n 0, 1), (1, .getfield 12, 3), (4, .astore_n 2, 1), (5, .aload_n 0, 1), (6, .aload_n 1, 1), (7, .putfield 12, 3), (10, .aload_n 2, 1), (11, .areturn, 1)]
def m_LR_exchange : AM := (4, ⟨"HeathForks$LawReader", "exchange", "(LHeathForks$Law;)LHeathForks$Law;"⟩, prog_7_method_2_code, tb_LR_exchange, 3, some (.object "HeathForks$Law"), 0)
theorem tk_LR_exchange : tabOk prog_7_method_2_code tb_LR_exchange := by unfold tabOk; decide +kernel
set_option maxRecDepth 20000 in
theorem bb0_LR_exchange : cB m_LR_exchange 1 := ⟨(gwt1 5 rfl rfl), (gwt4 18 rfl rfl), ⟨by decide, by decide⟩, by decide +kernel, by decide⟩
theorem bb_LR_exchange : cB m_LR_exchange 1 := bb0_LR_exchange
set_option maxRecDepth 20000 in
theorem vv_LR_exchange : cV m_LR_exchange := ⟨(gwt4 16 rfl rfl), (gwt4 17 rfl rfl)⟩
def tb_HF_takeLaw : List (Nat × Instr × Nat) := [(0, .aload_n 0, 1), (1, .getfield 94, 3), (4, .ifCond .lt 15, 3), (7, .aload_n 0, 1), (8, .getfield 94, 3), (11, .aload_n 0, 1), (12, .getfield 39, 3), (15, .arraylength, 1), (16, .if_icmp .lt 5, 3), (19, .iconst (-1), 1), (20, .ireturn, 1), (21, .aload_n 0, 1), (22, .getfield 39, 3), (25, .aload_n 0, 1), (26, .getfield 94, 3), (29, .aload_n 0, 1), (30, .getfield 26, 3), (33, .aload_n 0, 1), (34, .getfield 39, 3), (37, .aload_n 0, 1), (38, .getfield 94, 3), (41, .aaload, 1), (42, .invokevirtual 408, 3), (45, .aastore, 1), (46, .aload_n 0, 1), (47, .getfield 10, 3), (50, .iconst 0, 1), (51, .putfield 114, 3), (54, .aload_n 0, 1), (55, .dup, 1), (56, .getfield 94, 3), (59, .iconst 1, 1), (60, .iadd, 1), (61, .putfield 94, 3), (64, .aload_n 0, 1), (65, .getfield 94, 3), (68, .iconst 1, 1), (69, .isub, 1), (70, .ireturn, 1)]
def m_HF_takeLaw : AM := (0, ⟨"HeathForks", "takeLaw", "()I"⟩, prog_1_method_47_code, tb_HF_takeLaw, 1, some .int, 1)
theorem tk_HF_takeLaw : tabOk prog_1_method_47_code tb_HF_takeLaw := by unfold tabOk; decide +kernel
set_option maxRecDepth 20000 in
theorem bb0_HF_takeLaw : cB m_HF_takeLaw 0 := ⟨(gwt1 1 rfl rfl), (gwt4 14 rfl rfl), ⟨by decide, by decide⟩, by decide +kernel, by decide⟩
theorem bb_HF_takeLaw : cB m_HF_takeLaw 0 := bb0_HF_takeLaw
set_option maxRecDepth 20000 in
theorem vv_HF_takeLaw : cV m_HF_takeLaw := ⟨(gwt4 13 rfl rfl), (gw_p 20 rfl rfl)⟩
def tb_WR_exchange : List (Nat × Instr × Nat) := [(0, .aload_n 0, 1), (1, .getfield 12, 3), (4, .astore_n 2, 1), (5, .aload_n 0, 1), (6, .aload_n 1, 1), (7, .putfield 12, 3), (10, .aload_n 2, 1), (11, .areturn, 1)]
def m_WR_exchange : AM := (6, ⟨"HeathForks$WalksReader", "exchange", "(LHeathForks$Walks;)LHeathForks$Walks;"⟩, prog_11_method_2_code, tb_WR_exchange, 3, some (.object "HeathForks$Walks"), 0)
theorem tk_WR_exchange : tabOk prog_11_method_2_code tb_WR_exchange := by unfold tabOk; decide +kernel
set_option maxRecDepth 20000 in
theorem bb0_WR_exchange : cB m_WR_exchange 1 := ⟨(gwt1 7 rfl rfl), (gwt4 26 rfl rfl), ⟨by decide, by decide⟩, by decide +kernel, by decide⟩
theorem bb_WR_exchange : cB m_WR_exchange 1 := bb0_WR_exchange
set_option maxRecDepth 20000 in
theorem vv_WR_exchange : cV m_WR_exchange := ⟨(gwt4 24 rfl rfl), (gwt4 25 rfl rfl)⟩
def tb_HF_takeWalks : List (Nat × Instr × Nat) := [(0, .aload_n 0, 1), (1, .getfield 98, 3), (4, .ifCond .lt 15, 3), (7, .aload_n 0, 1), (8, .getfield 98, 3), (11, .aload_n 0, 1), (12, .getfield 45, 3), (15, .arraylength, 1), (16, .if_icmp .lt 5, 3), (19, .iconst (-1), 1), (20, .ireturn, 1), (21, .aload_n 0, 1), (22, .getfield 45, 3), (25, .aload_n 0, 1), (26, .getfield 98, 3), (29, .aload_n 0, 1), (30, .getfield 33, 3), (33, .aload_n 0, 1), (34, .getfield 45, 3), (37, .aload_n 0, 1), (38, .getfield 98, 3), (41, .aaload, 1), (42, .invokevirtual 411, 3), (45, .aastore, 1), (46, .aload_n 0, 1), (47, .getfield 10, 3), (50, .iconst 0, 1), (51, .putfield 114, 3), (54, .aload_n 0, 1), (55, .dup, 1), (56, .getfield 98, 3), (59, .iconst 1, 1), (60, .iadd, 1), (61, .putfield 98, 3), (64, .aload_n 0, 1), (65, .getfield 98, 3), (68, .iconst 1, 1), (69, .isub, 1), (70, .ireturn, 1)]
def m_HF_takeWalks : AM := (0, ⟨"HeathForks", "takeWalks", "()I"⟩, prog_1_method_48_code, tb_HF_takeWalks, 1, some .int, 1)
theorem tk_HF_takeWalks : tabOk prog_1_method_48_code tb_HF_takeWalks := by unfold tabOk; decide +kernel
set_option maxRecDepth 20000 in
theorem bb0_HF_takeWalks : cB m_HF_takeWalks 0 := ⟨(gwt1 1 rfl rfl), (gwt4 22 rfl rfl), ⟨by decide, by decide⟩, by decide +kernel, by decide⟩
theorem bb_HF_takeWalks : cB m_HF_takeWalks 0 := bb0_HF_takeWalks
set_option maxRecDepth 20000 in
theorem vv_HF_takeWalks : cV m_HF_takeWalks := ⟨(gwt4 21 rfl rfl), (gw_p 21 rfl rfl)⟩
def tb_HF_text : List (Nat × Instr × Nat) := [(0, .iload_n 1, 1), (1, .tableswitch 99 0 2 #[27, 51, 75], 27), (28, .aload_n 0, 1), (29, .getfield 19, 3), (32, .aload_n 0, 1), (33, .getfield 10, 3), (36, .invokevirtual 121, 3), (39, .iconst (-1), 1), (40, .if_icmp .ne 10, 3), (43, .aload_n 0, 1), (44, .invokevirtual 127, 3), (47, .goto 4, 3), (50, .iconst (-1), 1), (51, .ireturn, 1), (52, .aload_n 0, 1), (53, .getfield 26, 3), (56, .aload_n 0, 1), (57, .getfield 10, 3), (60, .invokevirtual 125, 3), (63, .iconst (-1), 1), (64, .if_icmp .ne 10, 3), (67, .aload_n 0, 1), (68, .invokevirtual 131, 3), (71, .goto 4, 3), (74, .iconst (-1), 1), (75, .ireturn, 1), (76, .aload_n 0, 1), (77, .getfield 33, 3), (80, .aload_n 0, 1), (81, .getfield 10, 3), (84, .invokevirtual 126, 3), (87, .iconst (-1), 1), (88, .if_icmp .ne 10, 3), (91, .aload_n 0, 1), (92, .invokevirtual 134, 3), (95, .goto 4, 3), (98, .iconst (-1), 1), (99, .ireturn, 1), (100, .iconst (-1), 1), (101, .ireturn, 1)]
def m_HF_text : AM := (0, ⟨"HeathForks", "text", "(I)I"⟩, prog_1_method_5_code, tb_HF_text, 2, some .int, 90)
theorem tk_HF_text : tabOk prog_1_method_5_code tb_HF_text := by unfold tabOk; decide +kernel
set_option maxRecDepth 20000 in
theorem bb0_HF_text : cB m_HF_text 1 := ⟨(gwt1 1 rfl rfl), (gwt3 224 rfl rfl), ⟨by decide, by decide⟩, by decide +kernel, by decide⟩
theorem bb_HF_text : cB m_HF_text 1 := bb0_HF_text
set_option maxRecDepth 20000 in
theorem vv_HF_text : cV m_HF_text := ⟨(gwt3 222 rfl rfl), (gwt3 223 rfl rfl)⟩
def tb_HF_hasHeath : List (Nat × Instr × Nat) := [(0, .aload_n 0, 1), (1, .getfield 90, 3), (4, .getfield 359, 3), (7, .ifCond .le 7, 3), (10, .iconst 1, 1), (11, .goto 4, 3), (14, .iconst 0, 1), (15, .ireturn, 1)]
def m_HF_hasHeath : AM := (0, ⟨"HeathForks", "hasHeath", "()Z"⟩, prog_1_method_49_code, tb_HF_hasHeath, 1, some .boolean, 0)
theorem tk_HF_hasHeath : tabOk prog_1_method_49_code tb_HF_hasHeath := by unfold tabOk; decide +kernel
set_option maxRecDepth 20000 in
theorem bb0_HF_hasHeath : cB m_HF_hasHeath 0 := ⟨(gwt1 1 rfl rfl), (gwt4 34 rfl rfl), ⟨by decide, by decide⟩, by decide +kernel, by decide⟩
theorem bb_HF_hasHeath : cB m_HF_hasHeath 0 := bb0_HF_hasHeath
set_option maxRecDepth 20000 in
theorem vv_HF_hasHeath : cV m_HF_hasHeath := ⟨(gwt4 33 rfl rfl), (gw_p 22 rfl rfl)⟩
def tb_HF_rule : List (Nat × Instr × Nat) := [(0, .aload_n 0, 1), (1, .invokevirtual 137, 3), (4, .ifCond .ne 5, 3), (7, .iconst (-1), 1), (8, .ireturn, 1), (9, .iload_n 1, 1), (10, .tableswitch 62 0 3 #[30, 38, 46, 54], 30), (40, .aload_n 0, 1), (41, .getfield 90, 3), (44, .getfield 141, 3), (47, .ireturn, 1), (48, .aload_n 0, 1), (49, .getfield 90, 3), (52, .getfield 144, 3), (55, .ireturn, 1), (56, .aload_n 0, 1), (57, .getfield 90, 3), (60, .getfield 147, 3), (63, .ireturn, 1), (64, .aload_n 0, 1), (65, .getfield 90, 3), (68, .getfield 150, 3), (71, .ireturn, 1), (72, .iconst (-1), 1), (73, .ireturn, 1)]
def m_HF_rule : AM := (0, ⟨"HeathForks", "rule", "(I)I"⟩, prog_1_method_6_code, tb_HF_rule, 2, some .int, 1)
theorem tk_HF_rule : tabOk prog_1_method_6_code tb_HF_rule := by unfold tabOk; decide +kernel
set_option maxRecDepth 20000 in
theorem bb0_HF_rule : cB m_HF_rule 1 := ⟨(gwt1 1 rfl rfl), (gwt4 30 rfl rfl), ⟨by decide, by decide⟩, by decide +kernel, by decide⟩
theorem bb_HF_rule : cB m_HF_rule 1 := bb0_HF_rule
set_option maxRecDepth 20000 in
theorem vv_HF_rule : cV m_HF_rule := ⟨(gwt4 28 rfl rfl), (gwt4 29 rfl rfl)⟩
def tb_Heath_hasWater : List (Nat × Instr × Nat) := [(0, .aload_n 0, 1), (1, .iload_n 1, 1), (2, .invokevirtual 71, 3), (5, .ifCond .eq 17, 3), (8, .aload_n 0, 1), (9, .getfield 9, 3), (12, .iload_n 1, 1), (13, .iaload, 1), (14, .iconst (-1), 1), (15, .if_icmp .eq 7, 3), (18, .iconst 1, 1), (19, .goto 4, 3), (22, .iconst 0, 1), (23, .ireturn, 1)]
def m_Heath_hasWater : AM := (3, ⟨"HeathForks$Heath", "hasWater", "(I)Z"⟩, prog_4_method_15_code, tb_Heath_hasWater, 2, some .boolean, 1)
theorem tk_Heath_hasWater : tabOk prog_4_method_15_code tb_Heath_hasWater := by unfold tabOk; decide +kernel
set_option maxRecDepth 20000 in
theorem bb0_Heath_hasWater : cB m_Heath_hasWater 1 := ⟨(gwt1 4 rfl rfl), (gwt4 47 rfl rfl), ⟨by decide, by decide⟩, by decide +kernel, by decide⟩
theorem bb_Heath_hasWater : cB m_Heath_hasWater 1 := bb0_Heath_hasWater
set_option maxRecDepth 20000 in
theorem vv_Heath_hasWater : cV m_Heath_hasWater := ⟨(gwt4 45 rfl rfl), (gwt4 46 rfl rfl)⟩
def tb_Heath_waterIn : List (Nat × Instr × Nat) := [(0, .aload_n 0, 1), (1, .iload_n 1, 1), (2, .invokevirtual 91, 3), (5, .ifCond .ne 5, 3), (8, .iconst (-1), 1), (9, .ireturn, 1), (10, .iload_n 2, 1), (11, .iconst 2, 1), (12, .if_icmp .ne 7, 3), (15, .iconst 2, 1), (16, .goto 6, 3), (19, .iload_n 2, 1), (20, .iconst 1, 1), (21, .iand, 1), (22, .istore_n 3, 1), (23, .bipush 99, 2), (25, .aload_n 0, 1), (26, .getfield 9, 3), (29, .iload_n 1, 1), (30, .iaload, 1), (31, .iload_n 3, 1), (32, .aload_n 0, 1), (33, .getfield 34, 3), (36, .imul, 1), (37, .iadd, 1), (38, .invokestatic 55, 3), (41, .ireturn, 1)]
def m_Heath_waterIn : AM := (3, ⟨"HeathForks$Heath", "waterIn", "(II)I"⟩, prog_4_method_16_code, tb_Heath_waterIn, 4, some .int, 2)
theorem tk_Heath_waterIn : tabOk prog_4_method_16_code tb_Heath_waterIn := by unfold tabOk; decide +kernel
set_option maxRecDepth 20000 in
theorem bb0_Heath_waterIn : cB m_Heath_waterIn 2 := ⟨(gwt1 4 rfl rfl), (gwt4 43 rfl rfl), ⟨by decide, by decide⟩, by decide +kernel, by decide⟩
theorem bb_Heath_waterIn : cB m_Heath_waterIn 2 := bb0_Heath_waterIn
set_option maxRecDepth 20000 in
theorem vv_Heath_waterIn : cV m_Heath_waterIn := ⟨(gwt4 41 rfl rfl), (gwt4 42 rfl rfl)⟩
def tb_Heath_ironIn : List (Nat × Instr × Nat) := [(0, .aload_n 0, 1), (1, .iload_n 1, 1), (2, .invokevirtual 71, 3), (5, .ifCond .eq 12, 3), (8, .aload_n 0, 1), (9, .getfield 15, 3), (12, .iload_n 1, 1), (13, .iaload, 1), (14, .goto 4, 3), (17, .iconst (-1), 1), (18, .ireturn, 1)]
def m_Heath_ironIn : AM := (3, ⟨"HeathForks$Heath", "ironIn", "(I)I"⟩, prog_4_method_17_code, tb_Heath_ironIn, 2, some .int, 1)
theorem tk_Heath_ironIn : tabOk prog_4_method_17_code tb_Heath_ironIn := by unfold tabOk; decide +kernel
set_option maxRecDepth 20000 in
theorem bb0_Heath_ironIn : cB m_Heath_ironIn 1 := ⟨(gwt1 4 rfl rfl), (gwt4 51 rfl rfl), ⟨by decide, by decide⟩, by decide +kernel, by decide⟩
theorem bb_Heath_ironIn : cB m_Heath_ironIn 1 := bb0_Heath_ironIn
set_option maxRecDepth 20000 in
theorem vv_Heath_ironIn : cV m_Heath_ironIn := ⟨(gwt4 49 rfl rfl), (gwt4 50 rfl rfl)⟩
def tb_Heath_rockIn : List (Nat × Instr × Nat) := [(0, .aload_n 0, 1), (1, .iload_n 1, 1), (2, .invokevirtual 71, 3), (5, .ifCond .eq 12, 3), (8, .aload_n 0, 1), (9, .getfield 18, 3), (12, .iload_n 1, 1), (13, .iaload, 1), (14, .goto 4, 3), (17, .iconst 0, 1), (18, .ireturn, 1)]
def m_Heath_rockIn : AM := (3, ⟨"HeathForks$Heath", "rockIn", "(I)I"⟩, prog_4_method_19_code, tb_Heath_rockIn, 2, some .int, 1)
theorem tk_Heath_rockIn : tabOk prog_4_method_19_code tb_Heath_rockIn := by unfold tabOk; decide +kernel
set_option maxRecDepth 20000 in
theorem bb0_Heath_rockIn : cB m_Heath_rockIn 1 := ⟨(gwt1 4 rfl rfl), (gwt4 55 rfl rfl), ⟨by decide, by decide⟩, by decide +kernel, by decide⟩
theorem bb_Heath_rockIn : cB m_Heath_rockIn 1 := bb0_Heath_rockIn
set_option maxRecDepth 20000 in
theorem vv_Heath_rockIn : cV m_Heath_rockIn := ⟨(gwt4 53 rfl rfl), (gwt4 54 rfl rfl)⟩
def tb_Moor_sunkTo : List (Nat × Instr × Nat) := [(0, .iload_n 1, 1), (1, .ifCond .lt 18, 3), (4, .iload_n 1, 1), (5, .bipush 30, 2), (7, .if_icmp .ge 12, 3), (10, .aload_n 0, 1), (11, .getfield 24, 3), (14, .iload_n 1, 1), (15, .iaload, 1), (16, .goto 4, 3), (19, .iconst 0, 1), (20, .ireturn, 1)]
def m_Moor_sunkTo : AM := (8, ⟨"HeathForks$Moor", "sunkTo", "(I)I"⟩, prog_8_method_18_code, tb_Moor_sunkTo, 2, some .int, 0)
theorem tk_Moor_sunkTo : tabOk prog_8_method_18_code tb_Moor_sunkTo := by unfold tabOk; decide +kernel
set_option maxRecDepth 20000 in
theorem bb0_Moor_sunkTo : cB m_Moor_sunkTo 1 := ⟨(gwt1 9 rfl rfl), (gwt4 60 rfl rfl), ⟨by decide, by decide⟩, by decide +kernel, by decide⟩
theorem bb_Moor_sunkTo : cB m_Moor_sunkTo 1 := bb0_Moor_sunkTo
set_option maxRecDepth 20000 in
theorem vv_Moor_sunkTo : cV m_Moor_sunkTo := ⟨(gwt4 58 rfl rfl), (gwt4 59 rfl rfl)⟩
def tb_HF_cell : List (Nat × Instr × Nat) := [(0, .aload_n 0, 1), (1, .getfield 90, 3), (4, .iload_n 1, 1), (5, .invokevirtual 153, 3), (8, .ifCond .ne 5, 3), (11, .iconst (-1), 1), (12, .ireturn, 1), (13, .iload_n 2, 1), (14, .tableswitch 97 0 4 #[34, 50, 59, 68, 88], 34), (48, .aload_n 0, 1), (49, .getfield 90, 3), (52, .iload_n 1, 1), (53, .aload_n 0, 1), (54, .getfield 56, 3), (57, .getfield 157, 3), (60, .invokevirtual 160, 3), (63, .ireturn, 1), (64, .aload_n 0, 1), (65, .getfield 90, 3), (68, .iload_n 1, 1), (69, .invokevirtual 164, 3), (72, .ireturn, 1), (73, .aload_n 0, 1), (74, .getfield 90, 3), (77, .iload_n 1, 1), (78, .invokevirtual 167, 3), (81, .ireturn, 1), (82, .aload_n 0, 1), (83, .getfield 56, 3), (86, .getfield 170, 3), (89, .iload_n 1, 1), (90, .invokestatic 173, 3), (93, .ifCond .eq 7, 3), (96, .iconst 1, 1), (97, .goto 4, 3), (100, .iconst 0, 1), (101, .ireturn, 1), (102, .aload_n 0, 1), (103, .getfield 56, 3), (106, .iload_n 1, 1), (107, .invokevirtual 177, 3), (110, .ireturn, 1), (111, .iconst (-1), 1), (112, .ireturn, 1)]
def m_HF_cell : AM := (0, ⟨"HeathForks", "cell", "(II)I"⟩, prog_1_method_7_code, tb_HF_cell, 3, some .int, 3)
theorem tk_HF_cell : tabOk prog_1_method_7_code tb_HF_cell := by unfold tabOk; decide +kernel
set_option maxRecDepth 20000 in
theorem bb0_HF_cell : cB m_HF_cell 2 := ⟨(gwt1 1 rfl rfl), (gwt4 38 rfl rfl), ⟨by decide, by decide⟩, by decide +kernel, by decide⟩
theorem bb_HF_cell : cB m_HF_cell 2 := bb0_HF_cell
set_option maxRecDepth 20000 in
theorem vv_HF_cell : cV m_HF_cell := ⟨(gwt4 36 rfl rfl), (gwt4 37 rfl rfl)⟩
def tb_HF_law : List (Nat × Instr × Nat) := [(0, .iload_n 1, 1), (1, .iconst (-1), 1), (2, .if_icmp .lt 11, 3), (5, .iload_n 1, 1), (6, .aload_n 0, 1), (7, .getfield 94, 3), (10, .if_icmp .lt 5, 3), (13, .iconst 0, 1), (14, .ireturn, 1), (15, .aload_n 0, 1), (16, .iload_n 1, 1), (17, .putfield 101, 3), (20, .iconst 1, 1), (21, .ireturn, 1)]
def m_HF_law : AM := (0, ⟨"HeathForks", "law", "(I)Z"⟩, prog_1_method_9_code, tb_HF_law, 2, some .boolean, 0)
theorem tk_HF_law : tabOk prog_1_method_9_code tb_HF_law := by unfold tabOk; decide +kernel
set_option maxRecDepth 20000 in
theorem bb0_HF_law : cB m_HF_law 1 := ⟨(gwt1 1 rfl rfl), (gwt4 64 rfl rfl), ⟨by decide, by decide⟩, by decide +kernel, by decide⟩
theorem bb_HF_law : cB m_HF_law 1 := bb0_HF_law
set_option maxRecDepth 20000 in
theorem vv_HF_law : cV m_HF_law := ⟨(gwt4 62 rfl rfl), (gwt4 63 rfl rfl)⟩
def tb_HF_plainTwitch : List (Nat × Instr × Nat) := [(0, .iconst 0, 1), (1, .istore 4, 2), (3, .aload_n 0, 1), (4, .getfield 90, 3), (7, .iload_n 3, 1), (8, .aload_n 1, 1), (9, .getfield 157, 3), (12, .invokevirtual 160, 3), (15, .istore 5, 2), (17, .iload 5, 2), (19, .iconst (-1), 1), (20, .if_icmp .eq 24, 3), (23, .iload 4, 2), (25, .aload_n 0, 1), (26, .getfield 90, 3), (29, .iload_n 2, 1), (30, .iconst 1, 1), (31, .invokevirtual 196, 3), (34, .iload 5, 2), (36, .isub, 1), (37, .iconst 1, 1), (38, .iadd, 1), (39, .invokestatic 447, 3), (42, .istore 4, 2), (44, .aload_n 0, 1), (45, .getfield 90, 3), (48, .iload_n 3, 1), (49, .invokevirtual 164, 3), (52, .istore 6, 2), (54, .iload 6, 2), (56, .iconst (-1), 1), (57, .if_icmp .eq 26, 3), (60, .iload 6, 2), (62, .aload_n 0, 1), (63, .getfield 90, 3), (66, .iload_n 2, 1), (67, .iconst 2, 1), (68, .invokevirtual 196, 3), (71, .if_icmp .gt 12, 3), (74, .iload 4, 2), (76, .bipush 10, 2), (78, .invokestatic 447, 3), (81, .istore 4, 2), (83, .aload_n 0, 1), (84, .getfield 90, 3), (87, .iload_n 2, 1), (88, .iconst 3, 1), (89, .invokevirtual 196, 3), (92, .iload_n 3, 1), (93, .if_icmp .ne 11, 3), (96, .iload 4, 2), (98, .iconst 5, 1), (99, .invokestatic 447, 3), (102, .istore 4, 2), (104, .iload 4, 2), (106, .ireturn, 1)]
def m_HF_plainTwitch : AM := (0, ⟨"HeathForks", "plainTwitch", "(LHeathForks$Moor;II)I"⟩, prog_1_method_63_code, tb_HF_plainTwitch, 7, some .int, 3)
theorem tk_HF_plainTwitch : tabOk prog_1_method_63_code tb_HF_plainTwitch := by unfold tabOk; decide +kernel
set_option maxRecDepth 20000 in
theorem bb0_HF_plainTwitch : cB m_HF_plainTwitch 3 := ⟨(gwt1 1 rfl rfl), (gwt4 77 rfl rfl), ⟨by decide, by decide⟩, by decide +kernel, by decide⟩
theorem bb_HF_plainTwitch : cB m_HF_plainTwitch 3 := bb0_HF_plainTwitch
set_option maxRecDepth 20000 in
theorem vv_HF_plainTwitch : cV m_HF_plainTwitch := ⟨(gwt4 76 rfl rfl), (gw_p 24 rfl rfl)⟩
def tb_Moor_placeOf : List (Nat × Instr × Nat) := [(0, .iload_n 1, 1), (1, .ifCond .lt 18, 3), (4, .iload_n 1, 1), (5, .bipush 6, 2), (7, .if_icmp .ge 12, 3), (10, .aload_n 0, 1), (11, .getfield 9, 3), (14, .iload_n 1, 1), (15, .iaload, 1), (16, .goto 4, 3), (19, .iconst (-1), 1), (20, .ireturn, 1)]
def m_Moor_placeOf : AM := (8, ⟨"HeathForks$Moor", "placeOf", "(I)I"⟩, prog_8_method_4_code, tb_Moor_placeOf, 2, some .int, 0)
theorem tk_Moor_placeOf : tabOk prog_8_method_4_code tb_Moor_placeOf := by unfold tabOk; decide +kernel
set_option maxRecDepth 20000 in
theorem bb0_Moor_placeOf : cB m_Moor_placeOf 1 := ⟨(gwt1 9 rfl rfl), (gwt4 91 rfl rfl), ⟨by decide, by decide⟩, by decide +kernel, by decide⟩
theorem bb_Moor_placeOf : cB m_Moor_placeOf 1 := bb0_Moor_placeOf
set_option maxRecDepth 20000 in
theorem vv_Moor_placeOf : cV m_Moor_placeOf := ⟨(gwt4 89 rfl rfl), (gwt4 90 rfl rfl)⟩
def tb_Moor_othersIn : List (Nat × Instr × Nat) := [(0, .iconst 0, 1), (1, .istore 4, 2), (3, .iconst 0, 1), (4, .istore 5, 2), (6, .iload 5, 2), (8, .iload_n 3, 1), (9, .if_icmp .ge 35, 3), (12, .iload 4, 2), (14, .iload 5, 2), (16, .iload_n 2, 1), (17, .if_icmp .eq 17, 3), (20, .aload_n 0, 1), (21, .iload 5, 2), (23, .invokevirtual 60, 3), (26, .iload_n 1, 1), (27, .if_icmp .ne 7, 3), (30, .iconst 1, 1), (31, .goto 4, 3), (34, .iconst 0, 1), (35, .iadd, 1), (36, .istore 4, 2), (38, .iinc 5 1, 3), (41, .goto (-35), 3), (44, .iload 4, 2), (46, .ireturn, 1)]
def m_Moor_othersIn : AM := (8, ⟨"HeathForks$Moor", "othersIn", "(III)I"⟩, prog_8_method_5_code, tb_Moor_othersIn, 6, some .int, 1)
theorem tk_Moor_othersIn : tabOk prog_8_method_5_code tb_Moor_othersIn := by unfold tabOk; decide +kernel
set_option maxRecDepth 20000 in
theorem bb0_Moor_othersIn : cB m_Moor_othersIn 3 := ⟨(gwt1 9 rfl rfl), (gwt4 87 rfl rfl), ⟨by decide, by decide⟩, by decide +kernel, by decide⟩
theorem bb_Moor_othersIn : cB m_Moor_othersIn 3 := bb0_Moor_othersIn
set_option maxRecDepth 20000 in
theorem vv_Moor_othersIn : cV m_Moor_othersIn := ⟨(gwt4 85 rfl rfl), (gwt4 86 rfl rfl)⟩
def tb_HF_tellLetters : List (Nat × Instr × Nat) := [(0, .aload_n 0, 1), (1, .getfield 90, 3), (4, .iload_n 3, 1), (5, .aload_n 1, 1), (6, .getfield 157, 3), (9, .invokevirtual 160, 3), (12, .istore 4, 2), (14, .aload_n 0, 1), (15, .getfield 90, 3), (18, .iload_n 3, 1), (19, .invokevirtual 164, 3), (22, .istore 5, 2), (24, .aload_n 0, 1), (25, .getfield 49, 3), (28, .iconst 0, 1), (29, .iload 4, 2), (31, .iconst (-1), 1), (32, .if_icmp .ne 8, 3), (35, .bipush 99, 2), (37, .goto 5, 3), (40, .iload 4, 2), (42, .iastore, 1), (43, .aload_n 0, 1), (44, .getfield 49, 3), (47, .iconst 1, 1), (48, .aload_n 0, 1), (49, .getfield 90, 3), (52, .iload_n 2, 1), (53, .iconst 1, 1), (54, .invokevirtual 196, 3), (57, .iastore, 1), (58, .aload_n 0, 1), (59, .getfield 49, 3), (62, .iconst 2, 1), (63, .iload 5, 2), (65, .iconst (-1), 1), (66, .if_icmp .ne 8, 3), (69, .bipush 99, 2), (71, .goto 5, 3), (74, .iload 5, 2), (76, .iastore, 1), (77, .aload_n 0, 1), (78, .getfield 49, 3), (81, .iconst 3, 1), (82, .aload_n 0, 1), (83, .getfield 90, 3), (86, .iload_n 2, 1), (87, .iconst 3, 1), (88, .invokevirtual 196, 3), (91, .iload_n 3, 1), (92, .if_icmp .ne 7, 3), (95, .iconst 1, 1), (96, .goto 4, 3), (99, .iconst 0, 1), (100, .iastore, 1), (101, .aload_n 0, 1), (102, .getfield 49, 3), (105, .iconst 4, 1), (106, .aload_n 1, 1), (107, .getfield 157, 3), (110, .iastore, 1), (111, .aload_n 0, 1), (112, .getfield 49, 3), (115, .iconst 5, 1), (116, .iconst 1, 1), (117, .aload_n 1, 1), (118, .iload_n 3, 1), (119, .iload_n 2, 1), (120, .aload_n 0, 1), (121, .getfield 90, 3), (124, .getfield 246, 3), (127, .invokevirtual 452, 3), (130, .iadd, 1), (131, .iastore, 1), (132, .return_, 1)]
def m_HF_tellLetters : AM := (0, ⟨"HeathForks", "tellLetters", "(LHeathForks$Moor;II)V"⟩, prog_1_method_64_code, tb_HF_tellLetters, 6, none, 3)
theorem tk_HF_tellLetters : tabOk prog_1_method_64_code tb_HF_tellLetters := by unfold tabOk; decide +kernel
set_option maxRecDepth 20000 in
theorem bb0_HF_tellLetters : cB m_HF_tellLetters 3 := ⟨(gwt1 1 rfl rfl), (gwt4 83 rfl rfl), ⟨by decide, by decide⟩, by decide +kernel, by decide⟩
theorem bb_HF_tellLetters : cB m_HF_tellLetters 3 := bb0_HF_tellLetters
set_option maxRecDepth 20000 in
theorem vv_HF_tellLetters : cV m_HF_tellLetters := ⟨(gwt4 82 rfl rfl), (gw_p 25 rfl rfl)⟩
def tb_Law_pop : List (Nat × Instr × Nat) := [(0, .aload_n 0, 1), (1, .getfield 22, 3), (4, .ifCond .le 15, 3), (7, .aload_n 0, 1), (8, .getfield 22, 3), (11, .aload_n 0, 1), (12, .getfield 15, 3), (15, .arraylength, 1), (16, .if_icmp .le 5, 3), (19, .iconst 0, 1), (20, .ireturn, 1), (21, .aload_n 0, 1), (22, .dup, 1), (23, .getfield 22, 3), (26, .iconst 1, 1), (27, .isub, 1), (28, .putfield 22, 3), (31, .aload_n 0, 1), (32, .getfield 15, 3), (35, .aload_n 0, 1), (36, .getfield 22, 3), (39, .iaload, 1), (40, .ireturn, 1)]
def m_Law_pop : AM := (5, ⟨"HeathForks$Law", "pop", "()I"⟩, prog_6_method_7_code, tb_Law_pop, 1, some .int, 0)
theorem tk_Law_pop : tabOk prog_6_method_7_code tb_Law_pop := by unfold tabOk; decide +kernel
set_option maxRecDepth 20000 in
theorem bb0_Law_pop : cB m_Law_pop 0 := ⟨(gwt1 6 rfl rfl), (gwt4 99 rfl rfl), ⟨by decide, by decide⟩, by decide +kernel, by decide⟩
theorem bb_Law_pop : cB m_Law_pop 0 := bb0_Law_pop
set_option maxRecDepth 20000 in
theorem vv_Law_pop : cV m_Law_pop := ⟨(gwt4 98 rfl rfl), (gw_p 26 rfl rfl)⟩
def tb_Law_push : List (Nat × Instr × Nat) := [(0, .aload_n 0, 1), (1, .getfield 22, 3), (4, .ifCond .lt 35, 3), (7, .aload_n 0, 1), (8, .getfield 22, 3), (11, .aload_n 0, 1), (12, .getfield 15, 3), (15, .arraylength, 1), (16, .if_icmp .ge 23, 3), (19, .aload_n 0, 1), (20, .getfield 15, 3), (23, .aload_n 0, 1), (24, .getfield 22, 3), (27, .iload_n 1, 1), (28, .iastore, 1), (29, .aload_n 0, 1), (30, .dup, 1), (31, .getfield 22, 3), (34, .iconst 1, 1), (35, .iadd, 1), (36, .putfield 22, 3), (39, .return_, 1)]
def m_Law_push : AM := (5, ⟨"HeathForks$Law", "push", "(I)V"⟩, prog_6_method_6_code, tb_Law_push, 2, none, 0)
theorem tk_Law_push : tabOk prog_6_method_6_code tb_Law_push := by unfold tabOk; decide +kernel
set_option maxRecDepth 20000 in
theorem bb0_Law_push : cB m_Law_push 1 := ⟨(gwt1 6 rfl rfl), (gwt4 107 rfl rfl), ⟨by decide, by decide⟩, by decide +kernel, by decide⟩
theorem bb_Law_push : cB m_Law_push 1 := bb0_Law_push
set_option maxRecDepth 20000 in
theorem vv_Law_push : cV m_Law_push := ⟨(gwt4 106 rfl rfl), (gw_p 28 rfl rfl)⟩
def tb_HF_within : List (Nat × Instr × Nat) := [(0, .lload_n 0, 1), (1, .iload_n 2, 1), (2, .i2l, 1), (3, .lcmp, 1), (4, .ifCond .ge 5, 3), (7, .iload_n 2, 1), (8, .ireturn, 1), (9, .lload_n 0, 1), (10, .iload_n 3, 1), (11, .i2l, 1), (12, .lcmp, 1), (13, .ifCond .le 7, 3), (16, .iload_n 3, 1), (17, .goto 5, 3), (20, .lload_n 0, 1), (21, .l2i, 1), (22, .ireturn, 1)]
def m_HF_within : AM := (0, ⟨"HeathForks", "within", "(JII)I"⟩, prog_1_method_55_code, tb_HF_within, 4, some .int, 0)
theorem tk_HF_within : tabOk prog_1_method_55_code tb_HF_within := by unfold tabOk; decide +kernel
set_option maxRecDepth 20000 in
theorem bb0_HF_within : cB m_HF_within 3 := ⟨(gwt1 1 rfl rfl), (gwt4 115 rfl rfl), ⟨by decide, by decide⟩, by decide +kernel, by decide⟩
theorem bb_HF_within : cB m_HF_within 3 := bb0_HF_within
set_option maxRecDepth 20000 in
theorem vv_HF_within : Cond.static (my m_HF_within) ∈ gw := (gwt4 114 rfl rfl)
def tb_Law_joined : List (Nat × Instr × Nat) := [(0, .iload_n 0, 1), (1, .tableswitch 143 (-15) (-7) #[139, 135, 124, 113, 102, 90, 77, 64, 51], 51), (52, .iload_n 1, 1), (53, .i2l, 1), (54, .iload_n 2, 1), (55, .i2l, 1), (56, .ladd, 1), (57, .ldc 41, 2), (59, .ldc 42, 2), (61, .invokestatic 43, 3), (64, .ireturn, 1), (65, .iload_n 1, 1), (66, .i2l, 1), (67, .iload_n 2, 1), (68, .i2l, 1), (69, .lsub, 1), (70, .ldc 41, 2), (72, .ldc 42, 2), (74, .invokestatic 43, 3), (77, .ireturn, 1), (78, .iload_n 1, 1), (79, .i2l, 1), (80, .iload_n 2, 1), (81, .i2l, 1), (82, .lmul, 1), (83, .ldc 41, 2), (85, .ldc 42, 2), (87, .invokestatic 43, 3), (90, .ireturn, 1), (91, .iload_n 2, 1), (92, .ifCond .ne 7, 3), (95, .iconst 0, 1), (96, .goto 6, 3), (99, .iload_n 1, 1), (100, .iload_n 2, 1), (101, .idiv, 1), (102, .ireturn, 1), (103, .iload_n 1, 1), (104, .iload_n 2, 1), (105, .if_icmp .ne 7, 3), (108, .iconst 1, 1), (109, .goto 4, 3), (112, .iconst 0, 1), (113, .ireturn, 1), (114, .iload_n 1, 1), (115, .iload_n 2, 1), (116, .if_icmp .ge 7, 3), (119, .iconst 1, 1), (120, .goto 4, 3), (123, .iconst 0, 1), (124, .ireturn, 1), (125, .iload_n 1, 1), (126, .iload_n 2, 1), (127, .if_icmp .le 7, 3), (130, .iconst 1, 1), (131, .goto 4, 3), (134, .iconst 0, 1), (135, .ireturn, 1), (136, .iload_n 1, 1), (137, .iload_n 2, 1), (138, .iand, 1), (139, .ireturn, 1), (140, .iload_n 1, 1), (141, .iload_n 2, 1), (142, .ior, 1), (143, .ireturn, 1), (144, .iconst 0, 1), (145, .ireturn, 1)]
def m_Law_joined : AM := (5, ⟨"HeathForks$Law", "joined", "(III)I"⟩, prog_6_method_5_code, tb_Law_joined, 3, some .int, 1)
theorem tk_Law_joined : tabOk prog_6_method_5_code tb_Law_joined := by unfold tabOk; decide +kernel
set_option maxRecDepth 20000 in
theorem bb0_Law_joined : cB m_Law_joined 3 := ⟨(gwt1 6 rfl rfl), (gwt4 110 rfl rfl), ⟨by decide, by decide⟩, by decide +kernel, by decide⟩
theorem bb_Law_joined : cB m_Law_joined 3 := bb0_Law_joined
set_option maxRecDepth 20000 in
theorem vv_Law_joined : Cond.static (my m_Law_joined) ∈ gw := (gwt4 109 rfl rfl)
def tb_Law_obey : List (Nat × Instr × Nat) := [(0, .iload_n 1, 1), (1, .ifCond .lt 11, 3), (4, .aload_n 0, 1), (5, .iload_n 1, 1), (6, .invokevirtual 33, 3), (9, .goto 80, 3), (12, .iload_n 1, 1), (13, .bipush (-7), 2), (15, .if_icmp .le 27, 3), (18, .iconst (-1), 1), (19, .iload_n 1, 1), (20, .isub, 1), (21, .istore_n 3, 1), (22, .aload_n 0, 1), (23, .iload_n 3, 1), (24, .aload_n 2, 1), (25, .arraylength, 1), (26, .if_icmp .ge 9, 3), (29, .aload_n 2, 1), (30, .iload_n 3, 1), (31, .iaload, 1), (32, .goto 4, 3), (35, .iconst 0, 1), (36, .invokevirtual 33, 3), (39, .goto 50, 3), (42, .iload_n 1, 1), (43, .bipush (-16), 2), (45, .if_icmp .ne 22, 3), (48, .aload_n 0, 1), (49, .aload_n 0, 1), (50, .invokevirtual 25, 3), (53, .ifCond .ne 7, 3), (56, .iconst 1, 1), (57, .goto 4, 3), (60, .iconst 0, 1), (61, .invokevirtual 33, 3), (64, .goto 25, 3), (67, .aload_n 0, 1), (68, .invokevirtual 25, 3), (71, .istore_n 3, 1), (72, .aload_n 0, 1), (73, .invokevirtual 25, 3), (76, .istore 4, 2), (78, .aload_n 0, 1), (79, .iload_n 1, 1), (80, .iload 4, 2), (82, .iload_n 3, 1), (83, .invokestatic 37, 3), (86, .invokevirtual 33, 3), (89, .return_, 1)]
def m_Law_obey : AM := (5, ⟨"HeathForks$Law", "obey", "(I[I)V"⟩, prog_6_method_4_code, tb_Law_obey, 5, none, 2)
theorem tk_Law_obey : tabOk prog_6_method_4_code tb_Law_obey := by unfold tabOk; decide +kernel
set_option maxRecDepth 20000 in
theorem bb0_Law_obey : cB m_Law_obey 2 := ⟨(gwt1 6 rfl rfl), (gwt4 103 rfl rfl), ⟨by decide, by decide⟩, by decide +kernel, by decide⟩
theorem bb_Law_obey : cB m_Law_obey 2 := bb0_Law_obey
set_option maxRecDepth 20000 in
theorem vv_Law_obey : cV m_Law_obey := ⟨(gwt4 102 rfl rfl), (gw_p 27 rfl rfl)⟩
def tb_Law_worth : List (Nat × Instr × Nat) := [(0, .iconst 0, 1), (1, .istore_n 2, 1), (2, .aload_n 0, 1), (3, .iconst 0, 1), (4, .putfield 22, 3), (7, .iconst 0, 1), (8, .istore_n 3, 1), (9, .iload_n 3, 1), (10, .aload_n 0, 1), (11, .getfield 18, 3), (14, .if_icmp .ge 81, 3), (17, .iload_n 3, 1), (18, .aload_n 0, 1), (19, .getfield 9, 3), (22, .arraylength, 1), (23, .if_icmp .ge 72, 3), (26, .aload_n 0, 1), (27, .getfield 9, 3), (30, .iload_n 3, 1), (31, .iaload, 1), (32, .istore 4, 2), (34, .iload 4, 2), (36, .bipush (-18), 2), (38, .if_icmp .ne 17, 3), (41, .iload_n 2, 1), (42, .ifCond .ne 8, 3), (45, .aload_n 0, 1), (46, .invokevirtual 25, 3), (49, .ireturn, 1), (50, .iconst 0, 1), (51, .istore_n 2, 1), (52, .goto 37, 3), (55, .iload 4, 2), (57, .bipush (-17), 2), (59, .if_icmp .ne 19, 3), (62, .aload_n 0, 1), (63, .invokevirtual 25, 3), (66, .ifCond .ne 7, 3), (69, .iconst 1, 1), (70, .goto 4, 3), (73, .iconst 0, 1), (74, .istore_n 2, 1), (75, .goto 14, 3), (78, .iload_n 2, 1), (79, .ifCond .ne 10, 3), (82, .aload_n 0, 1), (83, .iload 4, 2), (85, .aload_n 1, 1), (86, .invokevirtual 29, 3), (89, .iinc 3 1, 3), (92, .goto (-83), 3), (95, .iconst 0, 1), (96, .ireturn, 1)]
def m_Law_worth : AM := (5, ⟨"HeathForks$Law", "worth", "([I)I"⟩, prog_6_method_3_code, tb_Law_worth, 5, some .int, 3)
theorem tk_Law_worth : tabOk prog_6_method_3_code tb_Law_worth := by unfold tabOk; decide +kernel
set_option maxRecDepth 20000 in
theorem bb0_Law_worth : cB m_Law_worth 1 := ⟨(gwt1 6 rfl rfl), (gwt4 95 rfl rfl), ⟨by decide, by decide⟩, by decide +kernel, by decide⟩
theorem bb_Law_worth : cB m_Law_worth 1 := bb0_Law_worth
set_option maxRecDepth 20000 in
theorem vv_Law_worth : cV m_Law_worth := ⟨(gwt4 93 rfl rfl), (gwt4 94 rfl rfl)⟩
def tb_HF_twitchIn : List (Nat × Instr × Nat) := [(0, .aload_n 0, 1), (1, .getfield 101, 3), (4, .ifCond .lt 15, 3), (7, .aload_n 0, 1), (8, .getfield 101, 3), (11, .aload_n 0, 1), (12, .getfield 39, 3), (15, .arraylength, 1), (16, .if_icmp .lt 11, 3), (19, .aload_n 0, 1), (20, .aload_n 1, 1), (21, .iload_n 2, 1), (22, .iload_n 3, 1), (23, .invokevirtual 432, 3), (26, .ireturn, 1), (27, .aload_n 0, 1), (28, .aload_n 1, 1), (29, .iload_n 2, 1), (30, .iload_n 3, 1), (31, .invokevirtual 435, 3), (34, .aload_n 0, 1), (35, .getfield 39, 3), (38, .aload_n 0, 1), (39, .getfield 101, 3), (42, .aaload, 1), (43, .aload_n 0, 1), (44, .getfield 49, 3), (47, .invokevirtual 439, 3), (50, .i2l, 1), (51, .iconst 0, 1), (52, .bipush 99, 2), (54, .invokestatic 443, 3), (57, .ireturn, 1)]
def m_HF_twitchIn : AM := (0, ⟨"HeathForks", "twitchIn", "(LHeathForks$Moor;II)I"⟩, prog_1_method_62_code, tb_HF_twitchIn, 4, some .int, 4)
theorem tk_HF_twitchIn : tabOk prog_1_method_62_code tb_HF_twitchIn := by unfold tabOk; decide +kernel
set_option maxRecDepth 20000 in
theorem bb0_HF_twitchIn : cB m_HF_twitchIn 3 := ⟨(gwt1 1 rfl rfl), (gwt4 73 rfl rfl), ⟨by decide, by decide⟩, by decide +kernel, by decide⟩
theorem bb_HF_twitchIn : cB m_HF_twitchIn 3 := bb0_HF_twitchIn
set_option maxRecDepth 20000 in
theorem vv_HF_twitchIn : cV m_HF_twitchIn := ⟨(gwt4 72 rfl rfl), (gw_p 23 rfl rfl)⟩
def tb_HF_twitch : List (Nat × Instr × Nat) := [(0, .aload_n 0, 1), (1, .getfield 90, 3), (4, .iload_n 1, 1), (5, .invokevirtual 180, 3), (8, .ifCond .eq 14, 3), (11, .aload_n 0, 1), (12, .getfield 90, 3), (15, .iload_n 2, 1), (16, .invokevirtual 153, 3), (19, .ifCond .ne 5, 3), (22, .iconst (-1), 1), (23, .ireturn, 1), (24, .aload_n 0, 1), (25, .aload_n 0, 1), (26, .getfield 56, 3), (29, .iload_n 1, 1), (30, .iload_n 2, 1), (31, .invokevirtual 199, 3), (34, .ireturn, 1)]
def m_HF_twitch : AM := (0, ⟨"HeathForks", "twitch", "(II)I"⟩, prog_1_method_10_code, tb_HF_twitch, 3, some .int, 5)
theorem tk_HF_twitch : tabOk prog_1_method_10_code tb_HF_twitch := by unfold tabOk; decide +kernel
set_option maxRecDepth 20000 in
theorem bb0_HF_twitch : cB m_HF_twitch 2 := ⟨(gwt1 1 rfl rfl), (gwt4 68 rfl rfl), ⟨by decide, by decide⟩, by decide +kernel, by decide⟩
theorem bb_HF_twitch : cB m_HF_twitch 2 := bb0_HF_twitch
set_option maxRecDepth 20000 in
theorem vv_HF_twitch : cV m_HF_twitch := ⟨(gwt4 66 rfl rfl), (gwt4 67 rfl rfl)⟩
def tb_Moor_trailOf : List (Nat × Instr × Nat) := [(0, .iload_n 1, 1), (1, .ifCond .eq 8, 3), (4, .iload_n 1, 1), (5, .iconst 1, 1), (6, .if_icmp .ne 12, 3), (9, .aload_n 0, 1), (10, .getfield 18, 3), (13, .iload_n 1, 1), (14, .iaload, 1), (15, .goto 4, 3), (18, .iconst 0, 1), (19, .ireturn, 1)]
def m_Moor_trailOf : AM := (8, ⟨"HeathForks$Moor", "trailOf", "(I)I"⟩, prog_8_method_6_code, tb_Moor_trailOf, 2, some .int, 0)
theorem tk_Moor_trailOf : tabOk prog_8_method_6_code tb_Moor_trailOf := by unfold tabOk; decide +kernel
set_option maxRecDepth 20000 in
theorem bb0_Moor_trailOf : cB m_Moor_trailOf 1 := ⟨(gwt1 9 rfl rfl), (gwt4 130 rfl rfl), ⟨by decide, by decide⟩, by decide +kernel, by decide⟩
theorem bb_Moor_trailOf : cB m_Moor_trailOf 1 := bb0_Moor_trailOf
set_option maxRecDepth 20000 in
theorem vv_Moor_trailOf : cV m_Moor_trailOf := ⟨(gwt4 128 rfl rfl), (gwt4 129 rfl rfl)⟩
def tb_HF_goal : List (Nat × Instr × Nat) := [(0, .aload_n 0, 1), (1, .getfield 90, 3), (4, .iload_n 2, 1), (5, .invokevirtual 180, 3), (8, .ifCond .ne 5, 3), (11, .iconst (-1), 1), (12, .ireturn, 1), (13, .aload_n 0, 1), (14, .getfield 90, 3), (17, .aload_n 1, 1), (18, .iload_n 2, 1), (19, .invokevirtual 190, 3), (22, .iload_n 3, 1), (23, .invokevirtual 423, 3), (26, .istore 4, 2), (28, .iload 4, 2), (30, .iconst (-1), 1), (31, .if_icmp .eq 26, 3), (34, .aload_n 1, 1), (35, .iconst 1, 1), (36, .aload_n 0, 1), (37, .getfield 90, 3), (40, .iload_n 2, 1), (41, .iconst 5, 1), (42, .invokevirtual 196, 3), (45, .isub, 1), (46, .invokevirtual 336, 3), (49, .iload 4, 2), (51, .invokestatic 173, 3), (54, .ifCond .eq 5, 3), (57, .iconst (-1), 1), (58, .ireturn, 1), (59, .iload 4, 2), (61, .ireturn, 1)]
def m_HF_goal : AM := (0, ⟨"HeathForks", "goal", "(LHeathForks$Moor;II)I"⟩, prog_1_method_59_code, tb_HF_goal, 5, some .int, 2)
theorem tk_HF_goal : tabOk prog_1_method_59_code tb_HF_goal := by unfold tabOk; decide +kernel
set_option maxRecDepth 20000 in
theorem bb0_HF_goal : cB m_HF_goal 3 := ⟨(gwt1 1 rfl rfl), (gwt4 124 rfl rfl), ⟨by decide, by decide⟩, by decide +kernel, by decide⟩
theorem bb_HF_goal : cB m_HF_goal 3 := bb0_HF_goal
set_option maxRecDepth 20000 in
theorem vv_HF_goal : cV m_HF_goal := ⟨(gwt4 123 rfl rfl), (gw_p 29 rfl rfl)⟩
def tb_Acts_add : List (Nat × Instr × Nat) := [(0, .aload_n 0, 1), (1, .getfield 19, 3), (4, .iconst 4, 1), (5, .imul, 1), (6, .istore 5, 2), (8, .iload 5, 2), (10, .ifCond .lt 84, 3), (13, .iload 5, 2), (15, .iconst 3, 1), (16, .iadd, 1), (17, .aload_n 0, 1), (18, .getfield 11, 3), (21, .arraylength, 1), (22, .if_icmp .ge 72, 3), (25, .aload_n 0, 1), (26, .getfield 11, 3), (29, .iload 5, 2), (31, .iconst 0, 1), (32, .iadd, 1), (33, .iload_n 1, 1), (34, .iastore, 1), (35, .aload_n 0, 1), (36, .getfield 11, 3), (39, .iload 5, 2), (41, .iconst 1, 1), (42, .iadd, 1), (43, .iload_n 2, 1), (44, .iastore, 1), (45, .aload_n 0, 1), (46, .getfield 11, 3), (49, .iload 5, 2), (51, .iconst 2, 1), (52, .iadd, 1), (53, .iload_n 3, 1), (54, .iastore, 1), (55, .aload_n 0, 1), (56, .getfield 11, 3), (59, .iload 5, 2), (61, .iconst 3, 1), (62, .iadd, 1), (63, .iload 4, 2), (65, .iastore, 1), (66, .aload_n 0, 1), (67, .aload_n 0, 1), (68, .getfield 19, 3), (71, .iconst 1, 1), (72, .iadd, 1), (73, .bipush 40, 2), (75, .irem, 1), (76, .putfield 19, 3), (79, .aload_n 0, 1), (80, .aload_n 0, 1), (81, .getfield 15, 3), (84, .iconst 1, 1), (85, .iadd, 1), (86, .bipush 40, 2), (88, .invokestatic 22, 3), (91, .putfield 15, 3), (94, .return_, 1)]
def m_Acts_add : AM := (9, ⟨"HeathForks$Acts", "add", "(IIII)V"⟩, prog_2_method_3_code, tb_Acts_add, 6, none, 2)
theorem tk_Acts_add : tabOk prog_2_method_3_code tb_Acts_add := by unfold tabOk; decide +kernel
set_option maxRecDepth 20000 in
theorem bb0_Acts_add : cB m_Acts_add 4 := ⟨(gwt1 10 rfl rfl), (gwt4 138 rfl rfl), ⟨by decide, by decide⟩, by decide +kernel, by decide⟩
theorem bb_Acts_add : cB m_Acts_add 4 := bb0_Acts_add
set_option maxRecDepth 20000 in
theorem vv_Acts_add : cV m_Acts_add := ⟨(gwt4 136 rfl rfl), (gwt4 137 rfl rfl)⟩
def tb_Moor_write : List (Nat × Instr × Nat) := [(0, .aload_n 0, 1), (1, .getfield 27, 3), (4, .bipush 100, 2), (6, .irem, 1), (7, .istore 4, 2), (9, .iload 4, 2), (11, .ifCond .lt 31, 3), (14, .aload_n 0, 1), (15, .getfield 21, 3), (18, .iload 4, 2), (20, .iload_n 1, 1), (21, .bipush 100, 2), (23, .imul, 1), (24, .iload_n 2, 1), (25, .iadd, 1), (26, .bipush 100, 2), (28, .imul, 1), (29, .iload_n 3, 1), (30, .iadd, 1), (31, .iastore, 1), (32, .aload_n 0, 1), (33, .dup, 1), (34, .getfield 27, 3), (37, .iconst 1, 1), (38, .iadd, 1), (39, .putfield 27, 3), (42, .return_, 1)]
def m_Moor_write : AM := (8, ⟨"HeathForks$Moor", "write", "(III)V"⟩, prog_8_method_9_code, tb_Moor_write, 5, none, 0)
theorem tk_Moor_write : tabOk prog_8_method_9_code tb_Moor_write := by unfold tabOk; decide +kernel
set_option maxRecDepth 20000 in
theorem bb0_Moor_write : cB m_Moor_write 3 := ⟨(gwt1 9 rfl rfl), (gwt4 144 rfl rfl), ⟨by decide, by decide⟩, by decide +kernel, by decide⟩
theorem bb_Moor_write : cB m_Moor_write 3 := bb0_Moor_write
set_option maxRecDepth 20000 in
theorem vv_Moor_write : cV m_Moor_write := ⟨(gwt4 142 rfl rfl), (gwt4 143 rfl rfl)⟩
def tb_HF_stepTo : List (Nat × Instr × Nat) := [(0, .aload_n 0, 1), (1, .getfield 90, 3), (4, .iload_n 1, 1), (5, .iconst 5, 1), (6, .invokevirtual 196, 3), (9, .istore 4, 2), (11, .aload_n 0, 1), (12, .getfield 69, 3), (15, .iconst 0, 1), (16, .iload_n 1, 1), (17, .aload_n 0, 1), (18, .getfield 56, 3), (21, .iload_n 1, 1), (22, .invokevirtual 190, 3), (25, .aload_n 0, 1), (26, .getfield 56, 3), (29, .iload 4, 2), (31, .invokevirtual 336, 3), (34, .invokevirtual 227, 3), (37, .aload_n 0, 1), (38, .getfield 56, 3), (41, .iload_n 1, 1), (42, .iload_n 2, 1), (43, .iload 4, 2), (45, .invokevirtual 298, 3), (48, .aload_n 0, 1), (49, .aload_n 0, 1), (50, .getfield 56, 3), (53, .iload_n 1, 1), (54, .iload_n 2, 1), (55, .invokevirtual 199, 3), (58, .istore 5, 2), (60, .iload_n 3, 1), (61, .ifCond .eq 15, 3), (64, .iload 5, 2), (66, .ifCond .le 7, 3), (69, .iconst 0, 1), (70, .goto 4, 3), (73, .iconst 1, 1), (74, .istore 5, 2), (76, .aload_n 0, 1), (77, .getfield 56, 3), (80, .iload_n 1, 1), (81, .iload_n 2, 1), (82, .iload 5, 2), (84, .invokevirtual 426, 3), (87, .iload 5, 2), (89, .ireturn, 1)]
def m_HF_stepTo : AM := (0, ⟨"HeathForks", "stepTo", "(IIZ)I"⟩, prog_1_method_60_code, tb_HF_stepTo, 6, some .int, 5)
theorem tk_HF_stepTo : tabOk prog_1_method_60_code tb_HF_stepTo := by unfold tabOk; decide +kernel
set_option maxRecDepth 20000 in
theorem bb0_HF_stepTo : cB m_HF_stepTo 3 := ⟨(gwt1 1 rfl rfl), (gwt4 134 rfl rfl), ⟨by decide, by decide⟩, by decide +kernel, by decide⟩
theorem bb_HF_stepTo : cB m_HF_stepTo 3 := bb0_HF_stepTo
set_option maxRecDepth 20000 in
theorem vv_HF_stepTo : cV m_HF_stepTo := ⟨(gwt4 133 rfl rfl), (gw_p 30 rfl rfl)⟩
def tb_HF_go : List (Nat × Instr × Nat) := [(0, .aload_n 0, 1), (1, .aload_n 0, 1), (2, .getfield 56, 3), (5, .iload_n 1, 1), (6, .iload_n 2, 1), (7, .invokevirtual 203, 3), (10, .istore_n 3, 1), (11, .iload_n 3, 1), (12, .iconst (-1), 1), (13, .if_icmp .ne 7, 3), (16, .iconst (-1), 1), (17, .goto 10, 3), (20, .aload_n 0, 1), (21, .iload_n 1, 1), (22, .iload_n 3, 1), (23, .iconst 0, 1), (24, .invokevirtual 206, 3), (27, .ireturn, 1)]
def m_HF_go : AM := (0, ⟨"HeathForks", "go", "(II)I"⟩, prog_1_method_11_code, tb_HF_go, 4, some .int, 6)
theorem tk_HF_go : tabOk prog_1_method_11_code tb_HF_go := by unfold tabOk; decide +kernel
set_option maxRecDepth 20000 in
theorem bb0_HF_go : cB m_HF_go 2 := ⟨(gwt1 1 rfl rfl), (gwt4 120 rfl rfl), ⟨by decide, by decide⟩, by decide +kernel, by decide⟩
theorem bb_HF_go : cB m_HF_go 2 := bb0_HF_go
set_option maxRecDepth 20000 in
theorem vv_HF_go : cV m_HF_go := ⟨(gwt4 118 rfl rfl), (gwt4 119 rfl rfl)⟩
def tb_HF_canSink : List (Nat × Instr × Nat) := [(0, .aload_n 0, 1), (1, .getfield 90, 3), (4, .iload_n 1, 1), (5, .invokevirtual 153, 3), (8, .ifCond .eq 21, 3), (11, .aload_n 0, 1), (12, .getfield 56, 3), (15, .getfield 170, 3), (18, .iload_n 1, 1), (19, .invokestatic 173, 3), (22, .ifCond .ne 7, 3), (25, .iconst 1, 1), (26, .goto 4, 3), (29, .iconst 0, 1), (30, .ireturn, 1)]
def m_HF_canSink : AM := (0, ⟨"HeathForks", "canSink", "(I)Z"⟩, prog_1_method_52_code, tb_HF_canSink, 2, some .boolean, 1)
theorem tk_HF_canSink : tabOk prog_1_method_52_code tb_HF_canSink := by unfold tabOk; decide +kernel
set_option maxRecDepth 20000 in
theorem bb0_HF_canSink : cB m_HF_canSink 1 := ⟨(gwt1 1 rfl rfl), (gwt4 152 rfl rfl), ⟨by decide, by decide⟩, by decide +kernel, by decide⟩
theorem bb_HF_canSink : cB m_HF_canSink 1 := bb0_HF_canSink
set_option maxRecDepth 20000 in
theorem vv_HF_canSink : cV m_HF_canSink := ⟨(gwt4 151 rfl rfl), (gw_p 31 rfl rfl)⟩
def tb_HF_isWet : List (Nat × Instr × Nat) := [(0, .aload_n 0, 1), (1, .getfield 90, 3), (4, .iload_n 1, 1), (5, .aload_n 0, 1), (6, .getfield 56, 3), (9, .getfield 157, 3), (12, .invokevirtual 160, 3), (15, .istore_n 2, 1), (16, .iload_n 2, 1), (17, .iconst (-1), 1), (18, .if_icmp .eq 13, 3), (21, .iload_n 2, 1), (22, .bipush 60, 2), (24, .if_icmp .gt 7, 3), (27, .iconst 1, 1), (28, .goto 4, 3), (31, .iconst 0, 1), (32, .ireturn, 1)]
def m_HF_isWet : AM := (0, ⟨"HeathForks", "isWet", "(I)Z"⟩, prog_1_method_65_code, tb_HF_isWet, 3, some .boolean, 3)
theorem tk_HF_isWet : tabOk prog_1_method_65_code tb_HF_isWet := by unfold tabOk; decide +kernel
set_option maxRecDepth 20000 in
theorem bb0_HF_isWet : cB m_HF_isWet 1 := ⟨(gwt1 1 rfl rfl), (gwt4 164 rfl rfl), ⟨by decide, by decide⟩, by decide +kernel, by decide⟩
theorem bb_HF_isWet : cB m_HF_isWet 1 := bb0_HF_isWet
set_option maxRecDepth 20000 in
theorem vv_HF_isWet : cV m_HF_isWet := ⟨(gwt4 163 rfl rfl), (gw_p 34 rfl rfl)⟩
def tb_HF_wellDepth : List (Nat × Instr × Nat) := [(0, .aload_n 0, 1), (1, .iload_n 1, 1), (2, .invokevirtual 216, 3), (5, .ifCond .eq 21, 3), (8, .aload_n 0, 1), (9, .getfield 90, 3), (12, .iload_n 1, 1), (13, .aload_n 0, 1), (14, .getfield 56, 3), (17, .getfield 157, 3), (20, .invokevirtual 160, 3), (23, .goto 5, 3), (26, .bipush 60, 2), (28, .ireturn, 1)]
def m_HF_wellDepth : AM := (0, ⟨"HeathForks", "wellDepth", "(I)I"⟩, prog_1_method_66_code, tb_HF_wellDepth, 2, some .int, 4)
theorem tk_HF_wellDepth : tabOk prog_1_method_66_code tb_HF_wellDepth := by unfold tabOk; decide +kernel
set_option maxRecDepth 20000 in
theorem bb0_HF_wellDepth : cB m_HF_wellDepth 1 := ⟨(gwt1 1 rfl rfl), (gwt4 160 rfl rfl), ⟨by decide, by decide⟩, by decide +kernel, by decide⟩
theorem bb_HF_wellDepth : cB m_HF_wellDepth 1 := bb0_HF_wellDepth
set_option maxRecDepth 20000 in
theorem vv_HF_wellDepth : cV m_HF_wellDepth := ⟨(gwt4 159 rfl rfl), (gw_p 33 rfl rfl)⟩
def tb_HF_footPrice : List (Nat × Instr × Nat) := [(0, .aload_n 0, 1), (1, .getfield 90, 3), (4, .getfield 150, 3), (7, .aload_n 0, 1), (8, .getfield 90, 3), (11, .iload_n 1, 1), (12, .invokevirtual 167, 3), (15, .iadd, 1), (16, .ireturn, 1)]
def m_HF_footPrice : AM := (0, ⟨"HeathForks", "footPrice", "(I)I"⟩, prog_1_method_67_code, tb_HF_footPrice, 2, some .int, 2)
theorem tk_HF_footPrice : tabOk prog_1_method_67_code tb_HF_footPrice := by unfold tabOk; decide +kernel
set_option maxRecDepth 20000 in
theorem bb0_HF_footPrice : cB m_HF_footPrice 1 := ⟨(gwt1 1 rfl rfl), (gwt4 168 rfl rfl), ⟨by decide, by decide⟩, by decide +kernel, by decide⟩
theorem bb_HF_footPrice : cB m_HF_footPrice 1 := bb0_HF_footPrice
set_option maxRecDepth 20000 in
theorem vv_HF_footPrice : cV m_HF_footPrice := ⟨(gwt4 167 rfl rfl), (gw_p 35 rfl rfl)⟩
def tb_HF_priceNow : List (Nat × Instr × Nat) := [(0, .aload_n 0, 1), (1, .iload_n 1, 1), (2, .invokevirtual 231, 3), (5, .aload_n 0, 1), (6, .iload_n 1, 1), (7, .invokevirtual 265, 3), (10, .imul, 1), (11, .ireturn, 1)]
def m_HF_priceNow : AM := (0, ⟨"HeathForks", "priceNow", "(I)I"⟩, prog_1_method_68_code, tb_HF_priceNow, 2, some .int, 5)
theorem tk_HF_priceNow : tabOk prog_1_method_68_code tb_HF_priceNow := by unfold tabOk; decide +kernel
set_option maxRecDepth 20000 in
theorem bb0_HF_priceNow : cB m_HF_priceNow 1 := ⟨(gwt1 1 rfl rfl), (gwt4 156 rfl rfl), ⟨by decide, by decide⟩, by decide +kernel, by decide⟩
theorem bb_HF_priceNow : cB m_HF_priceNow 1 := bb0_HF_priceNow
set_option maxRecDepth 20000 in
theorem vv_HF_priceNow : cV m_HF_priceNow := ⟨(gwt4 155 rfl rfl), (gw_p 32 rfl rfl)⟩
def tb_Moor_bookLength : List (Nat × Instr × Nat) := [(0, .aload_n 0, 1), (1, .getfield 27, 3), (4, .bipush 60, 2), (6, .invokestatic 72, 3), (9, .ireturn, 1)]
def m_Moor_bookLength : AM := (8, ⟨"HeathForks$Moor", "bookLength", "()I"⟩, prog_8_method_10_code, tb_Moor_bookLength, 1, some .int, 2)
theorem tk_Moor_bookLength : tabOk prog_8_method_10_code tb_Moor_bookLength := by unfold tabOk; decide +kernel
set_option maxRecDepth 20000 in
theorem bb0_Moor_bookLength : cB m_Moor_bookLength 0 := ⟨(gwt1 9 rfl rfl), (gwt4 176 rfl rfl), ⟨by decide, by decide⟩, by decide +kernel, by decide⟩
theorem bb_Moor_bookLength : cB m_Moor_bookLength 0 := bb0_Moor_bookLength
set_option maxRecDepth 20000 in
theorem vv_Moor_bookLength : cV m_Moor_bookLength := ⟨(gwt4 174 rfl rfl), (gwt4 175 rfl rfl)⟩
def tb_Moor_pageAt : List (Nat × Instr × Nat) := [(0, .aload_n 0, 1), (1, .getfield 27, 3), (4, .iconst 1, 1), (5, .isub, 1), (6, .iload_n 1, 1), (7, .isub, 1), (8, .bipush 100, 2), (10, .irem, 1), (11, .istore_n 2, 1), (12, .iload_n 2, 1), (13, .ifCond .lt 12, 3), (16, .aload_n 0, 1), (17, .getfield 21, 3), (20, .iload_n 2, 1), (21, .iaload, 1), (22, .goto 4, 3), (25, .iconst 0, 1), (26, .ireturn, 1)]
def m_Moor_pageAt : AM := (8, ⟨"HeathForks$Moor", "pageAt", "(I)I"⟩, prog_8_method_11_code, tb_Moor_pageAt, 3, some .int, 0)
theorem tk_Moor_pageAt : tabOk prog_8_method_11_code tb_Moor_pageAt := by unfold tabOk; decide +kernel
set_option maxRecDepth 20000 in
theorem bb0_Moor_pageAt : cB m_Moor_pageAt 1 := ⟨(gwt1 9 rfl rfl), (gwt4 185 rfl rfl), ⟨by decide, by decide⟩, by decide +kernel, by decide⟩
theorem bb_Moor_pageAt : cB m_Moor_pageAt 1 := bb0_Moor_pageAt
set_option maxRecDepth 20000 in
theorem vv_Moor_pageAt : cV m_Moor_pageAt := ⟨(gwt4 184 rfl rfl), (gw_p 36 rfl rfl)⟩
def tb_Moor_cellOn : List (Nat × Instr × Nat) := [(0, .aload_n 0, 1), (1, .iload_n 1, 1), (2, .invokevirtual 75, 3), (5, .bipush 100, 2), (7, .idiv, 1), (8, .bipush 100, 2), (10, .irem, 1), (11, .ireturn, 1)]
def m_Moor_cellOn : AM := (8, ⟨"HeathForks$Moor", "cellOn", "(I)I"⟩, prog_8_method_13_code, tb_Moor_cellOn, 2, some .int, 1)
theorem tk_Moor_cellOn : tabOk prog_8_method_13_code tb_Moor_cellOn := by unfold tabOk; decide +kernel
set_option maxRecDepth 20000 in
theorem bb0_Moor_cellOn : cB m_Moor_cellOn 1 := ⟨(gwt1 9 rfl rfl), (gwt4 181 rfl rfl), ⟨by decide, by decide⟩, by decide +kernel, by decide⟩
theorem bb_Moor_cellOn : cB m_Moor_cellOn 1 := bb0_Moor_cellOn
set_option maxRecDepth 20000 in
theorem vv_Moor_cellOn : cV m_Moor_cellOn := ⟨(gwt4 179 rfl rfl), (gwt4 180 rfl rfl)⟩
def tb_Moor_twitchOn : List (Nat × Instr × Nat) := [(0, .aload_n 0, 1), (1, .iload_n 1, 1), (2, .invokevirtual 75, 3), (5, .bipush 100, 2), (7, .irem, 1), (8, .ireturn, 1)]
def m_Moor_twitchOn : AM := (8, ⟨"HeathForks$Moor", "twitchOn", "(I)I"⟩, prog_8_method_14_code, tb_Moor_twitchOn, 2, some .int, 1)
theorem tk_Moor_twitchOn : tabOk prog_8_method_14_code tb_Moor_twitchOn := by unfold tabOk; decide +kernel
set_option maxRecDepth 20000 in
theorem bb0_Moor_twitchOn : cB m_Moor_twitchOn 1 := ⟨(gwt1 9 rfl rfl), (gwt4 189 rfl rfl), ⟨by decide, by decide⟩, by decide +kernel, by decide⟩
theorem bb_Moor_twitchOn : cB m_Moor_twitchOn 1 := bb0_Moor_twitchOn
set_option maxRecDepth 20000 in
theorem vv_Moor_twitchOn : cV m_Moor_twitchOn := ⟨(gwt4 187 rfl rfl), (gwt4 188 rfl rfl)⟩
def tb_Moor_forkOn : List (Nat × Instr × Nat) := [(0, .aload_n 0, 1), (1, .iload_n 1, 1), (2, .invokevirtual 75, 3), (5, .sipush 10000, 3), (8, .idiv, 1), (9, .ireturn, 1)]
def m_Moor_forkOn : AM := (8, ⟨"HeathForks$Moor", "forkOn", "(I)I"⟩, prog_8_method_12_code, tb_Moor_forkOn, 2, some .int, 1)
theorem tk_Moor_forkOn : tabOk prog_8_method_12_code tb_Moor_forkOn := by unfold tabOk; decide +kernel
set_option maxRecDepth 20000 in
theorem bb0_Moor_forkOn : cB m_Moor_forkOn 1 := ⟨(gwt1 9 rfl rfl), (gwt4 193 rfl rfl), ⟨by decide, by decide⟩, by decide +kernel, by decide⟩
theorem bb_Moor_forkOn : cB m_Moor_forkOn 1 := bb0_Moor_forkOn
set_option maxRecDepth 20000 in
theorem vv_Moor_forkOn : cV m_Moor_forkOn := ⟨(gwt4 191 rfl rfl), (gwt4 192 rfl rfl)⟩
def tb_Moor_twitchersIn : List (Nat × Instr × Nat) := [(0, .iconst 0, 1), (1, .istore_n 2, 1), (2, .iconst 0, 1), (3, .istore_n 3, 1), (4, .iload_n 3, 1), (5, .aload_n 0, 1), (6, .invokevirtual 78, 3), (9, .if_icmp .ge 37, 3), (12, .aload_n 0, 1), (13, .iload_n 3, 1), (14, .invokevirtual 82, 3), (17, .iload_n 1, 1), (18, .if_icmp .ne 22, 3), (21, .aload_n 0, 1), (22, .iload_n 3, 1), (23, .invokevirtual 85, 3), (26, .ifCond .le 14, 3), (29, .iload_n 2, 1), (30, .aload_n 0, 1), (31, .iload_n 3, 1), (32, .invokevirtual 88, 3), (35, .invokestatic 64, 3), (38, .ior, 1), (39, .istore_n 2, 1), (40, .iinc 3 1, 3), (43, .goto (-39), 3), (46, .iload_n 2, 1), (47, .ireturn, 1)]
def m_Moor_twitchersIn : AM := (8, ⟨"HeathForks$Moor", "twitchersIn", "(I)I"⟩, prog_8_method_15_code, tb_Moor_twitchersIn, 4, some .int, 3)
theorem tk_Moor_twitchersIn : tabOk prog_8_method_15_code tb_Moor_twitchersIn := by unfold tabOk; decide +kernel
set_option maxRecDepth 20000 in
theorem bb0_Moor_twitchersIn : cB m_Moor_twitchersIn 1 := ⟨(gwt1 9 rfl rfl), (gwt4 172 rfl rfl), ⟨by decide, by decide⟩, by decide +kernel, by decide⟩
theorem bb_Moor_twitchersIn : cB m_Moor_twitchersIn 1 := bb0_Moor_twitchersIn
set_option maxRecDepth 20000 in
theorem vv_Moor_twitchersIn : cV m_Moor_twitchersIn := ⟨(gwt4 170 rfl rfl), (gwt4 171 rfl rfl)⟩
def tb_Int_bitCount : List (Nat × Instr × Nat) := [(0, .iload_n 0, 1), (1, .iload_n 0, 1), (2, .iconst 1, 1), (3, .iushr, 1), (4, .ldc_w 265, 3), (7, .iand, 1), (8, .isub, 1), (9, .istore_n 0, 1), (10, .iload_n 0, 1), (11, .ldc_w 266, 3), (14, .iand, 1), (15, .iload_n 0, 1), (16, .iconst 2, 1), (17, .iushr, 1), (18, .ldc_w 266, 3), (21, .iand, 1), (22, .iadd, 1), (23, .istore_n 0, 1), (24, .iload_n 0, 1), (25, .iload_n 0, 1), (26, .iconst 4, 1), (27, .iushr, 1), (28, .iadd, 1), (29, .ldc_w 267, 3), (32, .iand, 1), (33, .istore_n 0, 1), (34, .iload_n 0, 1), (35, .iload_n 0, 1), (36, .bipush 8, 2), (38, .iushr, 1), (39, .iadd, 1), (40, .istore_n 0, 1), (41, .iload_n 0, 1), (42, .iload_n 0, 1), (43, .bipush 16, 2), (45, .iushr, 1), (46, .iadd, 1), (47, .istore_n 0, 1), (48, .iload_n 0, 1), (49, .bipush 63, 2), (51, .iand, 1), (52, .ireturn, 1)]
def m_Int_bitCount : AM := (16, ⟨"java/lang/Integer", "bitCount", "(I)I"⟩, prog_20_method_49_code, tb_Int_bitCount, 1, some .int, 0)
theorem tk_Int_bitCount : tabOk prog_20_method_49_code tb_Int_bitCount := by unfold tabOk; decide +kernel
set_option maxRecDepth 20000 in
theorem bb0_Int_bitCount : cB m_Int_bitCount 1 := ⟨(gwt1 24 rfl rfl), (gwt4 196 rfl rfl), ⟨by decide, by decide⟩, by decide +kernel, by decide⟩
theorem bb_Int_bitCount : cB m_Int_bitCount 1 := bb0_Int_bitCount
set_option maxRecDepth 20000 in
theorem vv_Int_bitCount : Cond.static (my m_Int_bitCount) ∈ gw := (gwt4 195 rfl rfl)
def tb_Moor_addWell : List (Nat × Instr × Nat) := [(0, .iload_n 1, 1), (1, .ifCond .lt 39, 3), (4, .iload_n 1, 1), (5, .bipush 30, 2), (7, .if_icmp .ge 33, 3), (10, .aload_n 0, 1), (11, .getfield 24, 3), (14, .iload_n 1, 1), (15, .iload_n 2, 1), (16, .iastore, 1), (17, .aload_n 0, 1), (18, .dup, 1), (19, .getfield 31, 3), (22, .iload_n 1, 1), (23, .invokestatic 64, 3), (26, .ior, 1), (27, .putfield 31, 3), (30, .aload_n 0, 1), (31, .dup, 1), (32, .getfield 34, 3), (35, .iload_n 3, 1), (36, .iadd, 1), (37, .putfield 34, 3), (40, .return_, 1)]
def m_Moor_addWell : AM := (8, ⟨"HeathForks$Moor", "addWell", "(III)V"⟩, prog_8_method_19_code, tb_Moor_addWell, 4, none, 1)
theorem tk_Moor_addWell : tabOk prog_8_method_19_code tb_Moor_addWell := by unfold tabOk; decide +kernel
set_option maxRecDepth 20000 in
theorem bb0_Moor_addWell : cB m_Moor_addWell 3 := ⟨(gwt1 9 rfl rfl), (gwt4 203 rfl rfl), ⟨by decide, by decide⟩, by decide +kernel, by decide⟩
theorem bb_Moor_addWell : cB m_Moor_addWell 3 := bb0_Moor_addWell
set_option maxRecDepth 20000 in
theorem vv_Moor_addWell : cV m_Moor_addWell := ⟨(gwt4 201 rfl rfl), (gwt4 202 rfl rfl)⟩
def tb_Moor_addPay : List (Nat × Instr × Nat) := [(0, .iconst 0, 1), (1, .istore_n 3, 1), (2, .iload_n 3, 1), (3, .bipush 6, 2), (5, .if_icmp .ge 31, 3), (8, .aload_n 0, 1), (9, .getfield 15, 3), (12, .iload_n 3, 1), (13, .dup2, 1), (14, .iaload, 1), (15, .iload_n 1, 1), (16, .iload_n 3, 1), (17, .invokestatic 91, 3), (20, .ifCond .eq 7, 3), (23, .iload_n 2, 1), (24, .goto 4, 3), (27, .iconst 0, 1), (28, .iadd, 1), (29, .iastore, 1), (30, .iinc 3 1, 3), (33, .goto (-31), 3), (36, .return_, 1)]
def m_Moor_addPay : AM := (8, ⟨"HeathForks$Moor", "addPay", "(II)V"⟩, prog_8_method_23_code, tb_Moor_addPay, 4, none, 1)
theorem tk_Moor_addPay : tabOk prog_8_method_23_code tb_Moor_addPay := by unfold tabOk; decide +kernel
set_option maxRecDepth 20000 in
theorem bb0_Moor_addPay : cB m_Moor_addPay 2 := ⟨(gwt1 9 rfl rfl), (gwt4 207 rfl rfl), ⟨by decide, by decide⟩, by decide +kernel, by decide⟩
theorem bb_Moor_addPay : cB m_Moor_addPay 2 := bb0_Moor_addPay
set_option maxRecDepth 20000 in
theorem vv_Moor_addPay : cV m_Moor_addPay := ⟨(gwt4 205 rfl rfl), (gwt4 206 rfl rfl)⟩
def tb_HF_sink : List (Nat × Instr × Nat) := [(0, .aload_n 0, 1), (1, .iload_n 1, 1), (2, .invokevirtual 210, 3), (5, .ifCond .ne 5, 3), (8, .iconst (-1), 1), (9, .ireturn, 1), (10, .aload_n 0, 1), (11, .iload_n 1, 1), (12, .invokevirtual 213, 3), (15, .istore_n 2, 1), (16, .aload_n 0, 1), (17, .iload_n 1, 1), (18, .invokevirtual 216, 3), (21, .ifCond .eq 14, 3), (24, .aload_n 0, 1), (25, .getfield 56, 3), (28, .iload_n 1, 1), (29, .invokevirtual 219, 3), (32, .goto 4, 3), (35, .iconst 0, 1), (36, .istore_n 3, 1), (37, .iload_n 3, 1), (38, .ifCond .ne 7, 3), (41, .iconst 0, 1), (42, .goto 12, 3), (45, .iload_n 2, 1), (46, .bipush 10, 2), (48, .idiv, 1), (49, .iload_n 3, 1), (50, .invokestatic 222, 3), (53, .idiv, 1), (54, .istore 4, 2), (56, .aload_n 0, 1), (57, .getfield 69, 3), (60, .iconst 1, 1), (61, .iload_n 1, 1), (62, .iload_n 3, 1), (63, .iload 4, 2), (65, .invokevirtual 227, 3), (68, .aload_n 0, 1), (69, .getfield 56, 3), (72, .iload_n 1, 1), (73, .aload_n 0, 1), (74, .iload_n 1, 1), (75, .invokevirtual 231, 3), (78, .iload_n 2, 1), (79, .invokevirtual 234, 3), (82, .aload_n 0, 1), (83, .getfield 56, 3), (86, .iload_n 3, 1), (87, .iload 4, 2), (89, .invokevirtual 238, 3), (92, .iload_n 2, 1), (93, .ireturn, 1)]
def m_HF_sink : AM := (0, ⟨"HeathForks", "sink", "(I)I"⟩, prog_1_method_12_code, tb_HF_sink, 5, some .int, 6)
theorem tk_HF_sink : tabOk prog_1_method_12_code tb_HF_sink := by unfold tabOk; decide +kernel
set_option maxRecDepth 20000 in
theorem bb0_HF_sink : cB m_HF_sink 1 := ⟨(gwt1 1 rfl rfl), (gwt4 148 rfl rfl), ⟨by decide, by decide⟩, by decide +kernel, by decide⟩
theorem bb_HF_sink : cB m_HF_sink 1 := bb0_HF_sink
set_option maxRecDepth 20000 in
theorem vv_HF_sink : cV m_HF_sink := ⟨(gwt4 146 rfl rfl), (gwt4 147 rfl rfl)⟩
def tb_HF_season : List (Nat × Instr × Nat) := [(0, .aload_n 0, 1), (1, .invokevirtual 137, 3), (4, .ifCond .ne 5, 3), (7, .iconst (-1), 1), (8, .ireturn, 1), (9, .aload_n 0, 1), (10, .getfield 69, 3), (13, .iconst 2, 1), (14, .iconst 0, 1), (15, .iconst 0, 1), (16, .iconst 0, 1), (17, .invokevirtual 227, 3), (20, .aload_n 0, 1), (21, .getfield 56, 3), (24, .aload_n 0, 1), (25, .getfield 56, 3), (28, .getfield 157, 3), (31, .iconst 1, 1), (32, .iadd, 1), (33, .iconst 4, 1), (34, .irem, 1), (35, .putfield 157, 3), (38, .aload_n 0, 1), (39, .getfield 56, 3), (42, .getfield 157, 3), (45, .ireturn, 1)]
def m_HF_season : AM := (0, ⟨"HeathForks", "season", "()I"⟩, prog_1_method_13_code, tb_HF_season, 1, some .int, 3)
theorem tk_HF_season : tabOk prog_1_method_13_code tb_HF_season := by unfold tabOk; decide +kernel
set_option maxRecDepth 20000 in
theorem bb0_HF_season : cB m_HF_season 0 := ⟨(gwt1 1 rfl rfl), (gwt4 212 rfl rfl), ⟨by decide, by decide⟩, by decide +kernel, by decide⟩
theorem bb_HF_season : cB m_HF_season 0 := bb0_HF_season
set_option maxRecDepth 20000 in
theorem vv_HF_season : cV m_HF_season := ⟨(gwt4 210 rfl rfl), (gwt4 211 rfl rfl)⟩
def tb_HF_turned : List (Nat × Instr × Nat) := [(0, .lload_n 0, 1), (1, .ldc2_w 419, 3), (4, .lmul, 1), (5, .ldc2_w 421, 3), (8, .ladd, 1), (9, .lreturn, 1)]
def m_HF_turned : AM := (0, ⟨"HeathForks", "turned", "(J)J"⟩, prog_1_method_57_code, tb_HF_turned, 2, some .long, 0)
theorem tk_HF_turned : tabOk prog_1_method_57_code tb_HF_turned := by unfold tabOk; decide +kernel
set_option maxRecDepth 20000 in
theorem bb0_HF_turned : cB m_HF_turned 1 := ⟨(gwt1 1 rfl rfl), (gwt4 219 rfl rfl), ⟨by decide, by decide⟩, by decide +kernel, by decide⟩
theorem bb_HF_turned : cB m_HF_turned 1 := bb0_HF_turned
set_option maxRecDepth 20000 in
theorem vv_HF_turned : Cond.static (my m_HF_turned) ∈ gw := (gwt4 218 rfl rfl)
def tb_HF_drawn : List (Nat × Instr × Nat) := [(0, .iload_n 2, 1), (1, .iconst 1, 1), (2, .if_icmp .ge 7, 3), (5, .iconst 0, 1), (6, .goto 11, 3), (9, .lload_n 0, 1), (10, .bipush 33, 2), (12, .lushr, 1), (13, .iload_n 2, 1), (14, .i2l, 1), (15, .lrem, 1), (16, .l2i, 1), (17, .ireturn, 1)]
def m_HF_drawn : AM := (0, ⟨"HeathForks", "drawn", "(JI)I"⟩, prog_1_method_58_code, tb_HF_drawn, 3, some .int, 0)
theorem tk_HF_drawn : tabOk prog_1_method_58_code tb_HF_drawn := by unfold tabOk; decide +kernel
set_option maxRecDepth 20000 in
theorem bb0_HF_drawn : cB m_HF_drawn 2 := ⟨(gwt1 1 rfl rfl), (gwt4 224 rfl rfl), ⟨by decide, by decide⟩, by decide +kernel, by decide⟩
theorem bb_HF_drawn : cB m_HF_drawn 2 := bb0_HF_drawn
set_option maxRecDepth 20000 in
theorem vv_HF_drawn : Cond.static (my m_HF_drawn) ∈ gw := (gwt4 223 rfl rfl)
def tb_HF_stroll : List (Nat × Instr × Nat) := [(0, .aload_n 0, 1), (1, .invokevirtual 137, 3), (4, .ifCond .eq 14, 3), (7, .iload_n 1, 1), (8, .iconst 1, 1), (9, .if_icmp .lt 9, 3), (12, .iload_n 1, 1), (13, .bipush 60, 2), (15, .if_icmp .le 5, 3), (18, .iconst (-1), 1), (19, .ireturn, 1), (20, .lload_n 2, 1), (21, .lstore 4, 2), (23, .iconst 0, 1), (24, .istore 6, 2), (26, .iconst 0, 1), (27, .istore 7, 2), (29, .iload 7, 2), (31, .iload_n 1, 1), (32, .if_icmp .ge 105, 3), (35, .lload 4, 2), (37, .invokestatic 242, 3), (40, .lstore 4, 2), (42, .lload 4, 2), (44, .aload_n 0, 1), (45, .getfield 90, 3), (48, .getfield 246, 3), (51, .invokestatic 249, 3), (54, .istore 8, 2), (56, .lload 4, 2), (58, .invokestatic 242, 3), (61, .lstore 4, 2), (63, .aload_n 0, 1), (64, .aload_n 0, 1), (65, .getfield 56, 3), (68, .iload 8, 2), (70, .lload 4, 2), (72, .iconst 4, 1), (73, .invokestatic 249, 3), (76, .invokevirtual 203, 3), (79, .istore 9, 2), (81, .iload 9, 2), (83, .iconst (-1), 1), (84, .if_icmp .eq 47, 3), (87, .lload 4, 2), (89, .invokestatic 242, 3), (92, .lstore 4, 2), (94, .aload_n 0, 1), (95, .iload 8, 2), (97, .iload 9, 2), (99, .lload 4, 2), (101, .bipush 10, 2), (103, .invokestatic 249, 3), (106, .aload_n 0, 1), (107, .getfield 90, 3), (110, .iload 8, 2), (112, .iconst 4, 1), (113, .invokevirtual 196, 3), (116, .if_icmp .ge 7, 3), (119, .iconst 1, 1), (120, .goto 4, 3), (123, .iconst 0, 1), (124, .invokevirtual 206, 3), (127, .pop, 1), (128, .iinc 6 1, 3), (131, .iinc 7 1, 3), (134, .goto (-105), 3), (137, .iload 6, 2), (139, .ireturn, 1)]
def m_HF_stroll : AM := (0, ⟨"HeathForks", "stroll", "(IJ)I"⟩, prog_1_method_14_code, tb_HF_stroll, 10, some .int, 6)
theorem tk_HF_stroll : tabOk prog_1_method_14_code tb_HF_stroll := by unfold tabOk; decide +kernel
set_option maxRecDepth 20000 in
theorem bb0_HF_stroll : cB m_HF_stroll 2 := ⟨(gwt1 1 rfl rfl), (gwt4 216 rfl rfl), ⟨by decide, by decide⟩, by decide +kernel, by decide⟩
theorem bb_HF_stroll : cB m_HF_stroll 2 := bb0_HF_stroll
set_option maxRecDepth 20000 in
theorem vv_HF_stroll : cV m_HF_stroll := ⟨(gwt4 214 rfl rfl), (gwt4 215 rfl rfl)⟩
def tb_Acts_latest : List (Nat × Instr × Nat) := [(0, .aload_n 0, 1), (1, .getfield 19, 3), (4, .bipush 40, 2), (6, .iadd, 1), (7, .iconst 1, 1), (8, .isub, 1), (9, .bipush 40, 2), (11, .irem, 1), (12, .iconst 4, 1), (13, .imul, 1), (14, .iload_n 1, 1), (15, .iadd, 1), (16, .istore_n 2, 1), (17, .iload_n 2, 1), (18, .ifCond .lt 21, 3), (21, .iload_n 2, 1), (22, .aload_n 0, 1), (23, .getfield 11, 3), (26, .arraylength, 1), (27, .if_icmp .ge 12, 3), (30, .aload_n 0, 1), (31, .getfield 11, 3), (34, .iload_n 2, 1), (35, .iaload, 1), (36, .goto 4, 3), (39, .iconst 0, 1), (40, .ireturn, 1)]
def m_Acts_latest : AM := (9, ⟨"HeathForks$Acts", "latest", "(I)I"⟩, prog_2_method_4_code, tb_Acts_latest, 3, some .int, 0)
theorem tk_Acts_latest : tabOk prog_2_method_4_code tb_Acts_latest := by unfold tabOk; decide +kernel
set_option maxRecDepth 20000 in
theorem bb0_Acts_latest : cB m_Acts_latest 1 := ⟨(gwt1 10 rfl rfl), (gwt4 232 rfl rfl), ⟨by decide, by decide⟩, by decide +kernel, by decide⟩
theorem bb_Acts_latest : cB m_Acts_latest 1 := bb0_Acts_latest
set_option maxRecDepth 20000 in
theorem vv_Acts_latest : cV m_Acts_latest := ⟨(gwt4 230 rfl rfl), (gwt4 231 rfl rfl)⟩
def tb_Acts_drop : List (Nat × Instr × Nat) := [(0, .aload_n 0, 1), (1, .aload_n 0, 1), (2, .getfield 19, 3), (5, .bipush 40, 2), (7, .iadd, 1), (8, .iconst 1, 1), (9, .isub, 1), (10, .bipush 40, 2), (12, .irem, 1), (13, .putfield 19, 3), (16, .aload_n 0, 1), (17, .iconst 0, 1), (18, .aload_n 0, 1), (19, .getfield 15, 3), (22, .iconst 1, 1), (23, .isub, 1), (24, .invokestatic 28, 3), (27, .putfield 15, 3), (30, .return_, 1)]
def m_Acts_drop : AM := (9, ⟨"HeathForks$Acts", "drop", "()V"⟩, prog_2_method_5_code, tb_Acts_drop, 1, none, 2)
theorem tk_Acts_drop : tabOk prog_2_method_5_code tb_Acts_drop := by unfold tabOk; decide +kernel
set_option maxRecDepth 20000 in
theorem bb0_Acts_drop : cB m_Acts_drop 0 := ⟨(gwt1 10 rfl rfl), (gwt4 236 rfl rfl), ⟨by decide, by decide⟩, by decide +kernel, by decide⟩
theorem bb_Acts_drop : cB m_Acts_drop 0 := bb0_Acts_drop
set_option maxRecDepth 20000 in
theorem vv_Acts_drop : cV m_Acts_drop := ⟨(gwt4 234 rfl rfl), (gwt4 235 rfl rfl)⟩
def tb_Moor_unstep : List (Nat × Instr × Nat) := [(0, .iload_n 1, 1), (1, .ifCond .lt 47, 3), (4, .iload_n 1, 1), (5, .bipush 6, 2), (7, .if_icmp .ge 41, 3), (10, .iload_n 3, 1), (11, .ifCond .eq 8, 3), (14, .iload_n 3, 1), (15, .iconst 1, 1), (16, .if_icmp .ne 32, 3), (19, .aload_n 0, 1), (20, .getfield 9, 3), (23, .iload_n 1, 1), (24, .iload_n 2, 1), (25, .iastore, 1), (26, .aload_n 0, 1), (27, .getfield 18, 3), (30, .iload_n 3, 1), (31, .iload 4, 2), (33, .iastore, 1), (34, .aload_n 0, 1), (35, .iconst 0, 1), (36, .aload_n 0, 1), (37, .getfield 27, 3), (40, .iconst 1, 1), (41, .isub, 1), (42, .invokestatic 67, 3), (45, .putfield 27, 3), (48, .return_, 1)]
def m_Moor_unstep : AM := (8, ⟨"HeathForks$Moor", "unstep", "(IIII)V"⟩, prog_8_method_8_code, tb_Moor_unstep, 5, none, 2)
theorem tk_Moor_unstep : tabOk prog_8_method_8_code tb_Moor_unstep := by unfold tabOk; decide +kernel
set_option maxRecDepth 20000 in
theorem bb0_Moor_unstep : cB m_Moor_unstep 4 := ⟨(gwt1 9 rfl rfl), (gwt5 1 rfl rfl), ⟨by decide, by decide⟩, by decide +kernel, by decide⟩
theorem bb_Moor_unstep : cB m_Moor_unstep 4 := bb0_Moor_unstep
set_option maxRecDepth 20000 in
theorem vv_Moor_unstep : cV m_Moor_unstep := ⟨(gwt4 239 rfl rfl), (gwt5 0 rfl rfl)⟩
def tb_Moor_dropWell : List (Nat × Instr × Nat) := [(0, .iload_n 1, 1), (1, .ifCond .lt 41, 3), (4, .iload_n 1, 1), (5, .bipush 30, 2), (7, .if_icmp .ge 35, 3), (10, .aload_n 0, 1), (11, .getfield 24, 3), (14, .iload_n 1, 1), (15, .iconst 0, 1), (16, .iastore, 1), (17, .aload_n 0, 1), (18, .dup, 1), (19, .getfield 31, 3), (22, .iload_n 1, 1), (23, .invokestatic 64, 3), (26, .iconst (-1), 1), (27, .ixor, 1), (28, .iand, 1), (29, .putfield 31, 3), (32, .aload_n 0, 1), (33, .dup, 1), (34, .getfield 34, 3), (37, .iload_n 2, 1), (38, .isub, 1), (39, .putfield 34, 3), (42, .return_, 1)]
def m_Moor_dropWell : AM := (8, ⟨"HeathForks$Moor", "dropWell", "(II)V"⟩, prog_8_method_20_code, tb_Moor_dropWell, 3, none, 1)
theorem tk_Moor_dropWell : tabOk prog_8_method_20_code tb_Moor_dropWell := by unfold tabOk; decide +kernel
set_option maxRecDepth 20000 in
theorem bb0_Moor_dropWell : cB m_Moor_dropWell 2 := ⟨(gwt1 9 rfl rfl), (gwt5 6 rfl rfl), ⟨by decide, by decide⟩, by decide +kernel, by decide⟩
theorem bb_Moor_dropWell : cB m_Moor_dropWell 2 := bb0_Moor_dropWell
set_option maxRecDepth 20000 in
theorem vv_Moor_dropWell : cV m_Moor_dropWell := ⟨(gwt5 4 rfl rfl), (gwt5 5 rfl rfl)⟩
def tb_HF_undo : List (Nat × Instr × Nat) := [(0, .aload_n 0, 1), (1, .getfield 69, 3), (4, .getfield 253, 3), (7, .ifCond .ne 5, 3), (10, .iconst (-1), 1), (11, .ireturn, 1), (12, .aload_n 0, 1), (13, .getfield 69, 3), (16, .iconst 0, 1), (17, .invokevirtual 256, 3), (20, .istore_n 1, 1), (21, .aload_n 0, 1), (22, .getfield 69, 3), (25, .iconst 1, 1), (26, .invokevirtual 256, 3), (29, .istore_n 2, 1), (30, .aload_n 0, 1), (31, .getfield 69, 3), (34, .iconst 2, 1), (35, .invokevirtual 256, 3), (38, .istore_n 3, 1), (39, .aload_n 0, 1), (40, .getfield 69, 3), (43, .iconst 3, 1), (44, .invokevirtual 256, 3), (47, .istore 4, 2), (49, .aload_n 0, 1), (50, .getfield 69, 3), (53, .invokevirtual 259, 3), (56, .iload_n 1, 1), (57, .ifCond .ne 26, 3), (60, .aload_n 0, 1), (61, .getfield 56, 3), (64, .iload_n 2, 1), (65, .iload_n 3, 1), (66, .aload_n 0, 1), (67, .getfield 90, 3), (70, .iload_n 2, 1), (71, .iconst 5, 1), (72, .invokevirtual 196, 3), (75, .iload 4, 2), (77, .invokevirtual 262, 3), (80, .goto 64, 3), (83, .iload_n 1, 1), (84, .iconst 1, 1), (85, .if_icmp .ne 39, 3), (88, .aload_n 0, 1), (89, .getfield 56, 3), (92, .iload_n 3, 1), (93, .iload 4, 2), (95, .ineg, 1), (96, .invokevirtual 238, 3), (99, .aload_n 0, 1), (100, .getfield 56, 3), (103, .iload_n 2, 1), (104, .aload_n 0, 1), (105, .getfield 56, 3), (108, .iload_n 2, 1), (109, .invokevirtual 177, 3), (112, .aload_n 0, 1), (113, .iload_n 2, 1), (114, .invokevirtual 265, 3), (117, .imul, 1), (118, .invokevirtual 268, 3), (121, .goto 23, 3), (124, .aload_n 0, 1), (125, .getfield 56, 3), (128, .aload_n 0, 1), (129, .getfield 56, 3), (132, .getfield 157, 3), (135, .iconst 4, 1), (136, .iadd, 1), (137, .iconst 1, 1), (138, .isub, 1), (139, .iconst 4, 1), (140, .irem, 1), (141, .putfield 157, 3), (144, .aload_n 0, 1), (145, .getfield 69, 3), (148, .getfield 253, 3), (151, .ireturn, 1)]
def m_HF_undo : AM := (0, ⟨"HeathForks", "undo", "()I"⟩, prog_1_method_15_code, tb_HF_undo, 5, some .int, 3)
theorem tk_HF_undo : tabOk prog_1_method_15_code tb_HF_undo := by unfold tabOk; decide +kernel
set_option maxRecDepth 20000 in
theorem bb0_HF_undo : cB m_HF_undo 0 := ⟨(gwt1 1 rfl rfl), (gwt4 228 rfl rfl), ⟨by decide, by decide⟩, by decide +kernel, by decide⟩
theorem bb_HF_undo : cB m_HF_undo 0 := bb0_HF_undo
set_option maxRecDepth 20000 in
theorem vv_HF_undo : cV m_HF_undo := ⟨(gwt4 226 rfl rfl), (gwt4 227 rfl rfl)⟩
def tb_HF_book : List (Nat × Instr × Nat) := [(0, .iload_n 1, 1), (1, .ifCond .lt 14, 3), (4, .iload_n 1, 1), (5, .aload_n 0, 1), (6, .getfield 56, 3), (9, .invokevirtual 271, 3), (12, .if_icmp .lt 5, 3), (15, .iconst (-1), 1), (16, .ireturn, 1), (17, .iload_n 2, 1), (18, .tableswitch 53 0 2 #[26, 35, 44], 26), (44, .aload_n 0, 1), (45, .getfield 56, 3), (48, .iload_n 1, 1), (49, .invokevirtual 274, 3), (52, .ireturn, 1), (53, .aload_n 0, 1), (54, .getfield 56, 3), (57, .iload_n 1, 1), (58, .invokevirtual 277, 3), (61, .ireturn, 1), (62, .aload_n 0, 1), (63, .getfield 56, 3), (66, .iload_n 1, 1), (67, .invokevirtual 280, 3), (70, .ireturn, 1), (71, .iconst (-1), 1), (72, .ireturn, 1)]
def m_HF_book : AM := (0, ⟨"HeathForks", "book", "(II)I"⟩, prog_1_method_16_code, tb_HF_book, 3, some .int, 3)
theorem tk_HF_book : tabOk prog_1_method_16_code tb_HF_book := by unfold tabOk; decide +kernel
set_option maxRecDepth 20000 in
theorem bb0_HF_book : cB m_HF_book 2 := ⟨(gwt1 1 rfl rfl), (gwt5 10 rfl rfl), ⟨by decide, by decide⟩, by decide +kernel, by decide⟩
theorem bb_HF_book : cB m_HF_book 2 := bb0_HF_book
set_option maxRecDepth 20000 in
theorem vv_HF_book : cV m_HF_book := ⟨(gwt5 8 rfl rfl), (gwt5 9 rfl rfl)⟩
def tb_HF_hasWalks : List (Nat × Instr × Nat) := [(0, .iload_n 1, 1), (1, .ifCond .lt 24, 3), (4, .iload_n 1, 1), (5, .aload_n 0, 1), (6, .getfield 98, 3), (9, .if_icmp .ge 16, 3), (12, .iload_n 1, 1), (13, .aload_n 0, 1), (14, .getfield 45, 3), (17, .arraylength, 1), (18, .if_icmp .ge 7, 3), (21, .iconst 1, 1), (22, .goto 4, 3), (25, .iconst 0, 1), (26, .ireturn, 1)]
def m_HF_hasWalks : AM := (0, ⟨"HeathForks", "hasWalks", "(I)Z"⟩, prog_1_method_50_code, tb_HF_hasWalks, 2, some .boolean, 0)
theorem tk_HF_hasWalks : tabOk prog_1_method_50_code tb_HF_hasWalks := by unfold tabOk; decide +kernel
set_option maxRecDepth 20000 in
theorem bb0_HF_hasWalks : cB m_HF_hasWalks 1 := ⟨(gwt1 1 rfl rfl), (gwt5 22 rfl rfl), ⟨by decide, by decide⟩, by decide +kernel, by decide⟩
theorem bb_HF_hasWalks : cB m_HF_hasWalks 1 := bb0_HF_hasWalks
set_option maxRecDepth 20000 in
theorem vv_HF_hasWalks : cV m_HF_hasWalks := ⟨(gwt5 21 rfl rfl), (gw_p 37 rfl rfl)⟩
def tb_Walks_forkAt : List (Nat × Instr × Nat) := [(0, .iload_n 1, 1), (1, .ifCond .lt 31, 3), (4, .iload_n 1, 1), (5, .aload_n 0, 1), (6, .getfield 15, 3), (9, .if_icmp .ge 23, 3), (12, .iload_n 1, 1), (13, .aload_n 0, 1), (14, .getfield 9, 3), (17, .arraylength, 1), (18, .if_icmp .ge 14, 3), (21, .aload_n 0, 1), (22, .getfield 9, 3), (25, .iload_n 1, 1), (26, .iaload, 1), (27, .iconst 4, 1), (28, .idiv, 1), (29, .goto 4, 3), (32, .iconst (-1), 1), (33, .ireturn, 1)]
def m_Walks_forkAt : AM := (7, ⟨"HeathForks$Walks", "forkAt", "(I)I"⟩, prog_10_method_3_code, tb_Walks_forkAt, 2, some .int, 0)
theorem tk_Walks_forkAt : tabOk prog_10_method_3_code tb_Walks_forkAt := by unfold tabOk; decide +kernel
set_option maxRecDepth 20000 in
theorem bb0_Walks_forkAt : cB m_Walks_forkAt 1 := ⟨(gwt1 8 rfl rfl), (gwt5 26 rfl rfl), ⟨by decide, by decide⟩, by decide +kernel, by decide⟩
theorem bb_Walks_forkAt : cB m_Walks_forkAt 1 := bb0_Walks_forkAt
set_option maxRecDepth 20000 in
theorem vv_Walks_forkAt : cV m_Walks_forkAt := ⟨(gwt5 24 rfl rfl), (gwt5 25 rfl rfl)⟩
def tb_Walks_wayAt : List (Nat × Instr × Nat) := [(0, .iload_n 1, 1), (1, .ifCond .lt 31, 3), (4, .iload_n 1, 1), (5, .aload_n 0, 1), (6, .getfield 15, 3), (9, .if_icmp .ge 23, 3), (12, .iload_n 1, 1), (13, .aload_n 0, 1), (14, .getfield 9, 3), (17, .arraylength, 1), (18, .if_icmp .ge 14, 3), (21, .aload_n 0, 1), (22, .getfield 9, 3), (25, .iload_n 1, 1), (26, .iaload, 1), (27, .iconst 4, 1), (28, .irem, 1), (29, .goto 4, 3), (32, .iconst (-1), 1), (33, .ireturn, 1)]
def m_Walks_wayAt : AM := (7, ⟨"HeathForks$Walks", "wayAt", "(I)I"⟩, prog_10_method_4_code, tb_Walks_wayAt, 2, some .int, 0)
theorem tk_Walks_wayAt : tabOk prog_10_method_4_code tb_Walks_wayAt := by unfold tabOk; decide +kernel
set_option maxRecDepth 20000 in
theorem bb0_Walks_wayAt : cB m_Walks_wayAt 1 := ⟨(gwt1 8 rfl rfl), (gwt5 30 rfl rfl), ⟨by decide, by decide⟩, by decide +kernel, by decide⟩
theorem bb_Walks_wayAt : cB m_Walks_wayAt 1 := bb0_Walks_wayAt
set_option maxRecDepth 20000 in
theorem vv_Walks_wayAt : cV m_Walks_wayAt := ⟨(gwt5 28 rfl rfl), (gwt5 29 rfl rfl)⟩
def tb_HF_step : List (Nat × Instr × Nat) := [(0, .aload_n 0, 1), (1, .iload_n 1, 1), (2, .invokevirtual 283, 3), (5, .ifCond .ne 5, 3), (8, .iconst (-1), 1), (9, .ireturn, 1), (10, .aload_n 0, 1), (11, .getfield 45, 3), (14, .iload_n 1, 1), (15, .aaload, 1), (16, .astore 4, 2), (18, .iload_n 2, 1), (19, .ifCond .lt 12, 3), (22, .iload_n 2, 1), (23, .aload 4, 2), (25, .getfield 286, 3), (28, .if_icmp .lt 5, 3), (31, .iconst (-1), 1), (32, .ireturn, 1), (33, .iload_n 3, 1), (34, .ifCond .ne 10, 3), (37, .aload 4, 2), (39, .iload_n 2, 1), (40, .invokevirtual 287, 3), (43, .ireturn, 1), (44, .iload_n 3, 1), (45, .iconst 1, 1), (46, .if_icmp .ne 12, 3), (49, .aload 4, 2), (51, .iload_n 2, 1), (52, .invokevirtual 290, 3), (55, .goto 4, 3), (58, .iconst (-1), 1), (59, .ireturn, 1)]
def m_HF_step : AM := (0, ⟨"HeathForks", "step", "(III)I"⟩, prog_1_method_17_code, tb_HF_step, 5, some .int, 1)
theorem tk_HF_step : tabOk prog_1_method_17_code tb_HF_step := by unfold tabOk; decide +kernel
set_option maxRecDepth 20000 in
theorem bb0_HF_step : cB m_HF_step 3 := ⟨(gwt1 1 rfl rfl), (gwt5 18 rfl rfl), ⟨by decide, by decide⟩, by decide +kernel, by decide⟩
theorem bb_HF_step : cB m_HF_step 3 := bb0_HF_step
set_option maxRecDepth 20000 in
theorem vv_HF_step : cV m_HF_step := ⟨(gwt5 16 rfl rfl), (gwt5 17 rfl rfl)⟩
def tb_Moor_copy : List (Nat × Instr × Nat) := [(0, .aload_n 1, 1), (1, .getfield 9, 3), (4, .iconst 0, 1), (5, .aload_n 0, 1), (6, .getfield 9, 3), (9, .iconst 0, 1), (10, .bipush 6, 2), (12, .invokestatic 54, 3), (15, .aload_n 1, 1), (16, .getfield 15, 3), (19, .iconst 0, 1), (20, .aload_n 0, 1), (21, .getfield 15, 3), (24, .iconst 0, 1), (25, .bipush 6, 2), (27, .invokestatic 54, 3), (30, .aload_n 1, 1), (31, .getfield 18, 3), (34, .iconst 0, 1), (35, .aload_n 0, 1), (36, .getfield 18, 3), (39, .iconst 0, 1), (40, .iconst 2, 1), (41, .invokestatic 54, 3), (44, .aload_n 1, 1), (45, .getfield 21, 3), (48, .iconst 0, 1), (49, .aload_n 0, 1), (50, .getfield 21, 3), (53, .iconst 0, 1), (54, .bipush 100, 2), (56, .invokestatic 54, 3), (59, .aload_n 1, 1), (60, .getfield 24, 3), (63, .iconst 0, 1), (64, .aload_n 0, 1), (65, .getfield 24, 3), (68, .iconst 0, 1), (69, .bipush 30, 2), (71, .invokestatic 54, 3), (74, .aload_n 0, 1), (75, .aload_n 1, 1), (76, .getfield 27, 3), (79, .putfield 27, 3), (82, .aload_n 0, 1), (83, .aload_n 1, 1), (84, .getfield 31, 3), (87, .putfield 31, 3), (90, .aload_n 0, 1), (91, .aload_n 1, 1), (92, .getfield 34, 3), (95, .putfield 34, 3), (98, .aload_n 0, 1), (99, .aload_n 1, 1), (100, .getfield 37, 3), (103, .putfield 37, 3), (106, .return_, 1)]
def m_Moor_copy : AM := (8, ⟨"HeathForks$Moor", "copy", "(LHeathForks$Moor;)V"⟩, prog_8_method_3_code, tb_Moor_copy, 2, none, 2)
theorem tk_Moor_copy : tabOk prog_8_method_3_code tb_Moor_copy := by unfold tabOk; decide +kernel
set_option maxRecDepth 20000 in
theorem bb0_Moor_copy : cB m_Moor_copy 1 := ⟨(gwt1 9 rfl rfl), (gwt5 39 rfl rfl), ⟨by decide, by decide⟩, by decide +kernel, by decide⟩
theorem bb_Moor_copy : cB m_Moor_copy 1 := bb0_Moor_copy
set_option maxRecDepth 20000 in
theorem vv_Moor_copy : cV m_Moor_copy := ⟨(gwt5 37 rfl rfl), (gwt5 38 rfl rfl)⟩
def tb_HF_run : List (Nat × Instr × Nat) := [(0, .aload_n 0, 1), (1, .invokevirtual 137, 3), (4, .ifCond .eq 20, 3), (7, .aload_n 0, 1), (8, .iload_n 1, 1), (9, .invokevirtual 283, 3), (12, .ifCond .eq 12, 3), (15, .iload_n 2, 1), (16, .ifCond .lt 8, 3), (19, .iload_n 2, 1), (20, .iconst 1, 1), (21, .if_icmp .le 7, 3), (24, .ldc_w 293, 3), (27, .ireturn, 1), (28, .aload_n 0, 1), (29, .getfield 45, 3), (32, .iload_n 1, 1), (33, .aaload, 1), (34, .astore_n 3, 1), (35, .aload_n 0, 1), (36, .getfield 63, 3), (39, .aload_n 0, 1), (40, .getfield 56, 3), (43, .invokevirtual 294, 3), (46, .iconst 0, 1), (47, .istore 4, 2), (49, .iconst 0, 1), (50, .istore 5, 2), (52, .iload 5, 2), (54, .aload_n 3, 1), (55, .getfield 286, 3), (58, .if_icmp .ge 91, 3), (61, .aload_n 3, 1), (62, .iload 5, 2), (64, .invokevirtual 287, 3), (67, .istore 6, 2), (69, .aload_n 0, 1), (70, .aload_n 0, 1), (71, .getfield 63, 3), (74, .iload 6, 2), (76, .aload_n 3, 1), (77, .iload 5, 2), (79, .invokevirtual 290, 3), (82, .invokevirtual 203, 3), (85, .istore 7, 2), (87, .iload 7, 2), (89, .iconst (-1), 1), (90, .if_icmp .ne 15, 3), (93, .iload_n 2, 1), (94, .ifCond .ne 8, 3), (97, .iload 5, 2), (99, .goto 5, 3), (102, .iload 4, 2), (104, .ireturn, 1), (105, .aload_n 0, 1), (106, .getfield 63, 3), (109, .iload 6, 2), (111, .iload 7, 2), (113, .aload_n 0, 1), (114, .getfield 90, 3), (117, .iload 6, 2), (119, .iconst 5, 1), (120, .invokevirtual 196, 3), (123, .invokevirtual 298, 3), (126, .iload 4, 2), (128, .aload_n 0, 1), (129, .aload_n 0, 1), (130, .getfield 63, 3), (133, .iload 6, 2), (135, .iload 7, 2), (137, .invokevirtual 199, 3), (140, .iadd, 1), (141, .istore 4, 2), (143, .iinc 5 1, 3), (146, .goto (-94), 3), (149, .iload_n 2, 1), (150, .ifCond .ne 7, 3), (153, .iconst (-1), 1), (154, .goto 5, 3), (157, .iload 4, 2), (159, .ireturn, 1)]
def m_HF_run : AM := (0, ⟨"HeathForks", "run", "(II)I"⟩, prog_1_method_18_code, tb_HF_run, 8, some .int, 5)
theorem tk_HF_run : tabOk prog_1_method_18_code tb_HF_run := by unfold tabOk; decide +kernel
set_option maxRecDepth 20000 in
theorem bb0_HF_run : cB m_HF_run 2 := ⟨(gwt1 1 rfl rfl), (gwt5 34 rfl rfl), ⟨by decide, by decide⟩, by decide +kernel, by decide⟩
theorem bb_HF_run : cB m_HF_run 2 := bb0_HF_run
set_option maxRecDepth 20000 in
theorem vv_HF_run : cV m_HF_run := ⟨(gwt5 32 rfl rfl), (gwt5 33 rfl rfl)⟩
def tb_HF_perform : List (Nat × Instr × Nat) := [(0, .aload_n 0, 1), (1, .invokevirtual 137, 3), (4, .ifCond .eq 11, 3), (7, .aload_n 0, 1), (8, .iload_n 1, 1), (9, .invokevirtual 283, 3), (12, .ifCond .ne 5, 3), (15, .iconst (-1), 1), (16, .ireturn, 1), (17, .aload_n 0, 1), (18, .getfield 45, 3), (21, .iload_n 1, 1), (22, .aaload, 1), (23, .astore_n 2, 1), (24, .iconst 0, 1), (25, .istore_n 3, 1), (26, .iload_n 3, 1), (27, .aload_n 2, 1), (28, .getfield 286, 3), (31, .if_icmp .ge 51, 3), (34, .aload_n 2, 1), (35, .iload_n 3, 1), (36, .invokevirtual 287, 3), (39, .istore 4, 2), (41, .aload_n 0, 1), (42, .aload_n 0, 1), (43, .getfield 56, 3), (46, .iload 4, 2), (48, .aload_n 2, 1), (49, .iload_n 3, 1), (50, .invokevirtual 290, 3), (53, .invokevirtual 203, 3), (56, .istore 5, 2), (58, .iload 5, 2), (60, .iconst (-1), 1), (61, .if_icmp .ne 5, 3), (64, .iload_n 3, 1), (65, .ireturn, 1), (66, .aload_n 0, 1), (67, .iload 4, 2), (69, .iload 5, 2), (71, .iconst 0, 1), (72, .invokevirtual 206, 3), (75, .pop, 1), (76, .iinc 3 1, 3), (79, .goto (-53), 3), (82, .aload_n 2, 1), (83, .getfield 286, 3), (86, .ireturn, 1)]
def m_HF_perform : AM := (0, ⟨"HeathForks", "perform", "(I)I"⟩, prog_1_method_19_code, tb_HF_perform, 6, some .int, 6)
theorem tk_HF_perform : tabOk prog_1_method_19_code tb_HF_perform := by unfold tabOk; decide +kernel
set_option maxRecDepth 20000 in
theorem bb0_HF_perform : cB m_HF_perform 1 := ⟨(gwt1 1 rfl rfl), (gwt5 46 rfl rfl), ⟨by decide, by decide⟩, by decide +kernel, by decide⟩
theorem bb_HF_perform : cB m_HF_perform 1 := bb0_HF_perform
set_option maxRecDepth 20000 in
theorem vv_HF_perform : cV m_HF_perform := ⟨(gwt5 44 rfl rfl), (gwt5 45 rfl rfl)⟩
def tb_Heath_besideOf : List (Nat × Instr × Nat) := [(0, .aload_n 0, 1), (1, .iload_n 1, 1), (2, .invokevirtual 71, 3), (5, .ifCond .eq 12, 3), (8, .aload_n 0, 1), (9, .getfield 21, 3), (12, .iload_n 1, 1), (13, .iaload, 1), (14, .goto 4, 3), (17, .iconst 0, 1), (18, .ireturn, 1)]
def m_Heath_besideOf : AM := (3, ⟨"HeathForks$Heath", "besideOf", "(I)I"⟩, prog_4_method_10_code, tb_Heath_besideOf, 2, some .int, 1)
theorem tk_Heath_besideOf : tabOk prog_4_method_10_code tb_Heath_besideOf := by unfold tabOk; decide +kernel
set_option maxRecDepth 20000 in
theorem bb0_Heath_besideOf : cB m_Heath_besideOf 1 := ⟨(gwt1 4 rfl rfl), (gwt5 62 rfl rfl), ⟨by decide, by decide⟩, by decide +kernel, by decide⟩
theorem bb_Heath_besideOf : cB m_Heath_besideOf 1 := bb0_Heath_besideOf
set_option maxRecDepth 20000 in
theorem vv_Heath_besideOf : cV m_Heath_besideOf := ⟨(gwt5 60 rfl rfl), (gwt5 61 rfl rfl)⟩
def tb_HF_wellBrings : List (Nat × Instr × Nat) := [(0, .aload_n 0, 1), (1, .getfield 90, 3), (4, .iload_n 1, 1), (5, .iload_n 2, 1), (6, .invokevirtual 160, 3), (9, .istore 4, 2), (11, .iload 4, 2), (13, .iconst (-1), 1), (14, .if_icmp .eq 16, 3), (17, .iload 4, 2), (19, .aload_n 0, 1), (20, .getfield 56, 3), (23, .iload_n 1, 1), (24, .invokevirtual 177, 3), (27, .if_icmp .le 5, 3), (30, .iconst 0, 1), (31, .ireturn, 1), (32, .iconst 0, 1), (33, .bipush 10, 2), (35, .iload 4, 2), (37, .bipush 10, 2), (39, .idiv, 1), (40, .isub, 1), (41, .aload_n 0, 1), (42, .getfield 90, 3), (45, .iload_n 1, 1), (46, .invokevirtual 333, 3), (49, .iload_n 3, 1), (50, .iand, 1), (51, .invokestatic 222, 3), (54, .isub, 1), (55, .invokestatic 447, 3), (58, .ireturn, 1)]
def m_HF_wellBrings : AM := (0, ⟨"HeathForks", "wellBrings", "(III)I"⟩, prog_1_method_69_code, tb_HF_wellBrings, 5, some .int, 3)
theorem tk_HF_wellBrings : tabOk prog_1_method_69_code tb_HF_wellBrings := by unfold tabOk; decide +kernel
set_option maxRecDepth 20000 in
theorem bb0_HF_wellBrings : cB m_HF_wellBrings 3 := ⟨(gwt1 1 rfl rfl), (gwt5 58 rfl rfl), ⟨by decide, by decide⟩, by decide +kernel, by decide⟩
theorem bb_HF_wellBrings : cB m_HF_wellBrings 3 := bb0_HF_wellBrings
set_option maxRecDepth 20000 in
theorem vv_HF_wellBrings : cV m_HF_wellBrings := ⟨(gwt5 57 rfl rfl), (gw_p 39 rfl rfl)⟩
def tb_HF_allBring : List (Nat × Instr × Nat) := [(0, .iconst 0, 1), (1, .istore_n 3, 1), (2, .iconst 0, 1), (3, .istore 4, 2), (5, .iload 4, 2), (7, .aload_n 0, 1), (8, .getfield 90, 3), (11, .getfield 359, 3), (14, .if_icmp .ge 35, 3), (17, .aload_n 0, 1), (18, .getfield 56, 3), (21, .getfield 170, 3), (24, .iload 4, 2), (26, .invokestatic 173, 3), (29, .ifCond .eq 14, 3), (32, .iload_n 3, 1), (33, .aload_n 0, 1), (34, .iload 4, 2), (36, .iload_n 1, 1), (37, .iload_n 2, 1), (38, .invokevirtual 304, 3), (41, .iadd, 1), (42, .istore_n 3, 1), (43, .iinc 4 1, 3), (46, .goto (-41), 3), (49, .iload_n 3, 1), (50, .ireturn, 1)]
def m_HF_allBring : AM := (0, ⟨"HeathForks", "allBring", "(II)I"⟩, prog_1_method_70_code, tb_HF_allBring, 5, some .int, 4)
theorem tk_HF_allBring : tabOk prog_1_method_70_code tb_HF_allBring := by unfold tabOk; decide +kernel
set_option maxRecDepth 20000 in
theorem bb0_HF_allBring : cB m_HF_allBring 2 := ⟨(gwt1 1 rfl rfl), (gwt5 54 rfl rfl), ⟨by decide, by decide⟩, by decide +kernel, by decide⟩
theorem bb_HF_allBring : cB m_HF_allBring 2 := bb0_HF_allBring
set_option maxRecDepth 20000 in
theorem vv_HF_allBring : cV m_HF_allBring := ⟨(gwt5 53 rfl rfl), (gw_p 38 rfl rfl)⟩
def tb_HF_brings : List (Nat × Instr × Nat) := [(0, .aload_n 0, 1), (1, .invokevirtual 137, 3), (4, .ifCond .eq 12, 3), (7, .iload_n 2, 1), (8, .ifCond .lt 8, 3), (11, .iload_n 2, 1), (12, .iconst 4, 1), (13, .if_icmp .lt 5, 3), (16, .iconst (-1), 1), (17, .ireturn, 1), (18, .iload_n 1, 1), (19, .iconst (-1), 1), (20, .if_icmp .ne 16, 3), (23, .aload_n 0, 1), (24, .iload_n 2, 1), (25, .aload_n 0, 1), (26, .getfield 56, 3), (29, .getfield 170, 3), (32, .invokevirtual 301, 3), (35, .ireturn, 1), (36, .aload_n 0, 1), (37, .getfield 90, 3), (40, .iload_n 1, 1), (41, .invokevirtual 153, 3), (44, .ifCond .eq 17, 3), (47, .aload_n 0, 1), (48, .getfield 56, 3), (51, .getfield 170, 3), (54, .iload_n 1, 1), (55, .invokestatic 173, 3), (58, .ifCond .ne 5, 3), (61, .iconst (-1), 1), (62, .ireturn, 1), (63, .aload_n 0, 1), (64, .iload_n 1, 1), (65, .iload_n 2, 1), (66, .aload_n 0, 1), (67, .getfield 56, 3), (70, .getfield 170, 3), (73, .invokevirtual 304, 3), (76, .ireturn, 1)]
def m_HF_brings : AM := (0, ⟨"HeathForks", "brings", "(II)I"⟩, prog_1_method_20_code, tb_HF_brings, 3, some .int, 5)
theorem tk_HF_brings : tabOk prog_1_method_20_code tb_HF_brings := by unfold tabOk; decide +kernel
set_option maxRecDepth 20000 in
theorem bb0_HF_brings : cB m_HF_brings 2 := ⟨(gwt1 1 rfl rfl), (gwt5 50 rfl rfl), ⟨by decide, by decide⟩, by decide +kernel, by decide⟩
theorem bb_HF_brings : cB m_HF_brings 2 := bb0_HF_brings
set_option maxRecDepth 20000 in
theorem vv_HF_brings : cV m_HF_brings := ⟨(gwt5 48 rfl rfl), (gwt5 49 rfl rfl)⟩
def tb_Plan_prepare : List (Nat × Instr × Nat) := [(0, .aload_n 0, 1), (1, .aload_n 1, 1), (2, .getfield 47, 3), (5, .bipush 30, 2), (7, .invokestatic 50, 3), (10, .putfield 21, 3), (13, .aload_n 0, 1), (14, .aload_n 2, 1), (15, .getfield 56, 3), (18, .putfield 25, 3), (21, .aload_n 0, 1), (22, .iload_n 3, 1), (23, .putfield 31, 3), (26, .aload_n 0, 1), (27, .iconst 0, 1), (28, .putfield 28, 3), (31, .aload_n 0, 1), (32, .iconst 0, 1), (33, .putfield 34, 3), (36, .iconst 0, 1), (37, .istore 4, 2), (39, .iload 4, 2), (41, .aload_n 0, 1), (42, .getfield 21, 3), (45, .if_icmp .ge 162, 3), (48, .aload_n 1, 1), (49, .iload 4, 2), (51, .iconst 2, 1), (52, .invokevirtual 59, 3), (55, .istore 5, 2), (57, .aload_n 0, 1), (58, .getfield 25, 3), (61, .iload 4, 2), (63, .invokestatic 62, 3), (66, .istore 6, 2), (68, .iload 6, 2), (70, .ifCond .eq 12, 3), (73, .aload_n 2, 1), (74, .iload 4, 2), (76, .invokevirtual 66, 3), (79, .goto 5, 3), (82, .bipush 60, 2), (84, .istore 7, 2), (86, .iload 5, 2), (88, .iconst (-1), 1), (89, .if_icmp .eq 14, 3), (92, .iload 5, 2), (94, .iload 7, 2), (96, .if_icmp .gt 7, 3), (99, .iconst 1, 1), (100, .goto 4, 3), (103, .iconst 0, 1), (104, .istore 8, 2), (106, .aload_n 0, 1), (107, .getfield 9, 3), (110, .iload 4, 2), (112, .iload 8, 2), (114, .ifCond .eq 14, 3), (117, .bipush 10, 2), (119, .iload 5, 2), (121, .bipush 10, 2), (123, .idiv, 1), (124, .isub, 1), (125, .goto 4, 3), (128, .iconst 0, 1), (129, .iastore, 1), (130, .aload_n 0, 1), (131, .getfield 15, 3), (134, .iload 4, 2), (136, .iload 8, 2), (138, .ifCond .eq 20, 3), (141, .iload 5, 2), (143, .aload_n 1, 1), (144, .getfield 70, 3), (147, .aload_n 1, 1), (148, .iload 4, 2), (150, .invokevirtual 73, 3), (153, .iadd, 1), (154, .imul, 1), (155, .goto 4, 3), (158, .iconst 0, 1), (159, .iastore, 1), (160, .aload_n 0, 1), (161, .getfield 18, 3), (164, .iload 4, 2), (166, .aload_n 1, 1), (167, .iload 4, 2), (169, .invokevirtual 76, 3), (172, .iastore, 1), (173, .aload_n 0, 1), (174, .dup, 1), (175, .getfield 28, 3), (178, .iload 8, 2), (180, .ifCond .eq 16, 3), (183, .iload 6, 2), (185, .ifCond .ne 11, 3), (188, .iload 4, 2), (190, .invokestatic 79, 3), (193, .goto 4, 3), (196, .iconst 0, 1), (197, .ior, 1), (198, .putfield 28, 3), (201, .iinc 4 1, 3), (204, .goto (-165), 3), (207, .return_, 1)]
def m_Plan_prepare : AM := (11, ⟨"HeathForks$WellPlan", "prepare", "(LHeathForks$Heath;LHeathForks$Moor;I)V"⟩, prog_12_method_2_code, tb_Plan_prepare, 9, none, 3)
theorem tk_Plan_prepare : tabOk prog_12_method_2_code tb_Plan_prepare := by unfold tabOk; decide +kernel
set_option maxRecDepth 20000 in
theorem bb0_Plan_prepare : cB m_Plan_prepare 3 := ⟨(gwt1 12 rfl rfl), (gwt5 70 rfl rfl), ⟨by decide, by decide⟩, by decide +kernel, by decide⟩
theorem bb_Plan_prepare : cB m_Plan_prepare 3 := bb0_Plan_prepare
set_option maxRecDepth 20000 in
theorem vv_Plan_prepare : cV m_Plan_prepare := ⟨(gwt5 68 rfl rfl), (gwt5 69 rfl rfl)⟩
def tb_Plan_isBetter : List (Nat × Instr × Nat) := [(0, .aload_n 0, 1), (1, .getfield 34, 3), (4, .ifCond .eq 11, 3), (7, .iload_n 2, 1), (8, .aload_n 0, 1), (9, .getfield 41, 3), (12, .if_icmp .eq 24, 3), (15, .aload_n 0, 1), (16, .getfield 34, 3), (19, .ifCond .eq 11, 3), (22, .iload_n 2, 1), (23, .aload_n 0, 1), (24, .getfield 41, 3), (27, .if_icmp .ge 7, 3), (30, .iconst 1, 1), (31, .goto 4, 3), (34, .iconst 0, 1), (35, .ireturn, 1), (36, .iload_n 3, 1), (37, .aload_n 0, 1), (38, .getfield 44, 3), (41, .if_icmp .eq 19, 3), (44, .iload_n 3, 1), (45, .aload_n 0, 1), (46, .getfield 44, 3), (49, .if_icmp .ge 7, 3), (52, .iconst 1, 1), (53, .goto 20, 3), (56, .iconst 0, 1), (57, .goto 16, 3), (60, .iload_n 1, 1), (61, .aload_n 0, 1), (62, .getfield 38, 3), (65, .if_icmp .ge 7, 3), (68, .iconst 1, 1), (69, .goto 4, 3), (72, .iconst 0, 1), (73, .ireturn, 1)]
def m_Plan_isBetter : AM := (11, ⟨"HeathForks$WellPlan", "isBetter", "(III)Z"⟩, prog_12_method_6_code, tb_Plan_isBetter, 4, some .boolean, 0)
theorem tk_Plan_isBetter : tabOk prog_12_method_6_code tb_Plan_isBetter := by unfold tabOk; decide +kernel
set_option maxRecDepth 20000 in
theorem bb0_Plan_isBetter : cB m_Plan_isBetter 3 := ⟨(gwt1 12 rfl rfl), (gwt5 89 rfl rfl), ⟨by decide, by decide⟩, by decide +kernel, by decide⟩
theorem bb_Plan_isBetter : cB m_Plan_isBetter 3 := bb0_Plan_isBetter
set_option maxRecDepth 20000 in
theorem vv_Plan_isBetter : cV m_Plan_isBetter := ⟨(gwt5 88 rfl rfl), (gw_p 41 rfl rfl)⟩
def tb_Plan_yieldOf : List (Nat × Instr × Nat) := [(0, .iconst 0, 1), (1, .istore_n 2, 1), (2, .iconst 0, 1), (3, .istore_n 3, 1), (4, .iload_n 3, 1), (5, .aload_n 0, 1), (6, .getfield 21, 3), (9, .if_icmp .ge 48, 3), (12, .iload_n 3, 1), (13, .bipush 30, 2), (15, .if_icmp .ge 42, 3), (18, .iload_n 1, 1), (19, .iload_n 3, 1), (20, .invokestatic 62, 3), (23, .ifCond .eq 28, 3), (26, .iload_n 2, 1), (27, .iconst 0, 1), (28, .aload_n 0, 1), (29, .getfield 9, 3), (32, .iload_n 3, 1), (33, .iaload, 1), (34, .aload_n 0, 1), (35, .getfield 18, 3), (38, .iload_n 3, 1), (39, .iaload, 1), (40, .iload_n 1, 1), (41, .iand, 1), (42, .invokestatic 97, 3), (45, .isub, 1), (46, .invokestatic 102, 3), (49, .iadd, 1), (50, .istore_n 2, 1), (51, .iinc 3 1, 3), (54, .goto (-50), 3), (57, .iload_n 2, 1), (58, .ireturn, 1)]
def m_Plan_yieldOf : AM := (11, ⟨"HeathForks$WellPlan", "yieldOf", "(I)I"⟩, prog_12_method_7_code, tb_Plan_yieldOf, 4, some .int, 2)
theorem tk_Plan_yieldOf : tabOk prog_12_method_7_code tb_Plan_yieldOf := by unfold tabOk; decide +kernel
set_option maxRecDepth 20000 in
theorem bb0_Plan_yieldOf : cB m_Plan_yieldOf 1 := ⟨(gwt1 12 rfl rfl), (gwt5 93 rfl rfl), ⟨by decide, by decide⟩, by decide +kernel, by decide⟩
theorem bb_Plan_yieldOf : cB m_Plan_yieldOf 1 := bb0_Plan_yieldOf
set_option maxRecDepth 20000 in
theorem vv_Plan_yieldOf : cV m_Plan_yieldOf := ⟨(gwt5 92 rfl rfl), (gw_p 42 rfl rfl)⟩
def tb_Plan_consider : List (Nat × Instr × Nat) := [(0, .aload_n 0, 1), (1, .iload_n 1, 1), (2, .iload_n 2, 1), (3, .iload_n 3, 1), (4, .invokevirtual 90, 3), (7, .ifCond .eq 40, 3), (10, .aload_n 0, 1), (11, .aload_n 0, 1), (12, .getfield 25, 3), (15, .iload_n 1, 1), (16, .ior, 1), (17, .invokevirtual 94, 3), (20, .aload_n 0, 1), (21, .getfield 31, 3), (24, .if_icmp .lt 23, 3), (27, .aload_n 0, 1), (28, .iconst 1, 1), (29, .putfield 34, 3), (32, .aload_n 0, 1), (33, .iload_n 1, 1), (34, .putfield 38, 3), (37, .aload_n 0, 1), (38, .iload_n 2, 1), (39, .putfield 41, 3), (42, .aload_n 0, 1), (43, .iload_n 3, 1), (44, .putfield 44, 3), (47, .return_, 1)]
def m_Plan_consider : AM := (11, ⟨"HeathForks$WellPlan", "consider", "(III)V"⟩, prog_12_method_5_code, tb_Plan_consider, 4, none, 3)
theorem tk_Plan_consider : tabOk prog_12_method_5_code tb_Plan_consider := by unfold tabOk; decide +kernel
set_option maxRecDepth 20000 in
theorem bb0_Plan_consider : cB m_Plan_consider 3 := ⟨(gwt1 12 rfl rfl), (gwt5 85 rfl rfl), ⟨by decide, by decide⟩, by decide +kernel, by decide⟩
theorem bb_Plan_consider : cB m_Plan_consider 3 := bb0_Plan_consider
set_option maxRecDepth 20000 in
theorem vv_Plan_consider : cV m_Plan_consider := ⟨(gwt5 84 rfl rfl), (gw_p 40 rfl rfl)⟩
def tb_Plan_searchBeyond : List (Nat × Instr × Nat) := [(0, .iload_n 1, 1), (1, .iconst 1, 1), (2, .iadd, 1), (3, .istore_n 2, 1), (4, .iload_n 2, 1), (5, .aload_n 0, 1), (6, .getfield 21, 3), (9, .if_icmp .ge 123, 3), (12, .iload_n 2, 1), (13, .bipush 30, 2), (15, .if_icmp .ge 117, 3), (18, .aload_n 0, 1), (19, .getfield 28, 3), (22, .iload_n 2, 1), (23, .invokestatic 62, 3), (26, .ifCond .ne 6, 3), (29, .goto 97, 3), (32, .iload_n 1, 1), (33, .invokestatic 79, 3), (36, .iload_n 2, 1), (37, .invokestatic 79, 3), (40, .ior, 1), (41, .istore_n 3, 1), (42, .aload_n 0, 1), (43, .getfield 15, 3), (46, .iload_n 1, 1), (47, .iaload, 1), (48, .aload_n 0, 1), (49, .getfield 15, 3), (52, .iload_n 2, 1), (53, .iaload, 1), (54, .iadd, 1), (55, .istore 4, 2), (57, .aload_n 0, 1), (58, .iload_n 3, 1), (59, .iload 4, 2), (61, .iconst 2, 1), (62, .invokevirtual 82, 3), (65, .iload_n 2, 1), (66, .iconst 1, 1), (67, .iadd, 1), (68, .istore 5, 2), (70, .iload 5, 2), (72, .aload_n 0, 1), (73, .getfield 21, 3), (76, .if_icmp .ge 50, 3), (79, .iload 5, 2), (81, .bipush 30, 2), (83, .if_icmp .ge 43, 3), (86, .aload_n 0, 1), (87, .getfield 28, 3), (90, .iload 5, 2), (92, .invokestatic 62, 3), (95, .ifCond .eq 25, 3), (98, .aload_n 0, 1), (99, .iload_n 3, 1), (100, .iload 5, 2), (102, .invokestatic 79, 3), (105, .ior, 1), (106, .iload 4, 2), (108, .aload_n 0, 1), (109, .getfield 15, 3), (112, .iload 5, 2), (114, .iaload, 1), (115, .iadd, 1), (116, .iconst 3, 1), (117, .invokevirtual 82, 3), (120, .iinc 5 1, 3), (123, .goto (-53), 3), (126, .iinc 2 1, 3), (129, .goto (-125), 3), (132, .return_, 1)]
def m_Plan_searchBeyond : AM := (11, ⟨"HeathForks$WellPlan", "searchBeyond", "(I)V"⟩, prog_12_method_4_code, tb_Plan_searchBeyond, 6, none, 4)
theorem tk_Plan_searchBeyond : tabOk prog_12_method_4_code tb_Plan_searchBeyond := by unfold tabOk; decide +kernel
set_option maxRecDepth 20000 in
theorem bb0_Plan_searchBeyond : cB m_Plan_searchBeyond 1 := ⟨(gwt1 12 rfl rfl), (gwt5 99 rfl rfl), ⟨by decide, by decide⟩, by decide +kernel, by decide⟩
theorem bb_Plan_searchBeyond : cB m_Plan_searchBeyond 1 := bb0_Plan_searchBeyond
set_option maxRecDepth 20000 in
theorem vv_Plan_searchBeyond : cV m_Plan_searchBeyond := ⟨(gwt5 98 rfl rfl), (gw_p 43 rfl rfl)⟩
def tb_Plan_search : List (Nat × Instr × Nat) := [(0, .aload_n 0, 1), (1, .iconst 0, 1), (2, .iconst 0, 1), (3, .iconst 0, 1), (4, .invokevirtual 82, 3), (7, .iconst 0, 1), (8, .istore_n 1, 1), (9, .iload_n 1, 1), (10, .aload_n 0, 1), (11, .getfield 21, 3), (14, .if_icmp .ge 46, 3), (17, .iload_n 1, 1), (18, .bipush 30, 2), (20, .if_icmp .ge 40, 3), (23, .aload_n 0, 1), (24, .getfield 28, 3), (27, .iload_n 1, 1), (28, .invokestatic 62, 3), (31, .ifCond .eq 23, 3), (34, .aload_n 0, 1), (35, .iload_n 1, 1), (36, .invokestatic 79, 3), (39, .aload_n 0, 1), (40, .getfield 15, 3), (43, .iload_n 1, 1), (44, .iaload, 1), (45, .iconst 1, 1), (46, .invokevirtual 82, 3), (49, .aload_n 0, 1), (50, .iload_n 1, 1), (51, .invokevirtual 86, 3), (54, .iinc 1 1, 3), (57, .goto (-48), 3), (60, .return_, 1)]
def m_Plan_search : AM := (11, ⟨"HeathForks$WellPlan", "search", "()V"⟩, prog_12_method_3_code, tb_Plan_search, 2, none, 5)
theorem tk_Plan_search : tabOk prog_12_method_3_code tb_Plan_search := by unfold tabOk; decide +kernel
set_option maxRecDepth 20000 in
theorem bb0_Plan_search : cB m_Plan_search 0 := ⟨(gwt1 12 rfl rfl), (gwt5 81 rfl rfl), ⟨by decide, by decide⟩, by decide +kernel, by decide⟩
theorem bb_Plan_search : cB m_Plan_search 0 := bb0_Plan_search
set_option maxRecDepth 20000 in
theorem vv_Plan_search : cV m_Plan_search := ⟨(gwt5 79 rfl rfl), (gwt5 80 rfl rfl)⟩
def tb_HF_cheapest : List (Nat × Instr × Nat) := [(0, .aload_n 0, 1), (1, .invokevirtual 137, 3), (4, .ifCond .eq 23, 3), (7, .iload_n 1, 1), (8, .iconst 1, 1), (9, .if_icmp .lt 18, 3), (12, .iload_n 1, 1), (13, .bipush 40, 2), (15, .if_icmp .gt 12, 3), (18, .iload_n 2, 1), (19, .ifCond .lt 8, 3), (22, .iload_n 2, 1), (23, .iconst 1, 1), (24, .if_icmp .le 5, 3), (27, .iconst (-1), 1), (28, .ireturn, 1), (29, .aload_n 0, 1), (30, .getfield 83, 3), (33, .aload_n 0, 1), (34, .getfield 90, 3), (37, .aload_n 0, 1), (38, .getfield 56, 3), (41, .iload_n 1, 1), (42, .invokevirtual 308, 3), (45, .aload_n 0, 1), (46, .getfield 83, 3), (49, .invokevirtual 312, 3), (52, .aload_n 0, 1), (53, .getfield 83, 3), (56, .getfield 315, 3), (59, .ifCond .ne 5, 3), (62, .iconst (-1), 1), (63, .ireturn, 1), (64, .iload_n 2, 1), (65, .ifCond .ne 13, 3), (68, .aload_n 0, 1), (69, .getfield 83, 3), (72, .getfield 318, 3), (75, .goto 10, 3), (78, .aload_n 0, 1), (79, .getfield 83, 3), (82, .getfield 321, 3), (85, .ireturn, 1)]
def m_HF_cheapest : AM := (0, ⟨"HeathForks", "cheapest", "(II)I"⟩, prog_1_method_21_code, tb_HF_cheapest, 3, some .int, 6)
theorem tk_HF_cheapest : tabOk prog_1_method_21_code tb_HF_cheapest := by unfold tabOk; decide +kernel
set_option maxRecDepth 20000 in
theorem bb0_HF_cheapest : cB m_HF_cheapest 2 := ⟨(gwt1 1 rfl rfl), (gwt5 66 rfl rfl), ⟨by decide, by decide⟩, by decide +kernel, by decide⟩
theorem bb_HF_cheapest : cB m_HF_cheapest 2 := bb0_HF_cheapest
set_option maxRecDepth 20000 in
theorem vv_HF_cheapest : cV m_HF_cheapest := ⟨(gwt5 64 rfl rfl), (gwt5 65 rfl rfl)⟩
def tb_Heath_allCells : List (Nat × Instr × Nat) := [(0, .aload_n 0, 1), (1, .getfield 40, 3), (4, .invokestatic 68, 3), (7, .iconst 1, 1), (8, .isub, 1), (9, .ireturn, 1)]
def m_Heath_allCells : AM := (3, ⟨"HeathForks$Heath", "allCells", "()I"⟩, prog_4_method_6_code, tb_Heath_allCells, 1, some .int, 1)
theorem tk_Heath_allCells : tabOk prog_4_method_6_code tb_Heath_allCells := by unfold tabOk; decide +kernel
set_option maxRecDepth 20000 in
theorem bb0_Heath_allCells : cB m_Heath_allCells 0 := ⟨(gwt1 4 rfl rfl), (gwt5 111 rfl rfl), ⟨by decide, by decide⟩, by decide +kernel, by decide⟩
theorem bb_Heath_allCells : cB m_Heath_allCells 0 := bb0_Heath_allCells
set_option maxRecDepth 20000 in
theorem vv_Heath_allCells : cV m_Heath_allCells := ⟨(gwt5 109 rfl rfl), (gwt5 110 rfl rfl)⟩
def tb_HF_freeOf : List (Nat × Instr × Nat) := [(0, .aload_n 0, 1), (1, .getfield 90, 3), (4, .invokevirtual 429, 3), (7, .aload_n 0, 1), (8, .getfield 56, 3), (11, .iconst 1, 1), (12, .iload_n 1, 1), (13, .isub, 1), (14, .invokevirtual 336, 3), (17, .iconst (-1), 1), (18, .ixor, 1), (19, .iand, 1), (20, .ireturn, 1)]
def m_HF_freeOf : AM := (0, ⟨"HeathForks", "freeOf", "(I)I"⟩, prog_1_method_61_code, tb_HF_freeOf, 2, some .int, 2)
theorem tk_HF_freeOf : tabOk prog_1_method_61_code tb_HF_freeOf := by unfold tabOk; decide +kernel
set_option maxRecDepth 20000 in
theorem bb0_HF_freeOf : cB m_HF_freeOf 1 := ⟨(gwt1 1 rfl rfl), (gwt5 107 rfl rfl), ⟨by decide, by decide⟩, by decide +kernel, by decide⟩
theorem bb_HF_freeOf : cB m_HF_freeOf 1 := bb0_HF_freeOf
set_option maxRecDepth 20000 in
theorem vv_HF_freeOf : cV m_HF_freeOf := ⟨(gwt5 106 rfl rfl), (gw_p 44 rfl rfl)⟩
def tb_Heath_besideAll : List (Nat × Instr × Nat) := [(0, .iconst 0, 1), (1, .istore_n 2, 1), (2, .iconst 0, 1), (3, .istore_n 3, 1), (4, .iload_n 3, 1), (5, .aload_n 0, 1), (6, .getfield 40, 3), (9, .if_icmp .ge 25, 3), (12, .iload_n 1, 1), (13, .iload_n 3, 1), (14, .invokestatic 81, 3), (17, .ifCond .eq 11, 3), (20, .iload_n 2, 1), (21, .aload_n 0, 1), (22, .iload_n 3, 1), (23, .invokevirtual 85, 3), (26, .ior, 1), (27, .istore_n 2, 1), (28, .iinc 3 1, 3), (31, .goto (-27), 3), (34, .iload_n 2, 1), (35, .ireturn, 1)]
def m_Heath_besideAll : AM := (3, ⟨"HeathForks$Heath", "besideAll", "(I)I"⟩, prog_4_method_11_code, tb_Heath_besideAll, 4, some .int, 2)
theorem tk_Heath_besideAll : tabOk prog_4_method_11_code tb_Heath_besideAll := by unfold tabOk; decide +kernel
set_option maxRecDepth 20000 in
theorem bb0_Heath_besideAll : cB m_Heath_besideAll 1 := ⟨(gwt1 4 rfl rfl), (gwt5 116 rfl rfl), ⟨by decide, by decide⟩, by decide +kernel, by decide⟩
theorem bb_Heath_besideAll : cB m_Heath_besideAll 1 := bb0_Heath_besideAll
set_option maxRecDepth 20000 in
theorem vv_Heath_besideAll : cV m_Heath_besideAll := ⟨(gwt5 114 rfl rfl), (gwt5 115 rfl rfl)⟩
def tb_HF_reach : List (Nat × Instr × Nat) := [(0, .aload_n 0, 1), (1, .getfield 90, 3), (4, .iload_n 1, 1), (5, .invokevirtual 180, 3), (8, .ifCond .eq 13, 3), (11, .iload_n 2, 1), (12, .ifCond .lt 9, 3), (15, .iload_n 2, 1), (16, .bipush 9, 2), (18, .if_icmp .le 5, 3), (21, .iconst (-1), 1), (22, .ireturn, 1), (23, .aload_n 0, 1), (24, .aload_n 0, 1), (25, .getfield 90, 3), (28, .iload_n 1, 1), (29, .iconst 5, 1), (30, .invokevirtual 196, 3), (33, .invokevirtual 324, 3), (36, .istore_n 3, 1), (37, .aload_n 0, 1), (38, .getfield 56, 3), (41, .iload_n 1, 1), (42, .invokevirtual 190, 3), (45, .invokestatic 327, 3), (48, .istore 4, 2), (50, .iconst 0, 1), (51, .istore 5, 2), (53, .iload 5, 2), (55, .iload_n 2, 1), (56, .if_icmp .ge 25, 3), (59, .iload 4, 2), (61, .aload_n 0, 1), (62, .getfield 90, 3), (65, .iload 4, 2), (67, .invokevirtual 330, 3), (70, .iload_n 3, 1), (71, .iand, 1), (72, .ior, 1), (73, .istore 4, 2), (75, .iinc 5 1, 3), (78, .goto (-25), 3), (81, .iload 4, 2), (83, .ireturn, 1)]
def m_HF_reach : AM := (0, ⟨"HeathForks", "reach", "(II)I"⟩, prog_1_method_22_code, tb_HF_reach, 6, some .int, 3)
theorem tk_HF_reach : tabOk prog_1_method_22_code tb_HF_reach := by unfold tabOk; decide +kernel
set_option maxRecDepth 20000 in
theorem bb0_HF_reach : cB m_HF_reach 2 := ⟨(gwt1 1 rfl rfl), (gwt5 103 rfl rfl), ⟨by decide, by decide⟩, by decide +kernel, by decide⟩
theorem bb_HF_reach : cB m_HF_reach 2 := bb0_HF_reach
set_option maxRecDepth 20000 in
theorem vv_HF_reach : cV m_HF_reach := ⟨(gwt5 101 rfl rfl), (gwt5 102 rfl rfl)⟩
def tb_HF_stuck : List (Nat × Instr × Nat) := [(0, .aload_n 0, 1), (1, .invokevirtual 137, 3), (4, .ifCond .ne 5, 3), (7, .iconst (-1), 1), (8, .ireturn, 1), (9, .iconst 0, 1), (10, .istore_n 1, 1), (11, .iconst 0, 1), (12, .istore_n 2, 1), (13, .iload_n 2, 1), (14, .aload_n 0, 1), (15, .getfield 90, 3), (18, .getfield 246, 3), (21, .if_icmp .ge 50, 3), (24, .aload_n 0, 1), (25, .aload_n 0, 1), (26, .getfield 90, 3), (29, .iload_n 2, 1), (30, .iconst 5, 1), (31, .invokevirtual 196, 3), (34, .invokevirtual 324, 3), (37, .istore_n 3, 1), (38, .aload_n 0, 1), (39, .getfield 90, 3), (42, .aload_n 0, 1), (43, .getfield 56, 3), (46, .iload_n 2, 1), (47, .invokevirtual 190, 3), (50, .invokevirtual 333, 3), (53, .iload_n 3, 1), (54, .iand, 1), (55, .ifCond .ne 10, 3), (58, .iload_n 1, 1), (59, .iload_n 2, 1), (60, .invokestatic 327, 3), (63, .ior, 1), (64, .istore_n 1, 1), (65, .iinc 2 1, 3), (68, .goto (-55), 3), (71, .iload_n 1, 1), (72, .ireturn, 1)]
def m_HF_stuck : AM := (0, ⟨"HeathForks", "stuck", "()I"⟩, prog_1_method_23_code, tb_HF_stuck, 4, some .int, 3)
theorem tk_HF_stuck : tabOk prog_1_method_23_code tb_HF_stuck := by unfold tabOk; decide +kernel
set_option maxRecDepth 20000 in
theorem bb0_HF_stuck : cB m_HF_stuck 0 := ⟨(gwt1 1 rfl rfl), (gwt5 122 rfl rfl), ⟨by decide, by decide⟩, by decide +kernel, by decide⟩
theorem bb_HF_stuck : cB m_HF_stuck 0 := bb0_HF_stuck
set_option maxRecDepth 20000 in
theorem vv_HF_stuck : cV m_HF_stuck := ⟨(gwt5 120 rfl rfl), (gwt5 121 rfl rfl)⟩
def tb_HF_trail : List (Nat × Instr × Nat) := [(0, .aload_n 0, 1), (1, .invokevirtual 137, 3), (4, .ifCond .eq 12, 3), (7, .iload_n 1, 1), (8, .ifCond .lt 8, 3), (11, .iload_n 1, 1), (12, .iconst 1, 1), (13, .if_icmp .le 5, 3), (16, .iconst (-1), 1), (17, .ireturn, 1), (18, .iload_n 2, 1), (19, .ifCond .ne 12, 3), (22, .aload_n 0, 1), (23, .getfield 56, 3), (26, .iload_n 1, 1), (27, .invokevirtual 336, 3), (30, .ireturn, 1), (31, .iload_n 2, 1), (32, .iconst 1, 1), (33, .if_icmp .ne 11, 3), (36, .aload_n 0, 1), (37, .iload_n 1, 1), (38, .invokevirtual 324, 3), (41, .goto 4, 3), (44, .iconst (-1), 1), (45, .ireturn, 1)]
def m_HF_trail : AM := (0, ⟨"HeathForks", "trail", "(II)I"⟩, prog_1_method_24_code, tb_HF_trail, 3, some .int, 3)
theorem tk_HF_trail : tabOk prog_1_method_24_code tb_HF_trail := by unfold tabOk; decide +kernel
set_option maxRecDepth 20000 in
theorem bb0_HF_trail : cB m_HF_trail 2 := ⟨(gwt1 1 rfl rfl), (gwt5 126 rfl rfl), ⟨by decide, by decide⟩, by decide +kernel, by decide⟩
theorem bb_HF_trail : cB m_HF_trail 2 := bb0_HF_trail
set_option maxRecDepth 20000 in
theorem vv_HF_trail : cV m_HF_trail := ⟨(gwt5 124 rfl rfl), (gwt5 125 rfl rfl)⟩
def tb_Heard_add : List (Nat × Instr × Nat) := [(0, .aload_n 0, 1), (1, .getfield 28, 3), (4, .ifCond .lt 52, 3), (7, .aload_n 0, 1), (8, .getfield 28, 3), (11, .bipush 12, 2), (13, .if_icmp .ge 43, 3), (16, .aload_n 0, 1), (17, .getfield 9, 3), (20, .aload_n 0, 1), (21, .getfield 28, 3), (24, .iload_n 1, 1), (25, .iastore, 1), (26, .aload_n 0, 1), (27, .getfield 15, 3), (30, .aload_n 0, 1), (31, .getfield 28, 3), (34, .iload_n 2, 1), (35, .iastore, 1), (36, .aload_n 0, 1), (37, .getfield 18, 3), (40, .aload_n 0, 1), (41, .getfield 28, 3), (44, .iload_n 3, 1), (45, .bastore, 1), (46, .aload_n 0, 1), (47, .dup, 1), (48, .getfield 28, 3), (51, .iconst 1, 1), (52, .iadd, 1), (53, .putfield 28, 3), (56, .return_, 1)]
def m_Heard_add : AM := (10, ⟨"HeathForks$Heard", "add", "(IIZ)V"⟩, prog_3_method_2_code, tb_Heard_add, 4, none, 0)
theorem tk_Heard_add : tabOk prog_3_method_2_code tb_Heard_add := by unfold tabOk; decide +kernel
set_option maxRecDepth 20000 in
theorem bb0_Heard_add : cB m_Heard_add 3 := ⟨(gwt1 11 rfl rfl), (gwt5 134 rfl rfl), ⟨by decide, by decide⟩, by decide +kernel, by decide⟩
theorem bb_Heard_add : cB m_Heard_add 3 := bb0_Heard_add
set_option maxRecDepth 20000 in
theorem vv_Heard_add : cV m_Heard_add := ⟨(gwt5 132 rfl rfl), (gwt5 133 rfl rfl)⟩
def tb_HF_hear : List (Nat × Instr × Nat) := [(0, .aload_n 0, 1), (1, .getfield 90, 3), (4, .iload_n 1, 1), (5, .invokevirtual 180, 3), (8, .ifCond .eq 26, 3), (11, .aload_n 0, 1), (12, .getfield 90, 3), (15, .iload_n 2, 1), (16, .invokevirtual 153, 3), (19, .ifCond .eq 15, 3), (22, .aload_n 0, 1), (23, .getfield 76, 3), (26, .getfield 339, 3), (29, .bipush 12, 2), (31, .if_icmp .lt 5, 3), (34, .iconst (-1), 1), (35, .ireturn, 1), (36, .aload_n 0, 1), (37, .getfield 76, 3), (40, .iload_n 1, 1), (41, .iload_n 2, 1), (42, .iload_n 3, 1), (43, .invokevirtual 340, 3), (46, .aload_n 0, 1), (47, .getfield 76, 3), (50, .getfield 339, 3), (53, .ireturn, 1)]
def m_HF_hear : AM := (0, ⟨"HeathForks", "hear", "(IIZ)I"⟩, prog_1_method_25_code, tb_HF_hear, 4, some .int, 1)
theorem tk_HF_hear : tabOk prog_1_method_25_code tb_HF_hear := by unfold tabOk; decide +kernel
set_option maxRecDepth 20000 in
theorem bb0_HF_hear : cB m_HF_hear 3 := ⟨(gwt1 1 rfl rfl), (gwt5 130 rfl rfl), ⟨by decide, by decide⟩, by decide +kernel, by decide⟩
theorem bb_HF_hear : cB m_HF_hear 3 := bb0_HF_hear
set_option maxRecDepth 20000 in
theorem vv_HF_hear : cV m_HF_hear := ⟨(gwt5 128 rfl rfl), (gwt5 129 rfl rfl)⟩
def tb_HF_canScan : List (Nat × Instr × Nat) := [(0, .aload_n 0, 1), (1, .invokevirtual 137, 3), (4, .ifCond .eq 17, 3), (7, .iload_n 1, 1), (8, .iconst 2, 1), (9, .if_icmp .lt 12, 3), (12, .iload_n 1, 1), (13, .iconst 5, 1), (14, .if_icmp .gt 7, 3), (17, .iconst 1, 1), (18, .goto 4, 3), (21, .iconst 0, 1), (22, .ireturn, 1)]
def m_HF_canScan : AM := (0, ⟨"HeathForks", "canScan", "(I)Z"⟩, prog_1_method_51_code, tb_HF_canScan, 2, some .boolean, 1)
theorem tk_HF_canScan : tabOk prog_1_method_51_code tb_HF_canScan := by unfold tabOk; decide +kernel
set_option maxRecDepth 20000 in
theorem bb0_HF_canScan : cB m_HF_canScan 1 := ⟨(gwt1 1 rfl rfl), (gwt5 142 rfl rfl), ⟨by decide, by decide⟩, by decide +kernel, by decide⟩
theorem bb_HF_canScan : cB m_HF_canScan 1 := bb0_HF_canScan
set_option maxRecDepth 20000 in
theorem vv_HF_canScan : cV m_HF_canScan := ⟨(gwt5 141 rfl rfl), (gw_p 45 rfl rfl)⟩
def tb_Heard_gather : List (Nat × Instr × Nat) := [(0, .aload_n 0, 1), (1, .iconst 0, 1), (2, .putfield 32, 3), (5, .aload_n 0, 1), (6, .iconst 0, 1), (7, .putfield 35, 3), (10, .iconst 0, 1), (11, .istore_n 2, 1), (12, .iload_n 2, 1), (13, .aload_n 0, 1), (14, .getfield 28, 3), (17, .if_icmp .ge 83, 3), (20, .iload_n 2, 1), (21, .bipush 12, 2), (23, .if_icmp .ge 77, 3), (26, .aload_n 0, 1), (27, .getfield 9, 3), (30, .iload_n 2, 1), (31, .iaload, 1), (32, .iload_n 1, 1), (33, .if_icmp .eq 33, 3), (36, .aload_n 0, 1), (37, .getfield 18, 3), (40, .iload_n 2, 1), (41, .baload, 1), (42, .ifCond .eq 24, 3), (45, .aload_n 0, 1), (46, .dup, 1), (47, .getfield 32, 3), (50, .aload_n 0, 1), (51, .getfield 15, 3), (54, .iload_n 2, 1), (55, .iaload, 1), (56, .invokestatic 56, 3), (59, .ior, 1), (60, .putfield 32, 3), (63, .goto 31, 3), (66, .aload_n 0, 1), (67, .getfield 9, 3), (70, .iload_n 2, 1), (71, .iaload, 1), (72, .iload_n 1, 1), (73, .if_icmp .eq 21, 3), (76, .aload_n 0, 1), (77, .dup, 1), (78, .getfield 35, 3), (81, .aload_n 0, 1), (82, .getfield 15, 3), (85, .iload_n 2, 1), (86, .iaload, 1), (87, .invokestatic 56, 3), (90, .ior, 1), (91, .putfield 35, 3), (94, .iinc 2 1, 3), (97, .goto (-85), 3), (100, .return_, 1)]
def m_Heard_gather : AM := (10, ⟨"HeathForks$Heard", "gather", "(I)V"⟩, prog_3_method_5_code, tb_Heard_gather, 3, none, 1)
theorem tk_Heard_gather : tabOk prog_3_method_5_code tb_Heard_gather := by unfold tabOk; decide +kernel
set_option maxRecDepth 20000 in
theorem bb0_Heard_gather : cB m_Heard_gather 1 := ⟨(gwt1 11 rfl rfl), (gwt5 150 rfl rfl), ⟨by decide, by decide⟩, by decide +kernel, by decide⟩
theorem bb_Heard_gather : cB m_Heard_gather 1 := bb0_Heard_gather
set_option maxRecDepth 20000 in
theorem vv_Heard_gather : cV m_Heard_gather := ⟨(gwt5 149 rfl rfl), (gw_p 46 rfl rfl)⟩
def tb_Heard_veinBits : List (Nat × Instr × Nat) := [(0, .iload_n 1, 1), (1, .invokestatic 56, 3), (4, .istore 4, 2), (6, .iload_n 1, 1), (7, .istore 5, 2), (9, .iload_n 2, 1), (10, .iconst 2, 1), (11, .isub, 1), (12, .istore 6, 2), (14, .iload 6, 2), (16, .ifCond .lt 41, 3), (19, .aload_n 0, 1), (20, .iload 5, 2), (22, .iload_n 3, 1), (23, .iload 6, 2), (25, .ishr, 1), (26, .iconst 1, 1), (27, .iand, 1), (28, .invokevirtual 68, 3), (31, .istore 5, 2), (33, .iload 5, 2), (35, .iconst (-1), 1), (36, .if_icmp .ne 5, 3), (39, .iconst 0, 1), (40, .ireturn, 1), (41, .iload 4, 2), (43, .iload 5, 2), (45, .invokestatic 56, 3), (48, .ior, 1), (49, .istore 4, 2), (51, .iinc 6 (-1), 3), (54, .goto (-40), 3), (57, .iload 4, 2), (59, .ireturn, 1)]
def m_Heard_veinBits : AM := (10, ⟨"HeathForks$Heard", "veinBits", "(LHeathForks$Heath;III)I"⟩, prog_3_method_6_code, tb_Heard_veinBits, 7, some .int, 2)
theorem tk_Heard_veinBits : tabOk prog_3_method_6_code tb_Heard_veinBits := by unfold tabOk; decide +kernel
set_option maxRecDepth 20000 in
theorem bb0_Heard_veinBits : cB m_Heard_veinBits 4 := ⟨(gwt1 11 rfl rfl), (gwt5 155 rfl rfl), ⟨by decide, by decide⟩, by decide +kernel, by decide⟩
theorem bb_Heard_veinBits : cB m_Heard_veinBits 4 := bb0_Heard_veinBits
set_option maxRecDepth 20000 in
theorem vv_Heard_veinBits : Cond.static (my m_Heard_veinBits) ∈ gw := (gwt5 154 rfl rfl)
def tb_Heard_addFit : List (Nat × Instr × Nat) := [(0, .aload_n 0, 1), (1, .getfield 38, 3), (4, .ifCond .lt 13, 3), (7, .aload_n 0, 1), (8, .getfield 38, 3), (11, .sipush 480, 3), (14, .if_icmp .lt 4, 3), (17, .return_, 1), (18, .aload_n 0, 1), (19, .getfield 22, 3), (22, .aload_n 0, 1), (23, .getfield 38, 3), (26, .iload_n 1, 1), (27, .iastore, 1), (28, .aload_n 0, 1), (29, .dup, 1), (30, .getfield 38, 3), (33, .iconst 1, 1), (34, .iadd, 1), (35, .putfield 38, 3), (38, .aload_n 0, 1), (39, .dup, 1), (40, .getfield 41, 3), (43, .iload_n 2, 1), (44, .iand, 1), (45, .putfield 41, 3), (48, .iconst 0, 1), (49, .istore_n 3, 1), (50, .iload_n 3, 1), (51, .bipush 30, 2), (53, .if_icmp .ge 23, 3), (56, .aload_n 0, 1), (57, .getfield 25, 3), (60, .iload_n 3, 1), (61, .dup2, 1), (62, .iaload, 1), (63, .iload_n 2, 1), (64, .iload_n 3, 1), (65, .ishr, 1), (66, .iconst 1, 1), (67, .iand, 1), (68, .iadd, 1), (69, .iastore, 1), (70, .iinc 3 1, 3), (73, .goto (-23), 3), (76, .return_, 1)]
def m_Heard_addFit : AM := (10, ⟨"HeathForks$Heard", "addFit", "(II)V"⟩, prog_3_method_7_code, tb_Heard_addFit, 4, none, 0)
theorem tk_Heard_addFit : tabOk prog_3_method_7_code tb_Heard_addFit := by unfold tabOk; decide +kernel
set_option maxRecDepth 20000 in
theorem bb0_Heard_addFit : cB m_Heard_addFit 2 := ⟨(gwt1 11 rfl rfl), (gwt5 160 rfl rfl), ⟨by decide, by decide⟩, by decide +kernel, by decide⟩
theorem bb_Heard_addFit : cB m_Heard_addFit 2 := bb0_Heard_addFit
set_option maxRecDepth 20000 in
theorem vv_Heard_addFit : cV m_Heard_addFit := ⟨(gwt5 159 rfl rfl), (gw_p 47 rfl rfl)⟩
def tb_Heard_scan : List (Nat × Instr × Nat) := [(0, .aload_n 0, 1), (1, .iload_n 3, 1), (2, .invokevirtual 44, 3), (5, .aload_n 0, 1), (6, .iconst 0, 1), (7, .putfield 38, 3), (10, .aload_n 0, 1), (11, .aload_n 1, 1), (12, .invokevirtual 48, 3), (15, .putfield 41, 3), (18, .iconst 0, 1), (19, .istore 4, 2), (21, .iload 4, 2), (23, .bipush 30, 2), (25, .if_icmp .ge 17, 3), (28, .aload_n 0, 1), (29, .getfield 25, 3), (32, .iload 4, 2), (34, .iconst 0, 1), (35, .iastore, 1), (36, .iinc 4 1, 3), (39, .goto (-18), 3), (42, .iconst 0, 1), (43, .istore 4, 2), (45, .iload 4, 2), (47, .aload_n 1, 1), (48, .getfield 54, 3), (51, .if_icmp .ge 83, 3), (54, .iconst 0, 1), (55, .istore 5, 2), (57, .iload 5, 2), (59, .iload_n 2, 1), (60, .iconst 1, 1), (61, .isub, 1), (62, .invokestatic 56, 3), (65, .if_icmp .ge 63, 3), (68, .aload_n 1, 1), (69, .iload 4, 2), (71, .iload_n 2, 1), (72, .iload 5, 2), (74, .invokestatic 60, 3), (77, .istore 6, 2), (79, .iload 6, 2), (81, .ifCond .eq 41, 3), (84, .iload 6, 2), (86, .aload_n 0, 1), (87, .getfield 32, 3), (90, .iand, 1), (91, .aload_n 0, 1), (92, .getfield 32, 3), (95, .if_icmp .ne 27, 3), (98, .iload 6, 2), (100, .aload_n 0, 1), (101, .getfield 35, 3), (104, .iand, 1), (105, .ifCond .ne 17, 3), (108, .aload_n 0, 1), (109, .iload 4, 2), (111, .bipush 100, 2), (113, .imul, 1), (114, .iload 5, 2), (116, .iadd, 1), (117, .iload 6, 2), (119, .invokevirtual 64, 3), (122, .iinc 5 1, 3), (125, .goto (-68), 3), (128, .iinc 4 1, 3), (131, .goto (-86), 3), (134, .return_, 1)]
def m_Heard_scan : AM := (10, ⟨"HeathForks$Heard", "scan", "(LHeathForks$Heath;II)V"⟩, prog_3_method_4_code, tb_Heard_scan, 7, none, 3)
theorem tk_Heard_scan : tabOk prog_3_method_4_code tb_Heard_scan := by unfold tabOk; decide +kernel
set_option maxRecDepth 20000 in
theorem bb0_Heard_scan : cB m_Heard_scan 3 := ⟨(gwt1 11 rfl rfl), (gwt5 146 rfl rfl), ⟨by decide, by decide⟩, by decide +kernel, by decide⟩
theorem bb_Heard_scan : cB m_Heard_scan 3 := bb0_Heard_scan
set_option maxRecDepth 20000 in
theorem vv_Heard_scan : cV m_Heard_scan := ⟨(gwt5 144 rfl rfl), (gwt5 145 rfl rfl)⟩
def tb_Heard_codeAt : List (Nat × Instr × Nat) := [(0, .iload_n 1, 1), (1, .ifCond .lt 27, 3), (4, .iload_n 1, 1), (5, .aload_n 0, 1), (6, .getfield 38, 3), (9, .if_icmp .ge 19, 3), (12, .iload_n 1, 1), (13, .sipush 480, 3), (16, .if_icmp .ge 12, 3), (19, .aload_n 0, 1), (20, .getfield 22, 3), (23, .iload_n 1, 1), (24, .iaload, 1), (25, .goto 4, 3), (28, .iconst (-1), 1), (29, .ireturn, 1)]
def m_Heard_codeAt : AM := (10, ⟨"HeathForks$Heard", "codeAt", "(I)I"⟩, prog_3_method_3_code, tb_Heard_codeAt, 2, some .int, 0)
theorem tk_Heard_codeAt : tabOk prog_3_method_3_code tb_Heard_codeAt := by unfold tabOk; decide +kernel
set_option maxRecDepth 20000 in
theorem bb0_Heard_codeAt : cB m_Heard_codeAt 1 := ⟨(gwt1 11 rfl rfl), (gwt5 164 rfl rfl), ⟨by decide, by decide⟩, by decide +kernel, by decide⟩
theorem bb_Heard_codeAt : cB m_Heard_codeAt 1 := bb0_Heard_codeAt
set_option maxRecDepth 20000 in
theorem vv_Heard_codeAt : cV m_Heard_codeAt := ⟨(gwt5 162 rfl rfl), (gwt5 163 rfl rfl)⟩
def tb_HF_fits : List (Nat × Instr × Nat) := [(0, .aload_n 0, 1), (1, .iload_n 1, 1), (2, .invokevirtual 343, 3), (5, .ifCond .ne 5, 3), (8, .iconst (-1), 1), (9, .ireturn, 1), (10, .aload_n 0, 1), (11, .getfield 76, 3), (14, .aload_n 0, 1), (15, .getfield 90, 3), (18, .iload_n 1, 1), (19, .iconst (-1), 1), (20, .invokevirtual 346, 3), (23, .iload_n 2, 1), (24, .iconst (-1), 1), (25, .if_icmp .ne 13, 3), (28, .aload_n 0, 1), (29, .getfield 76, 3), (32, .getfield 350, 3), (35, .goto 11, 3), (38, .aload_n 0, 1), (39, .getfield 76, 3), (42, .iload_n 2, 1), (43, .invokevirtual 353, 3), (46, .ireturn, 1)]
def m_HF_fits : AM := (0, ⟨"HeathForks", "fits", "(II)I"⟩, prog_1_method_26_code, tb_HF_fits, 3, some .int, 4)
theorem tk_HF_fits : tabOk prog_1_method_26_code tb_HF_fits := by unfold tabOk; decide +kernel
set_option maxRecDepth 20000 in
theorem bb0_HF_fits : cB m_HF_fits 2 := ⟨(gwt1 1 rfl rfl), (gwt5 138 rfl rfl), ⟨by decide, by decide⟩, by decide +kernel, by decide⟩
theorem bb_HF_fits : cB m_HF_fits 2 := bb0_HF_fits
set_option maxRecDepth 20000 in
theorem vv_HF_fits : cV m_HF_fits := ⟨(gwt5 136 rfl rfl), (gwt5 137 rfl rfl)⟩
def tb_HF_sure : List (Nat × Instr × Nat) := [(0, .aload_n 0, 1), (1, .iload_n 1, 1), (2, .invokevirtual 343, 3), (5, .ifCond .ne 5, 3), (8, .iconst (-1), 1), (9, .ireturn, 1), (10, .aload_n 0, 1), (11, .getfield 76, 3), (14, .aload_n 0, 1), (15, .getfield 90, 3), (18, .iload_n 1, 1), (19, .iconst (-1), 1), (20, .invokevirtual 346, 3), (23, .aload_n 0, 1), (24, .getfield 76, 3), (27, .getfield 350, 3), (30, .ifCond .ne 7, 3), (33, .iconst (-1), 1), (34, .goto 10, 3), (37, .aload_n 0, 1), (38, .getfield 76, 3), (41, .getfield 356, 3), (44, .ireturn, 1)]
def m_HF_sure : AM := (0, ⟨"HeathForks", "sure", "(I)I"⟩, prog_1_method_27_code, tb_HF_sure, 2, some .int, 4)
theorem tk_HF_sure : tabOk prog_1_method_27_code tb_HF_sure := by unfold tabOk; decide +kernel
set_option maxRecDepth 20000 in
theorem bb0_HF_sure : cB m_HF_sure 1 := ⟨(gwt1 1 rfl rfl), (gwt5 168 rfl rfl), ⟨by decide, by decide⟩, by decide +kernel, by decide⟩
theorem bb_HF_sure : cB m_HF_sure 1 := bb0_HF_sure
set_option maxRecDepth 20000 in
theorem vv_HF_sure : cV m_HF_sure := ⟨(gwt5 166 rfl rfl), (gwt5 167 rfl rfl)⟩
def tb_Heard_mostTelling : List (Nat × Instr × Nat) := [(0, .iconst 0, 1), (1, .istore_n 2, 1), (2, .sipush 481, 3), (5, .istore_n 3, 1), (6, .iconst 0, 1), (7, .istore 4, 2), (9, .iload 4, 2), (11, .iload_n 1, 1), (12, .if_icmp .ge 47, 3), (15, .iload 4, 2), (17, .bipush 30, 2), (19, .if_icmp .ge 40, 3), (22, .aload_n 0, 1), (23, .getfield 38, 3), (26, .iconst 2, 1), (27, .aload_n 0, 1), (28, .getfield 25, 3), (31, .iload 4, 2), (33, .iaload, 1), (34, .imul, 1), (35, .isub, 1), (36, .invokestatic 72, 3), (39, .istore 5, 2), (41, .iload 5, 2), (43, .iload_n 3, 1), (44, .if_icmp .ge 9, 3), (47, .iload 5, 2), (49, .istore_n 3, 1), (50, .iload 4, 2), (52, .istore_n 2, 1), (53, .iinc 4 1, 3), (56, .goto (-47), 3), (59, .iload_n 2, 1), (60, .ireturn, 1)]
def m_Heard_mostTelling : AM := (10, ⟨"HeathForks$Heard", "mostTelling", "(I)I"⟩, prog_3_method_8_code, tb_Heard_mostTelling, 6, some .int, 2)
theorem tk_Heard_mostTelling : tabOk prog_3_method_8_code tb_Heard_mostTelling := by unfold tabOk; decide +kernel
set_option maxRecDepth 20000 in
theorem bb0_Heard_mostTelling : cB m_Heard_mostTelling 1 := ⟨(gwt1 11 rfl rfl), (gwt5 176 rfl rfl), ⟨by decide, by decide⟩, by decide +kernel, by decide⟩
theorem bb_Heard_mostTelling : cB m_Heard_mostTelling 1 := bb0_Heard_mostTelling
set_option maxRecDepth 20000 in
theorem vv_Heard_mostTelling : cV m_Heard_mostTelling := ⟨(gwt5 174 rfl rfl), (gwt5 175 rfl rfl)⟩
def tb_HF_ask : List (Nat × Instr × Nat) := [(0, .aload_n 0, 1), (1, .iload_n 1, 1), (2, .invokevirtual 343, 3), (5, .ifCond .ne 5, 3), (8, .iconst (-1), 1), (9, .ireturn, 1), (10, .aload_n 0, 1), (11, .getfield 76, 3), (14, .aload_n 0, 1), (15, .getfield 90, 3), (18, .iload_n 1, 1), (19, .iconst (-1), 1), (20, .invokevirtual 346, 3), (23, .aload_n 0, 1), (24, .getfield 76, 3), (27, .getfield 350, 3), (30, .ifCond .ne 7, 3), (33, .iconst (-1), 1), (34, .goto 17, 3), (37, .aload_n 0, 1), (38, .getfield 76, 3), (41, .aload_n 0, 1), (42, .getfield 90, 3), (45, .getfield 359, 3), (48, .invokevirtual 362, 3), (51, .ireturn, 1)]
def m_HF_ask : AM := (0, ⟨"HeathForks", "ask", "(I)I"⟩, prog_1_method_28_code, tb_HF_ask, 2, some .int, 4)
theorem tk_HF_ask : tabOk prog_1_method_28_code tb_HF_ask := by unfold tabOk; decide +kernel
set_option maxRecDepth 20000 in
theorem bb0_HF_ask : cB m_HF_ask 1 := ⟨(gwt1 1 rfl rfl), (gwt5 172 rfl rfl), ⟨by decide, by decide⟩, by decide +kernel, by decide⟩
theorem bb_HF_ask : cB m_HF_ask 1 := bb0_HF_ask
set_option maxRecDepth 20000 in
theorem vv_HF_ask : cV m_HF_ask := ⟨(gwt5 170 rfl rfl), (gwt5 171 rfl rfl)⟩
def tb_HF_wrong : List (Nat × Instr × Nat) := [(0, .aload_n 0, 1), (1, .iload_n 1, 1), (2, .invokevirtual 343, 3), (5, .ifCond .ne 5, 3), (8, .iconst (-1), 1), (9, .ireturn, 1), (10, .aload_n 0, 1), (11, .getfield 76, 3), (14, .aload_n 0, 1), (15, .getfield 90, 3), (18, .iload_n 1, 1), (19, .iconst (-1), 1), (20, .invokevirtual 346, 3), (23, .aload_n 0, 1), (24, .getfield 76, 3), (27, .getfield 350, 3), (30, .ifCond .le 5, 3), (33, .iconst 0, 1), (34, .ireturn, 1), (35, .iconst 0, 1), (36, .istore_n 2, 1), (37, .iconst 0, 1), (38, .istore_n 3, 1), (39, .iload_n 3, 1), (40, .aload_n 0, 1), (41, .getfield 90, 3), (44, .getfield 246, 3), (47, .if_icmp .ge 39, 3), (50, .aload_n 0, 1), (51, .getfield 76, 3), (54, .aload_n 0, 1), (55, .getfield 90, 3), (58, .iload_n 1, 1), (59, .iload_n 3, 1), (60, .invokevirtual 346, 3), (63, .aload_n 0, 1), (64, .getfield 76, 3), (67, .getfield 350, 3), (70, .ifCond .le 10, 3), (73, .iload_n 2, 1), (74, .iload_n 3, 1), (75, .invokestatic 327, 3), (78, .ior, 1), (79, .istore_n 2, 1), (80, .iinc 3 1, 3), (83, .goto (-44), 3), (86, .iload_n 2, 1), (87, .ireturn, 1)]
def m_HF_wrong : AM := (0, ⟨"HeathForks", "wrong", "(I)I"⟩, prog_1_method_29_code, tb_HF_wrong, 4, some .int, 4)
theorem tk_HF_wrong : tabOk prog_1_method_29_code tb_HF_wrong := by unfold tabOk; decide +kernel
set_option maxRecDepth 20000 in
theorem bb0_HF_wrong : cB m_HF_wrong 1 := ⟨(gwt1 1 rfl rfl), (gwt5 183 rfl rfl), ⟨by decide, by decide⟩, by decide +kernel, by decide⟩
theorem bb_HF_wrong : cB m_HF_wrong 1 := bb0_HF_wrong
set_option maxRecDepth 20000 in
theorem vv_HF_wrong : cV m_HF_wrong := ⟨(gwt5 181 rfl rfl), (gwt5 182 rfl rfl)⟩
def tb_Moor_latestTwitch : List (Nat × Instr × Nat) := [(0, .iconst 0, 1), (1, .istore_n 3, 1), (2, .iload_n 3, 1), (3, .aload_n 0, 1), (4, .invokevirtual 78, 3), (7, .if_icmp .ge 33, 3), (10, .aload_n 0, 1), (11, .iload_n 3, 1), (12, .invokevirtual 88, 3), (15, .iload_n 1, 1), (16, .if_icmp .ne 18, 3), (19, .aload_n 0, 1), (20, .iload_n 3, 1), (21, .invokevirtual 82, 3), (24, .iload_n 2, 1), (25, .if_icmp .ne 9, 3), (28, .aload_n 0, 1), (29, .iload_n 3, 1), (30, .invokevirtual 85, 3), (33, .ireturn, 1), (34, .iinc 3 1, 3), (37, .goto (-35), 3), (40, .iconst (-1), 1), (41, .ireturn, 1)]
def m_Moor_latestTwitch : AM := (8, ⟨"HeathForks$Moor", "latestTwitch", "(II)I"⟩, prog_8_method_17_code, tb_Moor_latestTwitch, 4, some .int, 3)
theorem tk_Moor_latestTwitch : tabOk prog_8_method_17_code tb_Moor_latestTwitch := by unfold tabOk; decide +kernel
set_option maxRecDepth 20000 in
theorem bb0_Moor_latestTwitch : cB m_Moor_latestTwitch 2 := ⟨(gwt1 9 rfl rfl), (gwt5 191 rfl rfl), ⟨by decide, by decide⟩, by decide +kernel, by decide⟩
theorem bb_Moor_latestTwitch : cB m_Moor_latestTwitch 2 := bb0_Moor_latestTwitch
set_option maxRecDepth 20000 in
theorem vv_Moor_latestTwitch : cV m_Moor_latestTwitch := ⟨(gwt5 189 rfl rfl), (gwt5 190 rfl rfl)⟩
def tb_HF_chance : List (Nat × Instr × Nat) := [(0, .aload_n 0, 1), (1, .getfield 90, 3), (4, .iload_n 1, 1), (5, .invokevirtual 153, 3), (8, .ifCond .ne 5, 3), (11, .iconst (-1), 1), (12, .ireturn, 1), (13, .lconst 1, 1), (14, .lstore_n 2, 1), (15, .lconst 1, 1), (16, .lstore 4, 2), (18, .iconst 0, 1), (19, .istore 6, 2), (21, .iload 6, 2), (23, .aload_n 0, 1), (24, .getfield 90, 3), (27, .getfield 246, 3), (30, .if_icmp .ge 81, 3), (33, .aload_n 0, 1), (34, .getfield 56, 3), (37, .iload 6, 2), (39, .iload_n 1, 1), (40, .invokevirtual 365, 3), (43, .istore 7, 2), (45, .iload 7, 2), (47, .iconst (-1), 1), (48, .if_icmp .eq 57, 3), (51, .aload_n 0, 1), (52, .getfield 90, 3), (55, .iload 6, 2), (57, .iconst 4, 1), (58, .invokevirtual 196, 3), (61, .istore 8, 2), (63, .lload_n 2, 1), (64, .iload 7, 2), (66, .ifCond .le 12, 3), (69, .bipush 10, 2), (71, .iload 8, 2), (73, .isub, 1), (74, .i2l, 1), (75, .goto 6, 3), (78, .iload 8, 2), (80, .i2l, 1), (81, .lmul, 1), (82, .lstore_n 2, 1), (83, .lload 4, 2), (85, .iload 7, 2), (87, .ifCond .le 9, 3), (90, .iload 8, 2), (92, .i2l, 1), (93, .goto 9, 3), (96, .bipush 10, 2), (98, .iload 8, 2), (100, .isub, 1), (101, .i2l, 1), (102, .lmul, 1), (103, .lstore 4, 2), (105, .iinc 6 1, 3), (108, .goto (-87), 3), (111, .lload_n 2, 1), (112, .lload 4, 2), (114, .ladd, 1), (115, .lstore 6, 2), (117, .lload 6, 2), (119, .lconst 0, 1), (120, .lcmp, 1), (121, .ifCond .gt 7, 3), (124, .iconst (-1), 1), (125, .goto 12, 3), (128, .lload_n 2, 1), (129, .ldc2_w 368, 3), (132, .lmul, 1), (133, .lload 6, 2), (135, .ldiv, 1), (136, .l2i, 1), (137, .ireturn, 1)]
def m_HF_chance : AM := (0, ⟨"HeathForks", "chance", "(I)I"⟩, prog_1_method_30_code, tb_HF_chance, 9, some .int, 4)
theorem tk_HF_chance : tabOk prog_1_method_30_code tb_HF_chance := by unfold tabOk; decide +kernel
set_option maxRecDepth 20000 in
theorem bb0_HF_chance : cB m_HF_chance 1 := ⟨(gwt1 1 rfl rfl), (gwt5 187 rfl rfl), ⟨by decide, by decide⟩, by decide +kernel, by decide⟩
theorem bb_HF_chance : cB m_HF_chance 1 := bb0_HF_chance
set_option maxRecDepth 20000 in
theorem vv_HF_chance : cV m_HF_chance := ⟨(gwt5 185 rfl rfl), (gwt5 186 rfl rfl)⟩
def tb_HF_wishers : List (Nat × Instr × Nat) := [(0, .aload_n 0, 1), (1, .getfield 90, 3), (4, .iload_n 1, 1), (5, .invokevirtual 153, 3), (8, .ifCond .eq 26, 3), (11, .aload_n 0, 1), (12, .getfield 90, 3), (15, .iload_n 1, 1), (16, .invokevirtual 370, 3), (19, .ifCond .ne 15, 3), (22, .aload_n 0, 1), (23, .getfield 90, 3), (26, .iload_n 1, 1), (27, .invokevirtual 164, 3), (30, .iconst (-1), 1), (31, .if_icmp .eq 5, 3), (34, .iconst (-1), 1), (35, .ireturn, 1), (36, .iconst 0, 1), (37, .istore_n 2, 1), (38, .iconst 0, 1), (39, .istore_n 3, 1), (40, .iload_n 3, 1), (41, .aload_n 0, 1), (42, .getfield 90, 3), (45, .getfield 246, 3), (48, .if_icmp .ge 29, 3), (51, .aload_n 0, 1), (52, .aload_n 0, 1), (53, .getfield 56, 3), (56, .iload_n 3, 1), (57, .iload_n 1, 1), (58, .invokevirtual 199, 3), (61, .ifCond .le 10, 3), (64, .iload_n 2, 1), (65, .iload_n 3, 1), (66, .invokestatic 327, 3), (69, .ior, 1), (70, .istore_n 2, 1), (71, .iinc 3 1, 3), (74, .goto (-34), 3), (77, .iload_n 2, 1), (78, .ireturn, 1)]
def m_HF_wishers : AM := (0, ⟨"HeathForks", "wishers", "(I)I"⟩, prog_1_method_31_code, tb_HF_wishers, 4, some .int, 5)
theorem tk_HF_wishers : tabOk prog_1_method_31_code tb_HF_wishers := by unfold tabOk; decide +kernel
set_option maxRecDepth 20000 in
theorem bb0_HF_wishers : cB m_HF_wishers 1 := ⟨(gwt1 1 rfl rfl), (gwt5 196 rfl rfl), ⟨by decide, by decide⟩, by decide +kernel, by decide⟩
theorem bb_HF_wishers : cB m_HF_wishers 1 := bb0_HF_wishers
set_option maxRecDepth 20000 in
theorem vv_HF_wishers : cV m_HF_wishers := ⟨(gwt5 194 rfl rfl), (gwt5 195 rfl rfl)⟩
def tb_HF_truthOf : List (Nat × Instr × Nat) := [(0, .iconst 0, 1), (1, .istore_n 2, 1), (2, .iconst 0, 1), (3, .istore_n 3, 1), (4, .iload_n 3, 1), (5, .aload_n 0, 1), (6, .getfield 56, 3), (9, .invokevirtual 271, 3), (12, .if_icmp .ge 84, 3), (15, .aload_n 0, 1), (16, .getfield 56, 3), (19, .iload_n 3, 1), (20, .invokevirtual 274, 3), (23, .iload_n 1, 1), (24, .if_icmp .ne 66, 3), (27, .aload_n 0, 1), (28, .getfield 56, 3), (31, .iload_n 3, 1), (32, .invokevirtual 280, 3), (35, .ifCond .le 55, 3), (38, .aload_n 0, 1), (39, .getfield 90, 3), (42, .aload_n 0, 1), (43, .getfield 56, 3), (46, .iload_n 3, 1), (47, .invokevirtual 277, 3), (50, .aload_n 0, 1), (51, .getfield 56, 3), (54, .getfield 157, 3), (57, .invokevirtual 160, 3), (60, .istore 4, 2), (62, .iload_n 2, 1), (63, .iload 4, 2), (65, .iconst (-1), 1), (66, .if_icmp .eq 21, 3), (69, .iload 4, 2), (71, .aload_n 0, 1), (72, .getfield 90, 3), (75, .iload_n 1, 1), (76, .iconst 1, 1), (77, .invokevirtual 196, 3), (80, .if_icmp .gt 7, 3), (83, .iconst 1, 1), (84, .goto 4, 3), (87, .iconst (-1), 1), (88, .iadd, 1), (89, .istore_n 2, 1), (90, .iinc 3 1, 3), (93, .goto (-89), 3), (96, .iload_n 2, 1), (97, .ireturn, 1)]
def m_HF_truthOf : AM := (0, ⟨"HeathForks", "truthOf", "(I)I"⟩, prog_1_method_71_code, tb_HF_truthOf, 5, some .int, 3)
theorem tk_HF_truthOf : tabOk prog_1_method_71_code tb_HF_truthOf := by unfold tabOk; decide +kernel
set_option maxRecDepth 20000 in
theorem bb0_HF_truthOf : cB m_HF_truthOf 1 := ⟨(gwt1 1 rfl rfl), (gwt5 205 rfl rfl), ⟨by decide, by decide⟩, by decide +kernel, by decide⟩
theorem bb_HF_truthOf : cB m_HF_truthOf 1 := bb0_HF_truthOf
set_option maxRecDepth 20000 in
theorem vv_HF_truthOf : cV m_HF_truthOf := ⟨(gwt5 204 rfl rfl), (gw_p 48 rfl rfl)⟩
def tb_HF_right : List (Nat × Instr × Nat) := [(0, .aload_n 0, 1), (1, .getfield 90, 3), (4, .iload_n 1, 1), (5, .invokevirtual 180, 3), (8, .ifCond .eq 11, 3), (11, .aload_n 0, 1), (12, .iload_n 1, 1), (13, .invokevirtual 373, 3), (16, .goto 6, 3), (19, .ldc_w 293, 3), (22, .ireturn, 1)]
def m_HF_right : AM := (0, ⟨"HeathForks", "right", "(I)I"⟩, prog_1_method_32_code, tb_HF_right, 2, some .int, 4)
theorem tk_HF_right : tabOk prog_1_method_32_code tb_HF_right := by unfold tabOk; decide +kernel
set_option maxRecDepth 20000 in
theorem bb0_HF_right : cB m_HF_right 1 := ⟨(gwt1 1 rfl rfl), (gwt5 201 rfl rfl), ⟨by decide, by decide⟩, by decide +kernel, by decide⟩
theorem bb_HF_right : cB m_HF_right 1 := bb0_HF_right
set_option maxRecDepth 20000 in
theorem vv_HF_right : cV m_HF_right := ⟨(gwt5 199 rfl rfl), (gwt5 200 rfl rfl)⟩
def tb_HF_best : List (Nat × Instr × Nat) := [(0, .aload_n 0, 1), (1, .invokevirtual 137, 3), (4, .ifCond .ne 5, 3), (7, .iconst (-1), 1), (8, .ireturn, 1), (9, .iconst 0, 1), (10, .istore_n 1, 1), (11, .iconst 1, 1), (12, .istore_n 2, 1), (13, .iload_n 2, 1), (14, .aload_n 0, 1), (15, .getfield 90, 3), (18, .getfield 246, 3), (21, .if_icmp .ge 24, 3), (24, .aload_n 0, 1), (25, .iload_n 2, 1), (26, .invokevirtual 373, 3), (29, .aload_n 0, 1), (30, .iload_n 1, 1), (31, .invokevirtual 373, 3), (34, .if_icmp .le 5, 3), (37, .iload_n 2, 1), (38, .istore_n 1, 1), (39, .iinc 2 1, 3), (42, .goto (-29), 3), (45, .iload_n 1, 1), (46, .ireturn, 1)]
def m_HF_best : AM := (0, ⟨"HeathForks", "best", "()I"⟩, prog_1_method_33_code, tb_HF_best, 3, some .int, 4)
theorem tk_HF_best : tabOk prog_1_method_33_code tb_HF_best := by unfold tabOk; decide +kernel
set_option maxRecDepth 20000 in
theorem bb0_HF_best : cB m_HF_best 0 := ⟨(gwt1 1 rfl rfl), (gwt5 209 rfl rfl), ⟨by decide, by decide⟩, by decide +kernel, by decide⟩
theorem bb_HF_best : cB m_HF_best 0 := bb0_HF_best
set_option maxRecDepth 20000 in
theorem vv_HF_best : cV m_HF_best := ⟨(gwt5 207 rfl rfl), (gwt5 208 rfl rfl)⟩
def tb_Heath_stepsBetween : List (Nat × Instr × Nat) := [(0, .aload_n 0, 1), (1, .iload_n 1, 1), (2, .invokevirtual 75, 3), (5, .aload_n 0, 1), (6, .iload_n 2, 1), (7, .invokevirtual 75, 3), (10, .isub, 1), (11, .invokestatic 88, 3), (14, .aload_n 0, 1), (15, .iload_n 1, 1), (16, .invokevirtual 78, 3), (19, .aload_n 0, 1), (20, .iload_n 2, 1), (21, .invokevirtual 78, 3), (24, .isub, 1), (25, .invokestatic 88, 3), (28, .iadd, 1), (29, .ireturn, 1)]
def m_Heath_stepsBetween : AM := (3, ⟨"HeathForks$Heath", "stepsBetween", "(II)I"⟩, prog_4_method_12_code, tb_Heath_stepsBetween, 3, some .int, 2)
theorem tk_Heath_stepsBetween : tabOk prog_4_method_12_code tb_Heath_stepsBetween := by unfold tabOk; decide +kernel
set_option maxRecDepth 20000 in
theorem bb0_Heath_stepsBetween : cB m_Heath_stepsBetween 2 := ⟨(gwt1 4 rfl rfl), (gwt5 217 rfl rfl), ⟨by decide, by decide⟩, by decide +kernel, by decide⟩
theorem bb_Heath_stepsBetween : cB m_Heath_stepsBetween 2 := bb0_Heath_stepsBetween
set_option maxRecDepth 20000 in
theorem vv_Heath_stepsBetween : cV m_Heath_stepsBetween := ⟨(gwt5 215 rfl rfl), (gwt5 216 rfl rfl)⟩
def tb_HF_nearest : List (Nat × Instr × Nat) := [(0, .aload_n 0, 1), (1, .getfield 90, 3), (4, .iload_n 1, 1), (5, .invokevirtual 180, 3), (8, .ifCond .ne 5, 3), (11, .iconst (-1), 1), (12, .ireturn, 1), (13, .iconst (-1), 1), (14, .istore_n 2, 1), (15, .iconst 0, 1), (16, .istore_n 3, 1), (17, .iload_n 3, 1), (18, .aload_n 0, 1), (19, .getfield 90, 3), (22, .getfield 359, 3), (25, .if_icmp .ge 56, 3), (28, .aload_n 0, 1), (29, .getfield 90, 3), (32, .iload_n 3, 1), (33, .invokevirtual 370, 3), (36, .ifCond .eq 39, 3), (39, .aload_n 0, 1), (40, .getfield 90, 3), (43, .aload_n 0, 1), (44, .getfield 56, 3), (47, .iload_n 1, 1), (48, .invokevirtual 190, 3), (51, .iload_n 3, 1), (52, .invokevirtual 376, 3), (55, .istore 4, 2), (57, .iload_n 2, 1), (58, .iconst (-1), 1), (59, .if_icmp .eq 9, 3), (62, .iload 4, 2), (64, .iload_n 2, 1), (65, .if_icmp .ge 8, 3), (68, .iload 4, 2), (70, .goto 4, 3), (73, .iload_n 2, 1), (74, .istore_n 2, 1), (75, .iinc 3 1, 3), (78, .goto (-61), 3), (81, .iload_n 2, 1), (82, .ireturn, 1)]
def m_HF_nearest : AM := (0, ⟨"HeathForks", "nearest", "(I)I"⟩, prog_1_method_34_code, tb_HF_nearest, 5, some .int, 3)
theorem tk_HF_nearest : tabOk prog_1_method_34_code tb_HF_nearest := by unfold tabOk; decide +kernel
set_option maxRecDepth 20000 in
theorem bb0_HF_nearest : cB m_HF_nearest 1 := ⟨(gwt1 1 rfl rfl), (gwt5 213 rfl rfl), ⟨by decide, by decide⟩, by decide +kernel, by decide⟩
theorem bb_HF_nearest : cB m_HF_nearest 1 := bb0_HF_nearest
set_option maxRecDepth 20000 in
theorem vv_HF_nearest : cV m_HF_nearest := ⟨(gwt5 211 rfl rfl), (gwt5 212 rfl rfl)⟩
def tb_HF_meets : List (Nat × Instr × Nat) := [(0, .aload_n 0, 1), (1, .invokevirtual 137, 3), (4, .ifCond .eq 13, 3), (7, .aload_n 0, 1), (8, .getfield 90, 3), (11, .getfield 379, 3), (14, .goto 4, 3), (17, .iconst (-1), 1), (18, .ireturn, 1)]
def m_HF_meets : AM := (0, ⟨"HeathForks", "meets", "()I"⟩, prog_1_method_35_code, tb_HF_meets, 1, some .int, 1)
theorem tk_HF_meets : tabOk prog_1_method_35_code tb_HF_meets := by unfold tabOk; decide +kernel
set_option maxRecDepth 20000 in
theorem bb0_HF_meets : cB m_HF_meets 0 := ⟨(gwt1 1 rfl rfl), (gwt5 222 rfl rfl), ⟨by decide, by decide⟩, by decide +kernel, by decide⟩
theorem bb_HF_meets : cB m_HF_meets 0 := bb0_HF_meets
set_option maxRecDepth 20000 in
theorem vv_HF_meets : cV m_HF_meets := ⟨(gwt5 220 rfl rfl), (gwt5 221 rfl rfl)⟩
def tb_HF_shallow : List (Nat × Instr × Nat) := [(0, .iconst (-1), 1), (1, .istore_n 1, 1), (2, .bipush 100, 2), (4, .istore_n 2, 1), (5, .iconst 0, 1), (6, .istore_n 3, 1), (7, .iload_n 3, 1), (8, .aload_n 0, 1), (9, .getfield 90, 3), (12, .getfield 359, 3), (15, .if_icmp .ge 43, 3), (18, .aload_n 0, 1), (19, .getfield 90, 3), (22, .iload_n 3, 1), (23, .aload_n 0, 1), (24, .getfield 56, 3), (27, .getfield 157, 3), (30, .invokevirtual 160, 3), (33, .istore 4, 2), (35, .iload 4, 2), (37, .iconst (-1), 1), (38, .if_icmp .eq 14, 3), (41, .iload 4, 2), (43, .iload_n 2, 1), (44, .if_icmp .ge 8, 3), (47, .iload 4, 2), (49, .istore_n 2, 1), (50, .iload_n 3, 1), (51, .istore_n 1, 1), (52, .iinc 3 1, 3), (55, .goto (-48), 3), (58, .iload_n 1, 1), (59, .ireturn, 1)]
def m_HF_shallow : AM := (0, ⟨"HeathForks", "shallow", "()I"⟩, prog_1_method_36_code, tb_HF_shallow, 5, some .int, 3)
theorem tk_HF_shallow : tabOk prog_1_method_36_code tb_HF_shallow := by unfold tabOk; decide +kernel
set_option maxRecDepth 20000 in
theorem bb0_HF_shallow : cB m_HF_shallow 0 := ⟨(gwt1 1 rfl rfl), (gwt5 226 rfl rfl), ⟨by decide, by decide⟩, by decide +kernel, by decide⟩
theorem bb_HF_shallow : cB m_HF_shallow 0 := bb0_HF_shallow
set_option maxRecDepth 20000 in
theorem vv_HF_shallow : cV m_HF_shallow := ⟨(gwt5 224 rfl rfl), (gwt5 225 rfl rfl)⟩
def tb_Moor_twitchesIn : List (Nat × Instr × Nat) := [(0, .iconst 0, 1), (1, .istore_n 2, 1), (2, .iconst 0, 1), (3, .istore_n 3, 1), (4, .iload_n 3, 1), (5, .aload_n 0, 1), (6, .invokevirtual 78, 3), (9, .if_icmp .ge 34, 3), (12, .iload_n 2, 1), (13, .aload_n 0, 1), (14, .iload_n 3, 1), (15, .invokevirtual 82, 3), (18, .iload_n 1, 1), (19, .if_icmp .ne 15, 3), (22, .aload_n 0, 1), (23, .iload_n 3, 1), (24, .invokevirtual 85, 3), (27, .ifCond .le 7, 3), (30, .iconst 1, 1), (31, .goto 4, 3), (34, .iconst 0, 1), (35, .iadd, 1), (36, .istore_n 2, 1), (37, .iinc 3 1, 3), (40, .goto (-36), 3), (43, .iload_n 2, 1), (44, .ireturn, 1)]
def m_Moor_twitchesIn : AM := (8, ⟨"HeathForks$Moor", "twitchesIn", "(I)I"⟩, prog_8_method_16_code, tb_Moor_twitchesIn, 4, some .int, 3)
theorem tk_Moor_twitchesIn : tabOk prog_8_method_16_code tb_Moor_twitchesIn := by unfold tabOk; decide +kernel
set_option maxRecDepth 20000 in
theorem bb0_Moor_twitchesIn : cB m_Moor_twitchesIn 1 := ⟨(gwt1 9 rfl rfl), (gwt5 234 rfl rfl), ⟨by decide, by decide⟩, by decide +kernel, by decide⟩
theorem bb_Moor_twitchesIn : cB m_Moor_twitchesIn 1 := bb0_Moor_twitchesIn
set_option maxRecDepth 20000 in
theorem vv_Moor_twitchesIn : cV m_Moor_twitchesIn := ⟨(gwt5 232 rfl rfl), (gwt5 233 rfl rfl)⟩
def tb_HF_heap : List (Nat × Instr × Nat) := [(0, .iconst (-1), 1), (1, .istore_n 1, 1), (2, .iconst 0, 1), (3, .istore_n 2, 1), (4, .iconst 0, 1), (5, .istore_n 3, 1), (6, .iload_n 3, 1), (7, .aload_n 0, 1), (8, .getfield 90, 3), (11, .getfield 359, 3), (14, .if_icmp .ge 30, 3), (17, .aload_n 0, 1), (18, .getfield 56, 3), (21, .iload_n 3, 1), (22, .invokevirtual 382, 3), (25, .istore 4, 2), (27, .iload 4, 2), (29, .iload_n 2, 1), (30, .if_icmp .le 8, 3), (33, .iload 4, 2), (35, .istore_n 2, 1), (36, .iload_n 3, 1), (37, .istore_n 1, 1), (38, .iinc 3 1, 3), (41, .goto (-35), 3), (44, .iload_n 1, 1), (45, .ireturn, 1)]
def m_HF_heap : AM := (0, ⟨"HeathForks", "heap", "()I"⟩, prog_1_method_37_code, tb_HF_heap, 5, some .int, 4)
theorem tk_HF_heap : tabOk prog_1_method_37_code tb_HF_heap := by unfold tabOk; decide +kernel
set_option maxRecDepth 20000 in
theorem bb0_HF_heap : cB m_HF_heap 0 := ⟨(gwt1 1 rfl rfl), (gwt5 230 rfl rfl), ⟨by decide, by decide⟩, by decide +kernel, by decide⟩
theorem bb_HF_heap : cB m_HF_heap 0 := bb0_HF_heap
set_option maxRecDepth 20000 in
theorem vv_HF_heap : cV m_HF_heap := ⟨(gwt5 228 rfl rfl), (gwt5 229 rfl rfl)⟩
def tb_HF_costs : List (Nat × Instr × Nat) := [(0, .aload_n 0, 1), (1, .iload_n 1, 1), (2, .invokevirtual 210, 3), (5, .ifCond .eq 11, 3), (8, .aload_n 0, 1), (9, .iload_n 1, 1), (10, .invokevirtual 213, 3), (13, .goto 4, 3), (16, .iconst (-1), 1), (17, .ireturn, 1)]
def m_HF_costs : AM := (0, ⟨"HeathForks", "costs", "(I)I"⟩, prog_1_method_38_code, tb_HF_costs, 2, some .int, 6)
theorem tk_HF_costs : tabOk prog_1_method_38_code tb_HF_costs := by unfold tabOk; decide +kernel
set_option maxRecDepth 20000 in
theorem bb0_HF_costs : cB m_HF_costs 1 := ⟨(gwt1 1 rfl rfl), (gwt5 238 rfl rfl), ⟨by decide, by decide⟩, by decide +kernel, by decide⟩
theorem bb_HF_costs : cB m_HF_costs 1 := bb0_HF_costs
set_option maxRecDepth 20000 in
theorem vv_HF_costs : cV m_HF_costs := ⟨(gwt5 236 rfl rfl), (gwt5 237 rfl rfl)⟩
def tb_HF_loses : List (Nat × Instr × Nat) := [(0, .aload_n 0, 1), (1, .iload_n 1, 1), (2, .invokevirtual 210, 3), (5, .ifCond .ne 5, 3), (8, .iconst (-1), 1), (9, .ireturn, 1), (10, .aload_n 0, 1), (11, .aload_n 0, 1), (12, .getfield 56, 3), (15, .getfield 157, 3), (18, .aload_n 0, 1), (19, .getfield 56, 3), (22, .getfield 170, 3), (25, .invokevirtual 301, 3), (28, .aload_n 0, 1), (29, .aload_n 0, 1), (30, .getfield 56, 3), (33, .getfield 157, 3), (36, .aload_n 0, 1), (37, .getfield 56, 3), (40, .getfield 170, 3), (43, .iload_n 1, 1), (44, .invokestatic 327, 3), (47, .ior, 1), (48, .invokevirtual 301, 3), (51, .isub, 1), (52, .ireturn, 1)]
def m_HF_loses : AM := (0, ⟨"HeathForks", "loses", "(I)I"⟩, prog_1_method_39_code, tb_HF_loses, 2, some .int, 5)
theorem tk_HF_loses : tabOk prog_1_method_39_code tb_HF_loses := by unfold tabOk; decide +kernel
set_option maxRecDepth 20000 in
theorem bb0_HF_loses : cB m_HF_loses 1 := ⟨(gwt1 1 rfl rfl), (gwt6 2 rfl rfl), ⟨by decide, by decide⟩, by decide +kernel, by decide⟩
theorem bb_HF_loses : cB m_HF_loses 1 := bb0_HF_loses
set_option maxRecDepth 20000 in
theorem vv_HF_loses : cV m_HF_loses := ⟨(gwt6 0 rfl rfl), (gwt6 1 rfl rfl)⟩
def tb_Moor_payOf : List (Nat × Instr × Nat) := [(0, .iload_n 1, 1), (1, .ifCond .lt 18, 3), (4, .iload_n 1, 1), (5, .bipush 6, 2), (7, .if_icmp .ge 12, 3), (10, .aload_n 0, 1), (11, .getfield 15, 3), (14, .iload_n 1, 1), (15, .iaload, 1), (16, .goto 4, 3), (19, .iconst 0, 1), (20, .ireturn, 1)]
def m_Moor_payOf : AM := (8, ⟨"HeathForks$Moor", "payOf", "(I)I"⟩, prog_8_method_21_code, tb_Moor_payOf, 2, some .int, 0)
theorem tk_Moor_payOf : tabOk prog_8_method_21_code tb_Moor_payOf := by unfold tabOk; decide +kernel
set_option maxRecDepth 20000 in
theorem bb0_Moor_payOf : cB m_Moor_payOf 1 := ⟨(gwt1 9 rfl rfl), (gwt6 10 rfl rfl), ⟨by decide, by decide⟩, by decide +kernel, by decide⟩
theorem bb_Moor_payOf : cB m_Moor_payOf 1 := bb0_Moor_payOf
set_option maxRecDepth 20000 in
theorem vv_Moor_payOf : cV m_Moor_payOf := ⟨(gwt6 8 rfl rfl), (gwt6 9 rfl rfl)⟩
def tb_HF_richest : List (Nat × Instr × Nat) := [(0, .iconst (-1), 1), (1, .istore_n 1, 1), (2, .iconst 0, 1), (3, .istore_n 2, 1), (4, .iconst 0, 1), (5, .istore_n 3, 1), (6, .iload_n 3, 1), (7, .aload_n 0, 1), (8, .getfield 90, 3), (11, .getfield 246, 3), (14, .if_icmp .ge 32, 3), (17, .aload_n 0, 1), (18, .getfield 56, 3), (21, .iload_n 3, 1), (22, .invokevirtual 193, 3), (25, .iload_n 2, 1), (26, .if_icmp .le 14, 3), (29, .aload_n 0, 1), (30, .getfield 56, 3), (33, .iload_n 3, 1), (34, .invokevirtual 193, 3), (37, .istore_n 2, 1), (38, .iload_n 3, 1), (39, .istore_n 1, 1), (40, .iinc 3 1, 3), (43, .goto (-37), 3), (46, .iload_n 1, 1), (47, .ireturn, 1)]
def m_HF_richest : AM := (0, ⟨"HeathForks", "richest", "()I"⟩, prog_1_method_40_code, tb_HF_richest, 4, some .int, 1)
theorem tk_HF_richest : tabOk prog_1_method_40_code tb_HF_richest := by unfold tabOk; decide +kernel
set_option maxRecDepth 20000 in
theorem bb0_HF_richest : cB m_HF_richest 0 := ⟨(gwt1 1 rfl rfl), (gwt6 6 rfl rfl), ⟨by decide, by decide⟩, by decide +kernel, by decide⟩
theorem bb_HF_richest : cB m_HF_richest 0 := bb0_HF_richest
set_option maxRecDepth 20000 in
theorem vv_HF_richest : cV m_HF_richest := ⟨(gwt6 4 rfl rfl), (gwt6 5 rfl rfl)⟩
def tb_HF_driest : List (Nat × Instr × Nat) := [(0, .aload_n 0, 1), (1, .invokevirtual 137, 3), (4, .ifCond .ne 5, 3), (7, .iconst (-1), 1), (8, .ireturn, 1), (9, .iconst 0, 1), (10, .istore_n 1, 1), (11, .iconst 1, 1), (12, .istore_n 2, 1), (13, .iload_n 2, 1), (14, .iconst 4, 1), (15, .if_icmp .ge 38, 3), (18, .aload_n 0, 1), (19, .iload_n 2, 1), (20, .aload_n 0, 1), (21, .getfield 56, 3), (24, .getfield 170, 3), (27, .invokevirtual 301, 3), (30, .aload_n 0, 1), (31, .iload_n 1, 1), (32, .aload_n 0, 1), (33, .getfield 56, 3), (36, .getfield 170, 3), (39, .invokevirtual 301, 3), (42, .if_icmp .ge 5, 3), (45, .iload_n 2, 1), (46, .istore_n 1, 1), (47, .iinc 2 1, 3), (50, .goto (-37), 3), (53, .iload_n 1, 1), (54, .ireturn, 1)]
def m_HF_driest : AM := (0, ⟨"HeathForks", "driest", "()I"⟩, prog_1_method_41_code, tb_HF_driest, 3, some .int, 5)
theorem tk_HF_driest : tabOk prog_1_method_41_code tb_HF_driest := by unfold tabOk; decide +kernel
set_option maxRecDepth 20000 in
theorem bb0_HF_driest : cB m_HF_driest 0 := ⟨(gwt1 1 rfl rfl), (gwt6 14 rfl rfl), ⟨by decide, by decide⟩, by decide +kernel, by decide⟩
theorem bb_HF_driest : cB m_HF_driest 0 := bb0_HF_driest
set_option maxRecDepth 20000 in
theorem vv_HF_driest : cV m_HF_driest := ⟨(gwt6 12 rfl rfl), (gwt6 13 rfl rfl)⟩
def tb_HF_image : List (Nat × Instr × Nat) := [(0, .aload_n 0, 1), (1, .invokevirtual 137, 3), (4, .ifCond .ne 5, 3), (7, .iconst (-1), 1), (8, .ireturn, 1), (9, .aload_n 0, 1), (10, .getfield 60, 3), (13, .aload_n 0, 1), (14, .getfield 56, 3), (17, .invokevirtual 294, 3), (20, .aload_n 0, 1), (21, .iconst 1, 1), (22, .putfield 104, 3), (25, .aload_n 0, 1), (26, .getfield 56, 3), (29, .getfield 157, 3), (32, .ireturn, 1)]
def m_HF_image : AM := (0, ⟨"HeathForks", "image", "()I"⟩, prog_1_method_42_code, tb_HF_image, 1, some .int, 3)
theorem tk_HF_image : tabOk prog_1_method_42_code tb_HF_image := by unfold tabOk; decide +kernel
set_option maxRecDepth 20000 in
theorem bb0_HF_image : cB m_HF_image 0 := ⟨(gwt1 1 rfl rfl), (gwt6 18 rfl rfl), ⟨by decide, by decide⟩, by decide +kernel, by decide⟩
theorem bb_HF_image : cB m_HF_image 0 := bb0_HF_image
set_option maxRecDepth 20000 in
theorem vv_HF_image : cV m_HF_image := ⟨(gwt6 16 rfl rfl), (gwt6 17 rfl rfl)⟩
def tb_HF_back : List (Nat × Instr × Nat) := [(0, .aload_n 0, 1), (1, .getfield 104, 3), (4, .ifCond .ne 5, 3), (7, .iconst (-1), 1), (8, .ireturn, 1), (9, .aload_n 0, 1), (10, .getfield 56, 3), (13, .aload_n 0, 1), (14, .getfield 60, 3), (17, .invokevirtual 294, 3), (20, .aload_n 0, 1), (21, .getfield 69, 3), (24, .invokevirtual 385, 3), (27, .aload_n 0, 1), (28, .getfield 56, 3), (31, .getfield 157, 3), (34, .ireturn, 1)]
def m_HF_back : AM := (0, ⟨"HeathForks", "back", "()I"⟩, prog_1_method_43_code, tb_HF_back, 1, some .int, 3)
theorem tk_HF_back : tabOk prog_1_method_43_code tb_HF_back := by unfold tabOk; decide +kernel
set_option maxRecDepth 20000 in
theorem bb0_HF_back : cB m_HF_back 0 := ⟨(gwt1 1 rfl rfl), (gwt6 22 rfl rfl), ⟨by decide, by decide⟩, by decide +kernel, by decide⟩
theorem bb_HF_back : cB m_HF_back 0 := bb0_HF_back
set_option maxRecDepth 20000 in
theorem vv_HF_back : cV m_HF_back := ⟨(gwt6 20 rfl rfl), (gwt6 21 rfl rfl)⟩
def tb_Moor_payOfAll : List (Nat × Instr × Nat) := [(0, .iconst 0, 1), (1, .istore_n 1, 1), (2, .iconst 0, 1), (3, .istore_n 2, 1), (4, .iload_n 2, 1), (5, .bipush 6, 2), (7, .if_icmp .ge 18, 3), (10, .iload_n 1, 1), (11, .aload_n 0, 1), (12, .getfield 15, 3), (15, .iload_n 2, 1), (16, .iaload, 1), (17, .iadd, 1), (18, .istore_n 1, 1), (19, .iinc 2 1, 3), (22, .goto (-18), 3), (25, .iload_n 1, 1), (26, .ireturn, 1)]
def m_Moor_payOfAll : AM := (8, ⟨"HeathForks$Moor", "payOfAll", "()I"⟩, prog_8_method_22_code, tb_Moor_payOfAll, 3, some .int, 0)
theorem tk_Moor_payOfAll : tabOk prog_8_method_22_code tb_Moor_payOfAll := by unfold tabOk; decide +kernel
set_option maxRecDepth 20000 in
theorem bb0_Moor_payOfAll : cB m_Moor_payOfAll 0 := ⟨(gwt1 9 rfl rfl), (gwt6 34 rfl rfl), ⟨by decide, by decide⟩, by decide +kernel, by decide⟩
theorem bb_Moor_payOfAll : cB m_Moor_payOfAll 0 := bb0_Moor_payOfAll
set_option maxRecDepth 20000 in
theorem vv_Moor_payOfAll : cV m_Moor_payOfAll := ⟨(gwt6 32 rfl rfl), (gwt6 33 rfl rfl)⟩
def tb_HF_countOfMoor : List (Nat × Instr × Nat) := [(0, .iload_n 1, 1), (1, .tableswitch 99 7 13 #[43, 51, 59, 67, 75, 83, 91], 43), (44, .aload_n 0, 1), (45, .getfield 56, 3), (48, .getfield 157, 3), (51, .ireturn, 1), (52, .aload_n 0, 1), (53, .getfield 56, 3), (56, .getfield 170, 3), (59, .ireturn, 1), (60, .aload_n 0, 1), (61, .getfield 56, 3), (64, .invokevirtual 394, 3), (67, .ireturn, 1), (68, .aload_n 0, 1), (69, .getfield 56, 3), (72, .getfield 397, 3), (75, .ireturn, 1), (76, .aload_n 0, 1), (77, .getfield 76, 3), (80, .getfield 339, 3), (83, .ireturn, 1), (84, .aload_n 0, 1), (85, .getfield 56, 3), (88, .invokevirtual 271, 3), (91, .ireturn, 1), (92, .aload_n 0, 1), (93, .getfield 69, 3), (96, .getfield 253, 3), (99, .ireturn, 1), (100, .ldc_w 293, 3), (103, .ireturn, 1)]
def m_HF_countOfMoor : AM := (0, ⟨"HeathForks", "countOfMoor", "(I)I"⟩, prog_1_method_45_code, tb_HF_countOfMoor, 2, some .int, 3)
theorem tk_HF_countOfMoor : tabOk prog_1_method_45_code tb_HF_countOfMoor := by unfold tabOk; decide +kernel
set_option maxRecDepth 20000 in
theorem bb0_HF_countOfMoor : cB m_HF_countOfMoor 1 := ⟨(gwt1 1 rfl rfl), (gwt6 30 rfl rfl), ⟨by decide, by decide⟩, by decide +kernel, by decide⟩
theorem bb_HF_countOfMoor : cB m_HF_countOfMoor 1 := bb0_HF_countOfMoor
set_option maxRecDepth 20000 in
theorem vv_HF_countOfMoor : cV m_HF_countOfMoor := ⟨(gwt6 29 rfl rfl), (gw_p 49 rfl rfl)⟩
def tb_HF_count : List (Nat × Instr × Nat) := [(0, .iload_n 1, 1), (1, .tableswitch 90 0 6 #[43, 51, 59, 67, 72, 77, 85], 43), (44, .aload_n 0, 1), (45, .getfield 90, 3), (48, .getfield 359, 3), (51, .ireturn, 1), (52, .aload_n 0, 1), (53, .getfield 90, 3), (56, .getfield 388, 3), (59, .ireturn, 1), (60, .aload_n 0, 1), (61, .getfield 90, 3), (64, .getfield 246, 3), (67, .ireturn, 1), (68, .aload_n 0, 1), (69, .getfield 94, 3), (72, .ireturn, 1), (73, .aload_n 0, 1), (74, .getfield 98, 3), (77, .ireturn, 1), (78, .aload_n 0, 1), (79, .getfield 10, 3), (82, .getfield 114, 3), (85, .ireturn, 1), (86, .aload_n 0, 1), (87, .getfield 101, 3), (90, .ireturn, 1), (91, .aload_n 0, 1), (92, .iload_n 1, 1), (93, .invokevirtual 391, 3), (96, .ireturn, 1)]
def m_HF_count : AM := (0, ⟨"HeathForks", "count", "(I)I"⟩, prog_1_method_44_code, tb_HF_count, 2, some .int, 4)
theorem tk_HF_count : tabOk prog_1_method_44_code tb_HF_count := by unfold tabOk; decide +kernel
set_option maxRecDepth 20000 in
theorem bb0_HF_count : cB m_HF_count 1 := ⟨(gwt1 1 rfl rfl), (gwt6 26 rfl rfl), ⟨by decide, by decide⟩, by decide +kernel, by decide⟩
theorem bb_HF_count : cB m_HF_count 1 := bb0_HF_count
set_option maxRecDepth 20000 in
theorem vv_HF_count : cV m_HF_count := ⟨(gwt6 24 rfl rfl), (gwt6 25 rfl rfl)⟩
def tb_HF_fork : List (Nat × Instr × Nat) := [(0, .aload_n 0, 1), (1, .getfield 90, 3), (4, .iload_n 1, 1), (5, .invokevirtual 180, 3), (8, .ifCond .eq 13, 3), (11, .iload_n 2, 1), (12, .ifCond .lt 9, 3), (15, .iload_n 2, 1), (16, .bipush 6, 2), (18, .if_icmp .le 13, 3), (21, .new 183, 3), (24, .dup, 1), (25, .ldc 185, 2), (27, .invokespecial 187, 3), (30, .athrow, 1), (31, .iload_n 2, 1), (32, .ifCond .ne 12, 3), (35, .aload_n 0, 1), (36, .getfield 56, 3), (39, .iload_n 1, 1), (40, .invokevirtual 190, 3), (43, .ireturn, 1), (44, .iload_n 2, 1), (45, .bipush 6, 2), (47, .if_icmp .ne 12, 3), (50, .aload_n 0, 1), (51, .getfield 56, 3), (54, .iload_n 1, 1), (55, .invokevirtual 193, 3), (58, .ireturn, 1), (59, .aload_n 0, 1), (60, .getfield 90, 3), (63, .iload_n 1, 1), (64, .iload_n 2, 1), (65, .invokevirtual 196, 3), (68, .ireturn, 1)]
def m_HF_fork : AM := (0, ⟨"HeathForks", "fork", "(II)I"⟩, prog_1_method_8_code, tb_HF_fork, 3, some .int, 2)
theorem tk_HF_fork : tabOk prog_1_method_8_code tb_HF_fork := by unfold tabOk; decide +kernel
set_option maxRecDepth 20000 in
theorem bb0_HF_fork : cB m_HF_fork 2 := ⟨(gwt1 1 rfl rfl), (gwt6 42 rfl rfl), ⟨by decide, by decide⟩, by decide +kernel, by decide⟩
theorem bb_HF_fork : cB m_HF_fork 2 := bb0_HF_fork
set_option maxRecDepth 20000 in
theorem vv_HF_fork : cV m_HF_fork := ⟨(gwt6 40 rfl rfl), (gwt6 41 rfl rfl)⟩
def tb_R_thrown : List (Nat × Instr × Nat) := [(0, .aload_n 0, 1), (1, .getfield 102, 3), (4, .ireturn, 1)]
def m_R_thrown : AM := (12, ⟨"HeathForksModel", "thrown", "()I"⟩, prog_14_method_2_code, tb_R_thrown, 1, some .int, 0)
theorem tk_R_thrown : tabOk prog_14_method_2_code tb_R_thrown := by unfold tabOk; decide +kernel
set_option maxRecDepth 20000 in
theorem bb0_R_thrown : cB m_R_thrown 0 := ⟨(gwt1 13 rfl rfl), (gwt7 48 rfl rfl), ⟨by decide, by decide⟩, by decide +kernel, by decide⟩
theorem bb_R_thrown : cB m_R_thrown 0 := bb0_R_thrown
set_option maxRecDepth 20000 in
theorem vv_R_thrown : cV m_R_thrown := ⟨(gwt7 46 rfl rfl), (gwt7 47 rfl rfl)⟩
def tb_R_bytesIn : List (Nat × Instr × Nat) := [(0, .iconst 0, 1), (1, .istore_n 1, 1), (2, .bipush 24, 2), (4, .istore_n 2, 1), (5, .iload_n 2, 1), (6, .ifCond .lt 27, 3), (9, .iload_n 1, 1), (10, .iload_n 0, 1), (11, .iload_n 2, 1), (12, .ishr, 1), (13, .sipush 255, 3), (16, .iand, 1), (17, .ifCond .eq 7, 3), (20, .iconst 1, 1), (21, .goto 4, 3), (24, .iconst 0, 1), (25, .iadd, 1), (26, .istore_n 1, 1), (27, .iinc 2 (-8), 3), (30, .goto (-25), 3), (33, .iload_n 1, 1), (34, .ireturn, 1)]
def m_R_bytesIn : AM := (12, ⟨"HeathForksModel", "bytesIn", "(I)I"⟩, prog_14_method_6_code, tb_R_bytesIn, 3, some .int, 0)
theorem tk_R_bytesIn : tabOk prog_14_method_6_code tb_R_bytesIn := by unfold tabOk; decide +kernel
set_option maxRecDepth 20000 in
theorem bb0_R_bytesIn : cB m_R_bytesIn 1 := ⟨(gwt1 13 rfl rfl), (gwt7 55 rfl rfl), ⟨by decide, by decide⟩, by decide +kernel, by decide⟩
theorem bb_R_bytesIn : cB m_R_bytesIn 1 := bb0_R_bytesIn
set_option maxRecDepth 20000 in
theorem vv_R_bytesIn : Cond.static (my m_R_bytesIn) ∈ gw := (gwt7 54 rfl rfl)
def tb_R_put : List (Nat × Instr × Nat) := [(0, .bipush 24, 2), (2, .istore_n 2, 1), (3, .iload_n 2, 1), (4, .ifCond .lt 45, 3), (7, .iload_n 1, 1), (8, .iload_n 2, 1), (9, .ishr, 1), (10, .sipush 255, 3), (13, .iand, 1), (14, .ifCond .ne 6, 3), (17, .goto 26, 3), (20, .aload_n 0, 1), (21, .getfield 9, 3), (24, .aload_n 0, 1), (25, .getfield 115, 3), (28, .iload_n 1, 1), (29, .iload_n 2, 1), (30, .ishr, 1), (31, .i2b, 1), (32, .bastore, 1), (33, .aload_n 0, 1), (34, .dup, 1), (35, .getfield 115, 3), (38, .iconst 1, 1), (39, .iadd, 1), (40, .putfield 115, 3), (43, .iinc 2 (-8), 3), (46, .goto (-43), 3), (49, .return_, 1)]
def m_R_put : AM := (12, ⟨"HeathForksModel", "put", "(I)V"⟩, prog_14_method_7_code, tb_R_put, 3, none, 0)
theorem tk_R_put : tabOk prog_14_method_7_code tb_R_put := by unfold tabOk; decide +kernel
set_option maxRecDepth 20000 in
theorem bb0_R_put : cB m_R_put 1 := ⟨(gwt1 13 rfl rfl), (gwt7 59 rfl rfl), ⟨by decide, by decide⟩, by decide +kernel, by decide⟩
theorem bb_R_put : cB m_R_put 1 := bb0_R_put
set_option maxRecDepth 20000 in
theorem vv_R_put : cV m_R_put := ⟨(gwt7 58 rfl rfl), (gw_p 51 rfl rfl)⟩
def tb_R_feed : List (Nat × Instr × Nat) := [(0, .aload_n 0, 1), (1, .iconst 0, 1), (2, .putfield 102, 3), (5, .aload_n 0, 1), (6, .getfield 115, 3), (9, .iload_n 1, 1), (10, .invokestatic 117, 3), (13, .iadd, 1), (14, .iload_n 2, 1), (15, .invokestatic 117, 3), (18, .iadd, 1), (19, .iload_n 3, 1), (20, .invokestatic 117, 3), (23, .iadd, 1), (24, .iload 4, 2), (26, .invokestatic 117, 3), (29, .iadd, 1), (30, .iload 5, 2), (32, .invokestatic 117, 3), (35, .iadd, 1), (36, .sipush 240, 3), (39, .if_icmp .le 5, 3), (42, .iconst (-1), 1), (43, .ireturn, 1), (44, .aload_n 0, 1), (45, .iload_n 1, 1), (46, .invokevirtual 121, 3), (49, .aload_n 0, 1), (50, .iload_n 2, 1), (51, .invokevirtual 121, 3), (54, .aload_n 0, 1), (55, .iload_n 3, 1), (56, .invokevirtual 121, 3), (59, .aload_n 0, 1), (60, .iload 4, 2), (62, .invokevirtual 121, 3), (65, .aload_n 0, 1), (66, .iload 5, 2), (68, .invokevirtual 121, 3), (71, .aload_n 0, 1), (72, .getfield 115, 3), (75, .ireturn, 1)]
def m_R_feed : AM := (12, ⟨"HeathForksModel", "feed", "(IIIII)I"⟩, prog_14_method_8_code, tb_R_feed, 6, some .int, 1)
theorem tk_R_feed : tabOk prog_14_method_8_code tb_R_feed := by unfold tabOk; decide +kernel
set_option maxRecDepth 20000 in
theorem bb0_R_feed : cB m_R_feed 5 := ⟨(gwt1 13 rfl rfl), (gwt7 52 rfl rfl), ⟨by decide, by decide⟩, by decide +kernel, by decide⟩
theorem bb_R_feed : cB m_R_feed 5 := bb0_R_feed
set_option maxRecDepth 20000 in
theorem vv_R_feed : cV m_R_feed := ⟨(gwt7 50 rfl rfl), (gwt7 51 rfl rfl)⟩
def tb_R_end : List (Nat × Instr × Nat) := [(0, .aload_n 0, 1), (1, .iconst 0, 1), (2, .putfield 102, 3), (5, .iload_n 1, 1), (6, .ifCond .lt 11, 3), (9, .iload_n 1, 1), (10, .aload_n 0, 1), (11, .getfield 115, 3), (14, .if_icmp .le 5, 3), (17, .iconst 0, 1), (18, .ireturn, 1), (19, .aload_n 0, 1), (20, .iload_n 1, 1), (21, .putfield 115, 3), (24, .iconst 1, 1), (25, .ireturn, 1)]
def m_R_end : AM := (12, ⟨"HeathForksModel", "end", "(I)Z"⟩, prog_14_method_9_code, tb_R_end, 2, some .boolean, 0)
theorem tk_R_end : tabOk prog_14_method_9_code tb_R_end := by unfold tabOk; decide +kernel
set_option maxRecDepth 20000 in
theorem bb0_R_end : cB m_R_end 1 := ⟨(gwt1 13 rfl rfl), (gwt7 63 rfl rfl), ⟨by decide, by decide⟩, by decide +kernel, by decide⟩
theorem bb_R_end : cB m_R_end 1 := bb0_R_end
set_option maxRecDepth 20000 in
theorem vv_R_end : cV m_R_end := ⟨(gwt7 61 rfl rfl), (gwt7 62 rfl rfl)⟩
def tb_R_isIn : List (Nat × Instr × Nat) := [(0, .lload_n 0, 1), (1, .lload_n 2, 1), (2, .lcmp, 1), (3, .ifCond .lt 14, 3), (6, .lload_n 0, 1), (7, .lload 4, 2), (9, .lcmp, 1), (10, .ifCond .gt 7, 3), (13, .iconst 1, 1), (14, .goto 4, 3), (17, .iconst 0, 1), (18, .ireturn, 1)]
def m_R_isIn : AM := (12, ⟨"HeathForksModel", "isIn", "(JJJ)Z"⟩, prog_14_method_3_code, tb_R_isIn, 6, some .boolean, 0)
theorem tk_R_isIn : tabOk prog_14_method_3_code tb_R_isIn := by unfold tabOk; decide +kernel
set_option maxRecDepth 20000 in
theorem bb0_R_isIn : cB m_R_isIn 3 := ⟨(gwt1 13 rfl rfl), (gwt7 71 rfl rfl), ⟨by decide, by decide⟩, by decide +kernel, by decide⟩
theorem bb_R_isIn : cB m_R_isIn 3 := bb0_R_isIn
set_option maxRecDepth 20000 in
theorem vv_R_isIn : Cond.static (my m_R_isIn) ∈ gw := (gwt7 70 rfl rfl)
def tb_R_starts : List (Nat × Instr × Nat) := [(0, .aload_n 0, 1), (1, .aload_n 1, 1), (2, .putfield 23, 3), (5, .aload_n 0, 1), (6, .iload_n 2, 1), (7, .putfield 131, 3), (10, .aload_n 0, 1), (11, .iload_n 3, 1), (12, .putfield 128, 3), (15, .aload_n 0, 1), (16, .iconst 0, 1), (17, .putfield 125, 3), (20, .aload_n 0, 1), (21, .iconst (-1), 1), (22, .putfield 134, 3), (25, .return_, 1)]
def m_R_starts : AM := (12, ⟨"HeathForksModel", "starts", "([BII)V"⟩, prog_14_method_25_code, tb_R_starts, 4, none, 0)
theorem tk_R_starts : tabOk prog_14_method_25_code tb_R_starts := by unfold tabOk; decide +kernel
set_option maxRecDepth 20000 in
theorem bb0_R_starts : cB m_R_starts 3 := ⟨(gwt1 13 rfl rfl), (gwt7 79 rfl rfl), ⟨by decide, by decide⟩, by decide +kernel, by decide⟩
theorem bb_R_starts : cB m_R_starts 3 := bb0_R_starts
set_option maxRecDepth 20000 in
theorem vv_R_starts : cV m_R_starts := ⟨(gwt7 78 rfl rfl), (gw_p 53 rfl rfl)⟩
def tb_R_usual : List (Nat × Instr × Nat) := [(0, .iload_n 0, 1), (1, .lookupswitch 96 #[(105, 83), (107, 94), (115, 43), (118, 71)], 43), (44, .iload_n 1, 1), (45, .ifCond .ne 7, 3), (48, .iconst 5, 1), (49, .goto 22, 3), (52, .iload_n 1, 1), (53, .iconst 1, 1), (54, .if_icmp .ne 7, 3), (57, .iconst 4, 1), (58, .goto 13, 3), (61, .iload_n 1, 1), (62, .iconst 2, 1), (63, .if_icmp .ne 7, 3), (66, .iconst 2, 1), (67, .goto 4, 3), (70, .iconst 1, 1), (71, .ireturn, 1), (72, .iload_n 1, 1), (73, .iconst 1, 1), (74, .if_icmp .ne 8, 3), (77, .bipush 20, 2), (79, .goto 4, 3), (82, .iconst 0, 1), (83, .ireturn, 1), (84, .iload_n 1, 1), (85, .iconst 1, 1), (86, .if_icmp .ne 7, 3), (89, .iconst 2, 1), (90, .goto 4, 3), (93, .iconst 0, 1), (94, .ireturn, 1), (95, .iload_n 1, 1), (96, .ireturn, 1), (97, .iload_n 1, 1), (98, .iconst 1, 1), (99, .if_icmp .eq 8, 3), (102, .iload_n 1, 1), (103, .iconst 3, 1), (104, .if_icmp .ne 8, 3), (107, .bipush 30, 2), (109, .goto 4, 3), (112, .iconst 0, 1), (113, .ireturn, 1)]
def m_R_usual : AM := (12, ⟨"HeathForksModel", "usual", "(II)I"⟩, prog_14_method_32_code, tb_R_usual, 2, some .int, 0)
theorem tk_R_usual : tabOk prog_14_method_32_code tb_R_usual := by unfold tabOk; decide +kernel
set_option maxRecDepth 20000 in
theorem bb0_R_usual : cB m_R_usual 2 := ⟨(gwt1 13 rfl rfl), (gwt7 82 rfl rfl), ⟨by decide, by decide⟩, by decide +kernel, by decide⟩
theorem bb_R_usual : cB m_R_usual 2 := bb0_R_usual
set_option maxRecDepth 20000 in
theorem vv_R_usual : Cond.static (my m_R_usual) ∈ gw := (gwt7 81 rfl rfl)
def tb_R_look : List (Nat × Instr × Nat) := [(0, .aload_n 0, 1), (1, .getfield 125, 3), (4, .aload_n 0, 1), (5, .getfield 128, 3), (8, .if_icmp .ge 35, 3), (11, .aload_n 0, 1), (12, .getfield 23, 3), (15, .aload_n 0, 1), (16, .getfield 131, 3), (19, .aload_n 0, 1), (20, .getfield 125, 3), (23, .iadd, 1), (24, .baload, 1), (25, .bipush 32, 2), (27, .if_icmp .ne 16, 3), (30, .aload_n 0, 1), (31, .dup, 1), (32, .getfield 125, 3), (35, .iconst 1, 1), (36, .iadd, 1), (37, .putfield 125, 3), (40, .goto (-40), 3), (43, .aload_n 0, 1), (44, .getfield 125, 3), (47, .aload_n 0, 1), (48, .getfield 128, 3), (51, .if_icmp .ge 24, 3), (54, .aload_n 0, 1), (55, .getfield 23, 3), (58, .aload_n 0, 1), (59, .getfield 131, 3), (62, .aload_n 0, 1), (63, .getfield 125, 3), (66, .iadd, 1), (67, .baload, 1), (68, .sipush 255, 3), (71, .iand, 1), (72, .goto 4, 3), (75, .iconst (-1), 1), (76, .ireturn, 1)]
def m_R_look : AM := (12, ⟨"HeathForksModel", "look", "()I"⟩, prog_14_method_10_code, tb_R_look, 1, some .int, 0)
theorem tk_R_look : tabOk prog_14_method_10_code tb_R_look := by unfold tabOk; decide +kernel
set_option maxRecDepth 20000 in
theorem bb0_R_look : cB m_R_look 0 := ⟨(gwt1 13 rfl rfl), (gwt7 90 rfl rfl), ⟨by decide, by decide⟩, by decide +kernel, by decide⟩
theorem bb_R_look : cB m_R_look 0 := bb0_R_look
set_option maxRecDepth 20000 in
theorem vv_R_look : cV m_R_look := ⟨(gwt7 89 rfl rfl), (gw_p 55 rfl rfl)⟩
def tb_R_fails : List (Nat × Instr × Nat) := [(0, .aload_n 0, 1), (1, .getfield 134, 3), (4, .iconst (-1), 1), (5, .if_icmp .ne 11, 3), (8, .aload_n 0, 1), (9, .aload_n 0, 1), (10, .getfield 125, 3), (13, .putfield 134, 3), (16, .iconst 0, 1), (17, .ireturn, 1)]
def m_R_fails : AM := (12, ⟨"HeathForksModel", "fails", "()Z"⟩, prog_14_method_11_code, tb_R_fails, 1, some .boolean, 0)
theorem tk_R_fails : tabOk prog_14_method_11_code tb_R_fails := by unfold tabOk; decide +kernel
set_option maxRecDepth 20000 in
theorem bb0_R_fails : cB m_R_fails 0 := ⟨(gwt1 13 rfl rfl), (gwt7 94 rfl rfl), ⟨by decide, by decide⟩, by decide +kernel, by decide⟩
theorem bb_R_fails : cB m_R_fails 0 := bb0_R_fails
set_option maxRecDepth 20000 in
theorem vv_R_fails : cV m_R_fails := ⟨(gwt7 93 rfl rfl), (gw_p 56 rfl rfl)⟩
def tb_Str_checkIndex : List (Nat × Instr × Nat) := [(0, .iload_n 0, 1), (1, .iload_n 1, 1), (2, .getstatic 1053, 3), (5, .invokestatic 1059, 3), (8, .pop, 1), (9, .return_, 1)]
def m_Str_checkIndex : AM := (13, ⟨"java/lang/String", "checkIndex", "(II)V"⟩, prog_23_method_155_code, tb_Str_checkIndex, 2, none, 2)
theorem tk_Str_checkIndex : tabOk prog_23_method_155_code tb_Str_checkIndex := by unfold tabOk; decide +kernel
set_option maxRecDepth 20000 in
theorem bb0_Str_checkIndex : cB m_Str_checkIndex 2 := ⟨(gwt1 14 rfl rfl), (gwt7 113 rfl rfl), ⟨by decide, by decide⟩, by decide +kernel, by decide⟩
theorem bb_Str_checkIndex : cB m_Str_checkIndex 2 := bb0_Str_checkIndex
set_option maxRecDepth 20000 in
theorem vv_Str_checkIndex : Cond.static (my m_Str_checkIndex) ∈ gw := (gwt7 112 rfl rfl)
def tb_Lat_charAt : List (Nat × Instr × Nat) := [(0, .iload_n 1, 1), (1, .aload_n 0, 1), (2, .arraylength, 1), (3, .invokestatic 9, 3), (6, .aload_n 0, 1), (7, .iload_n 1, 1), (8, .baload, 1), (9, .sipush 255, 3), (12, .iand, 1), (13, .i2c, 1), (14, .ireturn, 1)]
def m_Lat_charAt : AM := (14, ⟨"java/lang/StringLatin1", "charAt", "([BI)C"⟩, prog_24_method_2_code, tb_Lat_charAt, 2, some .char, 3)
theorem tk_Lat_charAt : tabOk prog_24_method_2_code tb_Lat_charAt := by unfold tabOk; decide +kernel
set_option maxRecDepth 20000 in
theorem bb0_Lat_charAt : cB m_Lat_charAt 2 := ⟨(gwt1 15 rfl rfl), (gwt7 110 rfl rfl), ⟨by decide, by decide⟩, by decide +kernel, by decide⟩
theorem bb_Lat_charAt : cB m_Lat_charAt 2 := bb0_Lat_charAt
set_option maxRecDepth 20000 in
theorem vv_Lat_charAt : Cond.static (my m_Lat_charAt) ∈ gw := (gwt7 109 rfl rfl)
def tb_Str_charAt : List (Nat × Instr × Nat) := [(0, .aload_n 0, 1), (1, .invokevirtual 492, 3), (4, .ifCond .eq 12, 3), (7, .aload_n 0, 1), (8, .getfield 9, 3), (11, .iload_n 1, 1), (12, .invokestatic 495, 3), (15, .ireturn, 1), (16, .aload_n 0, 1), (17, .getfield 9, 3), (20, .iload_n 1, 1), (21, .invokestatic 498, 3), (24, .ireturn, 1)]
def m_Str_charAt : AM := (13, ⟨"java/lang/String", "charAt", "(I)C"⟩, prog_23_method_56_code, tb_Str_charAt, 2, some .char, 4)
theorem tk_Str_charAt : tabOk prog_23_method_56_code tb_Str_charAt := by unfold tabOk; decide +kernel
set_option maxRecDepth 20000 in
theorem bb0_Str_charAt : cB m_Str_charAt 1 := ⟨(gwt1 14 rfl rfl), (gwt7 107 rfl rfl), ⟨by decide, by decide⟩, by decide +kernel, by decide⟩
theorem bb_Str_charAt : cB m_Str_charAt 1 := bb0_Str_charAt
set_option maxRecDepth 20000 in
theorem vv_Str_charAt : cV m_Str_charAt := ⟨(gwt7 105 rfl rfl), (gwt7 106 rfl rfl)⟩
def tb_R_spotOf : List (Nat × Instr × Nat) := [(0, .iconst 0, 1), (1, .istore_n 2, 1), (2, .iload_n 2, 1), (3, .aload_n 0, 1), (4, .invokevirtual 105, 3), (7, .if_icmp .ge 20, 3), (10, .aload_n 0, 1), (11, .iload_n 2, 1), (12, .invokevirtual 111, 3), (15, .iload_n 1, 1), (16, .if_icmp .ne 5, 3), (19, .iload_n 2, 1), (20, .ireturn, 1), (21, .iinc 2 1, 3), (24, .goto (-22), 3), (27, .iconst (-1), 1), (28, .ireturn, 1)]
def m_R_spotOf : AM := (12, ⟨"HeathForksModel", "spotOf", "(Ljava/lang/String;I)I"⟩, prog_14_method_28_code, tb_R_spotOf, 3, some .int, 5)
theorem tk_R_spotOf : tabOk prog_14_method_28_code tb_R_spotOf := by unfold tabOk; decide +kernel
set_option maxRecDepth 20000 in
theorem bb0_R_spotOf : cB m_R_spotOf 2 := ⟨(gwt1 13 rfl rfl), (gwt7 103 rfl rfl), ⟨by decide, by decide⟩, by decide +kernel, by decide⟩
theorem bb_R_spotOf : cB m_R_spotOf 2 := bb0_R_spotOf
set_option maxRecDepth 20000 in
theorem vv_R_spotOf : Cond.static (my m_R_spotOf) ∈ gw := (gwt7 102 rfl rfl)
def tb_R_has : List (Nat × Instr × Nat) := [(0, .iload_n 0, 1), (1, .iload_n 1, 1), (2, .ishr, 1), (3, .iconst 1, 1), (4, .iand, 1), (5, .iconst 1, 1), (6, .if_icmp .ne 7, 3), (9, .iconst 1, 1), (10, .goto 4, 3), (13, .iconst 0, 1), (14, .ireturn, 1)]
def m_R_has : AM := (12, ⟨"HeathForksModel", "has", "(II)Z"⟩, prog_14_method_4_code, tb_R_has, 2, some .boolean, 0)
theorem tk_R_has : tabOk prog_14_method_4_code tb_R_has := by unfold tabOk; decide +kernel
set_option maxRecDepth 20000 in
theorem bb0_R_has : cB m_R_has 2 := ⟨(gwt1 13 rfl rfl), (gwt7 126 rfl rfl), ⟨by decide, by decide⟩, by decide +kernel, by decide⟩
theorem bb_R_has : cB m_R_has 2 := bb0_R_has
set_option maxRecDepth 20000 in
theorem vv_R_has : Cond.static (my m_R_has) ∈ gw := (gwt7 125 rfl rfl)
def tb_R_leastOf : List (Nat × Instr × Nat) := [(0, .iload_n 0, 1), (1, .bipush 115, 2), (3, .if_icmp .ne 14, 3), (6, .iload_n 1, 1), (7, .iconst 2, 1), (8, .if_icmp .ne 7, 3), (11, .iconst 0, 1), (12, .goto 4, 3), (15, .iconst 1, 1), (16, .ireturn, 1), (17, .iload_n 0, 1), (18, .bipush 102, 2), (20, .if_icmp .eq 12, 3), (23, .iload_n 1, 1), (24, .iconst 1, 1), (25, .if_icmp .ne 7, 3), (28, .iconst 1, 1), (29, .goto 4, 3), (32, .iconst 0, 1), (33, .ireturn, 1)]
def m_R_leastOf : AM := (12, ⟨"HeathForksModel", "leastOf", "(II)I"⟩, prog_14_method_31_code, tb_R_leastOf, 2, some .int, 0)
theorem tk_R_leastOf : tabOk prog_14_method_31_code tb_R_leastOf := by unfold tabOk; decide +kernel
set_option maxRecDepth 20000 in
theorem bb0_R_leastOf : cB m_R_leastOf 2 := ⟨(gwt1 13 rfl rfl), (gwt7 129 rfl rfl), ⟨by decide, by decide⟩, by decide +kernel, by decide⟩
theorem bb_R_leastOf : cB m_R_leastOf 2 := bb0_R_leastOf
set_option maxRecDepth 20000 in
theorem vv_R_leastOf : Cond.static (my m_R_leastOf) ∈ gw := (gwt7 128 rfl rfl)
def tb_R_mostOf : List (Nat × Instr × Nat) := [(0, .iload_n 0, 1), (1, .bipush 115, 2), (3, .if_icmp .ne 24, 3), (6, .iload_n 1, 1), (7, .ifCond .ne 8, 3), (10, .bipush 6, 2), (12, .goto 14, 3), (15, .iload_n 1, 1), (16, .iconst 1, 1), (17, .if_icmp .ne 7, 3), (20, .iconst 5, 1), (21, .goto 5, 3), (24, .bipush 9, 2), (26, .ireturn, 1), (27, .iload_n 1, 1), (28, .ifCond .ne 6, 3), (31, .bipush 29, 2), (33, .ireturn, 1), (34, .iload_n 0, 1), (35, .bipush 118, 2), (37, .if_icmp .ne 16, 3), (40, .iload_n 1, 1), (41, .iconst 1, 1), (42, .if_icmp .ne 8, 3), (45, .bipush 60, 2), (47, .goto 5, 3), (50, .bipush 9, 2), (52, .ireturn, 1), (53, .iload_n 0, 1), (54, .bipush 102, 2), (56, .if_icmp .eq 6, 3), (59, .bipush 9, 2), (61, .ireturn, 1), (62, .iload_n 1, 1), (63, .iconst 1, 1), (64, .if_icmp .ne 8, 3), (67, .bipush 60, 2), (69, .goto 24, 3), (72, .iload_n 1, 1), (73, .iconst 3, 1), (74, .if_icmp .ne 8, 3), (77, .bipush 30, 2), (79, .goto 14, 3), (82, .iload_n 1, 1), (83, .iconst 5, 1), (84, .if_icmp .ne 7, 3), (87, .iconst 1, 1), (88, .goto 5, 3), (91, .bipush 9, 2), (93, .ireturn, 1)]
def m_R_mostOf : AM := (12, ⟨"HeathForksModel", "mostOf", "(II)I"⟩, prog_14_method_30_code, tb_R_mostOf, 2, some .int, 0)
theorem tk_R_mostOf : tabOk prog_14_method_30_code tb_R_mostOf := by unfold tabOk; decide +kernel
set_option maxRecDepth 20000 in
theorem bb0_R_mostOf : cB m_R_mostOf 2 := ⟨(gwt1 13 rfl rfl), (gwt7 132 rfl rfl), ⟨by decide, by decide⟩, by decide +kernel, by decide⟩
theorem bb_R_mostOf : cB m_R_mostOf 2 := bb0_R_mostOf
set_option maxRecDepth 20000 in
theorem vv_R_mostOf : Cond.static (my m_R_mostOf) ∈ gw := (gwt7 131 rfl rfl)
def tb_R_isDigit : List (Nat × Instr × Nat) := [(0, .aload_n 0, 1), (1, .getfield 125, 3), (4, .aload_n 0, 1), (5, .getfield 128, 3), (8, .if_icmp .ge 45, 3), (11, .aload_n 0, 1), (12, .getfield 23, 3), (15, .aload_n 0, 1), (16, .getfield 131, 3), (19, .aload_n 0, 1), (20, .getfield 125, 3), (23, .iadd, 1), (24, .baload, 1), (25, .bipush 48, 2), (27, .if_icmp .lt 26, 3), (30, .aload_n 0, 1), (31, .getfield 23, 3), (34, .aload_n 0, 1), (35, .getfield 131, 3), (38, .aload_n 0, 1), (39, .getfield 125, 3), (42, .iadd, 1), (43, .baload, 1), (44, .bipush 57, 2), (46, .if_icmp .gt 7, 3), (49, .iconst 1, 1), (50, .goto 4, 3), (53, .iconst 0, 1), (54, .ireturn, 1)]
def m_R_isDigit : AM := (12, ⟨"HeathForksModel", "isDigit", "()Z"⟩, prog_14_method_14_code, tb_R_isDigit, 1, some .boolean, 0)
theorem tk_R_isDigit : tabOk prog_14_method_14_code tb_R_isDigit := by unfold tabOk; decide +kernel
set_option maxRecDepth 20000 in
theorem bb0_R_isDigit : cB m_R_isDigit 0 := ⟨(gwt1 13 rfl rfl), (gwt7 140 rfl rfl), ⟨by decide, by decide⟩, by decide +kernel, by decide⟩
theorem bb_R_isDigit : cB m_R_isDigit 0 := bb0_R_isDigit
set_option maxRecDepth 20000 in
theorem vv_R_isDigit : cV m_R_isDigit := ⟨(gwt7 139 rfl rfl), (gw_p 59 rfl rfl)⟩
def tb_R_here : List (Nat × Instr × Nat) := [(0, .aload_n 0, 1), (1, .getfield 125, 3), (4, .aload_n 0, 1), (5, .getfield 128, 3), (8, .if_icmp .ge 24, 3), (11, .aload_n 0, 1), (12, .getfield 23, 3), (15, .aload_n 0, 1), (16, .getfield 131, 3), (19, .aload_n 0, 1), (20, .getfield 125, 3), (23, .iadd, 1), (24, .baload, 1), (25, .sipush 255, 3), (28, .iand, 1), (29, .goto 4, 3), (32, .iconst (-1), 1), (33, .ireturn, 1)]
def m_R_here : AM := (12, ⟨"HeathForksModel", "here", "()I"⟩, prog_14_method_27_code, tb_R_here, 1, some .int, 0)
theorem tk_R_here : tabOk prog_14_method_27_code tb_R_here := by unfold tabOk; decide +kernel
set_option maxRecDepth 20000 in
theorem bb0_R_here : cB m_R_here 0 := ⟨(gwt1 13 rfl rfl), (gwt7 144 rfl rfl), ⟨by decide, by decide⟩, by decide +kernel, by decide⟩
theorem bb_R_here : cB m_R_here 0 := bb0_R_here
set_option maxRecDepth 20000 in
theorem vv_R_here : cV m_R_here := ⟨(gwt7 143 rfl rfl), (gw_p 60 rfl rfl)⟩
def tb_R_number : List (Nat × Instr × Nat) := [(0, .aload_n 0, 1), (1, .invokevirtual 144, 3), (4, .istore_n 3, 1), (5, .aload_n 0, 1), (6, .invokevirtual 174, 3), (9, .ifCond .ne 10, 3), (12, .aload_n 0, 1), (13, .invokevirtual 140, 3), (16, .pop, 1), (17, .iconst 0, 1), (18, .ireturn, 1), (19, .iload_n 3, 1), (20, .bipush 48, 2), (22, .isub, 1), (23, .istore 4, 2), (25, .aload_n 0, 1), (26, .dup, 1), (27, .getfield 125, 3), (30, .iconst 1, 1), (31, .iadd, 1), (32, .putfield 125, 3), (35, .aload_n 0, 1), (36, .invokevirtual 174, 3), (39, .ifCond .eq 28, 3), (42, .bipush 10, 2), (44, .iload 4, 2), (46, .imul, 1), (47, .aload_n 0, 1), (48, .invokevirtual 220, 3), (51, .iadd, 1), (52, .bipush 48, 2), (54, .isub, 1), (55, .istore 4, 2), (57, .aload_n 0, 1), (58, .dup, 1), (59, .getfield 125, 3), (62, .iconst 1, 1), (63, .iadd, 1), (64, .putfield 125, 3), (67, .aload_n 0, 1), (68, .invokevirtual 174, 3), (71, .ifCond .eq 10, 3), (74, .aload_n 0, 1), (75, .invokevirtual 140, 3), (78, .pop, 1), (79, .iconst 0, 1), (80, .ireturn, 1), (81, .iload 4, 2), (83, .i2l, 1), (84, .iload_n 1, 1), (85, .i2l, 1), (86, .iload_n 2, 1), (87, .i2l, 1), (88, .invokestatic 223, 3), (91, .ifCond .ne 18, 3), (94, .aload_n 0, 1), (95, .dup, 1), (96, .getfield 125, 3), (99, .iconst 1, 1), (100, .isub, 1), (101, .putfield 125, 3), (104, .aload_n 0, 1), (105, .invokevirtual 140, 3), (108, .pop, 1), (109, .iload 4, 2), (111, .ireturn, 1)]
def m_R_number : AM := (12, ⟨"HeathForksModel", "number", "(II)I"⟩, prog_14_method_29_code, tb_R_number, 5, some .int, 1)
theorem tk_R_number : tabOk prog_14_method_29_code tb_R_number := by unfold tabOk; decide +kernel
set_option maxRecDepth 20000 in
theorem bb0_R_number : cB m_R_number 2 := ⟨(gwt1 13 rfl rfl), (gwt7 136 rfl rfl), ⟨by decide, by decide⟩, by decide +kernel, by decide⟩
theorem bb_R_number : cB m_R_number 2 := bb0_R_number
set_option maxRecDepth 20000 in
theorem vv_R_number : cV m_R_number := ⟨(gwt7 135 rfl rfl), (gw_p 58 rfl rfl)⟩
def tb_R_readItems : List (Nat × Instr × Nat) := [(0, .iconst 0, 1), (1, .istore 5, 2), (3, .iload 5, 2), (5, .aload 4, 2), (7, .invokevirtual 105, 3), (10, .if_icmp .ge 21, 3), (13, .aload_n 2, 1), (14, .iload_n 3, 1), (15, .iload 5, 2), (17, .iadd, 1), (18, .iload_n 1, 1), (19, .iload 5, 2), (21, .invokestatic 227, 3), (24, .iastore, 1), (25, .iinc 5 1, 3), (28, .goto (-25), 3), (31, .iconst 0, 1), (32, .istore 5, 2), (34, .aload 4, 2), (36, .aload_n 0, 1), (37, .invokevirtual 144, 3), (40, .invokestatic 231, 3), (43, .istore 6, 2), (45, .iload 6, 2), (47, .iconst (-1), 1), (48, .if_icmp .eq 90, 3), (51, .aload_n 0, 1), (52, .getfield 134, 3), (55, .iconst (-1), 1), (56, .if_icmp .ne 82, 3), (59, .iload 5, 2), (61, .iload 6, 2), (63, .invokestatic 235, 3), (66, .ifCond .eq 9, 3), (69, .aload_n 0, 1), (70, .invokevirtual 140, 3), (73, .pop, 1), (74, .return_, 1), (75, .iload 5, 2), (77, .iconst 1, 1), (78, .iload 6, 2), (80, .ishl, 1), (81, .ior, 1), (82, .istore 5, 2), (84, .aload_n 0, 1), (85, .dup, 1), (86, .getfield 125, 3), (89, .iconst 1, 1), (90, .iadd, 1), (91, .putfield 125, 3), (94, .aload_n 2, 1), (95, .iload_n 3, 1), (96, .iload 6, 2), (98, .iadd, 1), (99, .aload_n 0, 1), (100, .iload_n 1, 1), (101, .iload 6, 2), (103, .invokestatic 239, 3), (106, .iload_n 1, 1), (107, .iload 6, 2), (109, .invokestatic 242, 3), (112, .invokevirtual 245, 3), (115, .iastore, 1), (116, .aload_n 0, 1), (117, .getfield 134, 3), (120, .iconst (-1), 1), (121, .if_icmp .ne (-76), 3), (124, .aload 4, 2), (126, .aload_n 0, 1), (127, .invokevirtual 144, 3), (130, .invokestatic 231, 3), (133, .istore 6, 2), (135, .goto (-90), 3), (138, .return_, 1)]
def m_R_readItems : AM := (12, ⟨"HeathForksModel", "readItems", "(I[IILjava/lang/String;)V"⟩, prog_14_method_33_code, tb_R_readItems, 7, none, 6)
theorem tk_R_readItems : tabOk prog_14_method_33_code tb_R_readItems := by unfold tabOk; decide +kernel
set_option maxRecDepth 20000 in
theorem bb0_R_readItems : cB m_R_readItems 4 := ⟨(gwt1 13 rfl rfl), (gwt7 99 rfl rfl), ⟨by decide, by decide⟩, by decide +kernel, by decide⟩
theorem bb_R_readItems : cB m_R_readItems 4 := bb0_R_readItems
set_option maxRecDepth 20000 in
theorem vv_R_readItems : cV m_R_readItems := ⟨(gwt7 98 rfl rfl), (gw_p 57 rfl rfl)⟩
def tb_R_readWays : List (Nat × Instr × Nat) := [(0, .iconst 0, 1), (1, .istore 4, 2), (3, .ldc 248, 2), (5, .aload_n 0, 1), (6, .invokevirtual 144, 3), (9, .invokestatic 231, 3), (12, .istore 5, 2), (14, .iload 4, 2), (16, .ifCond .eq 9, 3), (19, .iload 5, 2), (21, .iconst (-1), 1), (22, .if_icmp .eq 61, 3), (25, .iload 5, 2), (27, .iconst (-1), 1), (28, .if_icmp .eq 10, 3), (31, .iload 4, 2), (33, .bipush 8, 2), (35, .if_icmp .ne 11, 3), (38, .aload_n 0, 1), (39, .invokevirtual 140, 3), (42, .pop, 1), (43, .iload 4, 2), (45, .ireturn, 1), (46, .aload_n 1, 1), (47, .iload_n 2, 1), (48, .iload_n 3, 1), (49, .iload 4, 2), (51, .imul, 1), (52, .iadd, 1), (53, .iload 5, 2), (55, .iastore, 1), (56, .aload_n 0, 1), (57, .dup, 1), (58, .getfield 125, 3), (61, .iconst 1, 1), (62, .iadd, 1), (63, .putfield 125, 3), (66, .iinc 4 1, 3), (69, .ldc 248, 2), (71, .aload_n 0, 1), (72, .invokevirtual 144, 3), (75, .invokestatic 231, 3), (78, .istore 5, 2), (80, .goto (-66), 3), (83, .iload 4, 2), (85, .ireturn, 1)]
def m_R_readWays : AM := (12, ⟨"HeathForksModel", "readWays", "([III)I"⟩, prog_14_method_34_code, tb_R_readWays, 6, some .int, 6)
theorem tk_R_readWays : tabOk prog_14_method_34_code tb_R_readWays := by unfold tabOk; decide +kernel
set_option maxRecDepth 20000 in
theorem bb0_R_readWays : cB m_R_readWays 3 := ⟨(gwt1 13 rfl rfl), (gwt7 153 rfl rfl), ⟨by decide, by decide⟩, by decide +kernel, by decide⟩
theorem bb_R_readWays : cB m_R_readWays 3 := bb0_R_readWays
set_option maxRecDepth 20000 in
theorem vv_R_readWays : cV m_R_readWays := ⟨(gwt7 152 rfl rfl), (gw_p 62 rfl rfl)⟩
def tb_R_readVein : List (Nat × Instr × Nat) := [(0, .aload_n 0, 1), (1, .dup, 1), (2, .getfield 250, 3), (5, .iconst 1, 1), (6, .iadd, 1), (7, .putfield 250, 3), (10, .bipush 13, 2), (12, .aload_n 0, 1), (13, .getfield 250, 3), (16, .iconst 1, 1), (17, .isub, 1), (18, .imul, 1), (19, .istore_n 1, 1), (20, .aload_n 0, 1), (21, .bipush 118, 2), (23, .aload_n 0, 1), (24, .getfield 46, 3), (27, .iload_n 1, 1), (28, .ldc 253, 2), (30, .invokevirtual 255, 3), (33, .aload_n 0, 1), (34, .getfield 46, 3), (37, .iload_n 1, 1), (38, .iconst 3, 1), (39, .iadd, 1), (40, .iconst 0, 1), (41, .iastore, 1), (42, .aload_n 0, 1), (43, .getfield 134, 3), (46, .iconst (-1), 1), (47, .if_icmp .ne 12, 3), (50, .aload_n 0, 1), (51, .invokevirtual 144, 3), (54, .bipush 58, 2), (56, .if_icmp .eq 4, 3), (59, .return_, 1), (60, .aload_n 0, 1), (61, .dup, 1), (62, .getfield 125, 3), (65, .iconst 1, 1), (66, .iadd, 1), (67, .putfield 125, 3), (70, .aload_n 0, 1), (71, .getfield 46, 3), (74, .iload_n 1, 1), (75, .iconst 3, 1), (76, .iadd, 1), (77, .aload_n 0, 1), (78, .aload_n 0, 1), (79, .getfield 46, 3), (82, .iload_n 1, 1), (83, .iconst 4, 1), (84, .iadd, 1), (85, .iconst 1, 1), (86, .invokevirtual 259, 3), (89, .iastore, 1), (90, .return_, 1)]
def m_R_readVein : AM := (12, ⟨"HeathForksModel", "readVein", "()V"⟩, prog_14_method_35_code, tb_R_readVein, 2, none, 7)
theorem tk_R_readVein : tabOk prog_14_method_35_code tb_R_readVein := by unfold tabOk; decide +kernel
set_option maxRecDepth 20000 in
theorem bb0_R_readVein : cB m_R_readVein 0 := ⟨(gwt1 13 rfl rfl), (gwt7 148 rfl rfl), ⟨by decide, by decide⟩, by decide +kernel, by decide⟩
theorem bb_R_readVein : cB m_R_readVein 0 := bb0_R_readVein
set_option maxRecDepth 20000 in
theorem vv_R_readVein : cV m_R_readVein := ⟨(gwt7 147 rfl rfl), (gw_p 61 rfl rfl)⟩
def tb_R_readClause : List (Nat × Instr × Nat) := [(0, .aload_n 0, 1), (1, .invokevirtual 144, 3), (4, .istore_n 1, 1), (5, .iload_n 1, 1), (6, .bipush 115, 2), (8, .if_icmp .ne 10, 3), (11, .aload_n 0, 1), (12, .getfield 263, 3), (15, .ifCond .eq 62, 3), (18, .iload_n 1, 1), (19, .bipush 118, 2), (21, .if_icmp .ne 11, 3), (24, .aload_n 0, 1), (25, .getfield 250, 3), (28, .iconst 4, 1), (29, .if_icmp .lt 48, 3), (32, .iload_n 1, 1), (33, .bipush 105, 2), (35, .if_icmp .ne 12, 3), (38, .aload_n 0, 1), (39, .getfield 266, 3), (42, .bipush 6, 2), (44, .if_icmp .lt 33, 3), (47, .iload_n 1, 1), (48, .bipush 107, 2), (50, .if_icmp .ne 12, 3), (53, .aload_n 0, 1), (54, .getfield 269, 3), (57, .bipush 6, 2), (59, .if_icmp .lt 18, 3), (62, .iload_n 1, 1), (63, .bipush 102, 2), (65, .if_icmp .ne 16, 3), (68, .aload_n 0, 1), (69, .getfield 272, 3), (72, .bipush 6, 2), (74, .if_icmp .ge 7, 3), (77, .iconst 1, 1), (78, .goto 4, 3), (81, .iconst 0, 1), (82, .istore_n 2, 1), (83, .iload_n 2, 1), (84, .ifCond .ne 9, 3), (87, .aload_n 0, 1), (88, .invokevirtual 140, 3), (91, .pop, 1), (92, .return_, 1), (93, .aload_n 0, 1), (94, .dup, 1), (95, .getfield 125, 3), (98, .iconst 1, 1), (99, .iadd, 1), (100, .putfield 125, 3), (103, .iload_n 1, 1), (104, .lookupswitch 138 #[(105, 72), (107, 105), (115, 44), (118, 65)], 44), (148, .aload_n 0, 1), (149, .iconst 1, 1), (150, .putfield 263, 3), (153, .aload_n 0, 1), (154, .iload_n 1, 1), (155, .aload_n 0, 1), (156, .getfield 40, 3), (159, .iconst 0, 1), (160, .ldc_w 275, 3), (163, .invokevirtual 255, 3), (166, .goto 107, 3), (169, .aload_n 0, 1), (170, .invokevirtual 277, 3), (173, .goto 100, 3), (176, .aload_n 0, 1), (177, .dup, 1), (178, .getfield 266, 3), (181, .iconst 1, 1), (182, .iadd, 1), (183, .putfield 266, 3), (186, .aload_n 0, 1), (187, .iload_n 1, 1), (188, .aload_n 0, 1), (189, .getfield 52, 3), (192, .iconst 2, 1), (193, .aload_n 0, 1), (194, .getfield 266, 3), (197, .iconst 1, 1), (198, .isub, 1), (199, .imul, 1), (200, .ldc_w 280, 3), (203, .invokevirtual 255, 3), (206, .goto 67, 3), (209, .aload_n 0, 1), (210, .dup, 1), (211, .getfield 269, 3), (214, .iconst 1, 1), (215, .iadd, 1), (216, .putfield 269, 3), (219, .aload_n 0, 1), (220, .iload_n 1, 1), (221, .aload_n 0, 1), (222, .getfield 58, 3), (225, .iconst 2, 1), (226, .aload_n 0, 1), (227, .getfield 269, 3), (230, .iconst 1, 1), (231, .isub, 1), (232, .imul, 1), (233, .ldc_w 282, 3), (236, .invokevirtual 255, 3), (239, .goto 34, 3), (242, .aload_n 0, 1), (243, .dup, 1), (244, .getfield 272, 3), (247, .iconst 1, 1), (248, .iadd, 1), (249, .putfield 272, 3), (252, .aload_n 0, 1), (253, .iload_n 1, 1), (254, .aload_n 0, 1), (255, .getfield 64, 3), (258, .bipush 6, 2), (260, .aload_n 0, 1), (261, .getfield 272, 3), (264, .iconst 1, 1), (265, .isub, 1), (266, .imul, 1), (267, .ldc_w 284, 3), (270, .invokevirtual 255, 3), (273, .return_, 1)]
def m_R_readClause : AM := (12, ⟨"HeathForksModel", "readClause", "()V"⟩, prog_14_method_36_code, tb_R_readClause, 3, none, 8)
theorem tk_R_readClause : tabOk prog_14_method_36_code tb_R_readClause := by unfold tabOk; decide +kernel
set_option maxRecDepth 20000 in
theorem bb0_R_readClause : cB m_R_readClause 0 := ⟨(gwt1 13 rfl rfl), (gwt7 86 rfl rfl), ⟨by decide, by decide⟩, by decide +kernel, by decide⟩
theorem bb_R_readClause : cB m_R_readClause 0 := bb0_R_readClause
set_option maxRecDepth 20000 in
theorem vv_R_readClause : cV m_R_readClause := ⟨(gwt7 85 rfl rfl), (gw_p 54 rfl rfl)⟩
def tb_R_beside : List (Nat × Instr × Nat) := [(0, .iload_n 0, 1), (1, .iload_n 2, 1), (2, .irem, 1), (3, .iload_n 1, 1), (4, .ifCond .ne 7, 3), (7, .iconst 1, 1), (8, .goto 13, 3), (11, .iload_n 1, 1), (12, .iconst 2, 1), (13, .if_icmp .ne 7, 3), (16, .iconst (-1), 1), (17, .goto 4, 3), (20, .iconst 0, 1), (21, .iadd, 1), (22, .istore 4, 2), (24, .iload_n 0, 1), (25, .iload_n 2, 1), (26, .idiv, 1), (27, .iload_n 1, 1), (28, .iconst 1, 1), (29, .if_icmp .ne 7, 3), (32, .iconst 1, 1), (33, .goto 13, 3), (36, .iload_n 1, 1), (37, .iconst 3, 1), (38, .if_icmp .ne 7, 3), (41, .iconst (-1), 1), (42, .goto 4, 3), (45, .iconst 0, 1), (46, .iadd, 1), (47, .istore 5, 2), (49, .iload 4, 2), (51, .ifCond .lt 20, 3), (54, .iload 4, 2), (56, .iload_n 2, 1), (57, .if_icmp .ge 14, 3), (60, .iload 5, 2), (62, .ifCond .lt 9, 3), (65, .iload 5, 2), (67, .iload_n 3, 1), (68, .if_icmp .lt 7, 3), (71, .iconst (-1), 1), (72, .goto 10, 3), (75, .iload 5, 2), (77, .iload_n 2, 1), (78, .imul, 1), (79, .iload 4, 2), (81, .iadd, 1), (82, .ireturn, 1)]
def m_R_beside : AM := (12, ⟨"HeathForksModel", "beside", "(IIII)I"⟩, prog_14_method_37_code, tb_R_beside, 6, some .int, 0)
theorem tk_R_beside : tabOk prog_14_method_37_code tb_R_beside := by unfold tabOk; decide +kernel
set_option maxRecDepth 20000 in
theorem bb0_R_beside : cB m_R_beside 4 := ⟨(gwt1 13 rfl rfl), (gwt7 164 rfl rfl), ⟨by decide, by decide⟩, by decide +kernel, by decide⟩
theorem bb_R_beside : cB m_R_beside 4 := bb0_R_beside
set_option maxRecDepth 20000 in
theorem vv_R_beside : Cond.static (my m_R_beside) ∈ gw := (gwt7 163 rfl rfl)
def tb_R_areApart : List (Nat × Instr × Nat) := [(0, .iconst 0, 1), (1, .istore 4, 2), (3, .iload 4, 2), (5, .iload_n 2, 1), (6, .if_icmp .ge 54, 3), (9, .aload_n 1, 1), (10, .iconst 2, 1), (11, .iload 4, 2), (13, .imul, 1), (14, .iaload, 1), (15, .iload_n 3, 1), (16, .if_icmp .lt 5, 3), (19, .iconst 0, 1), (20, .ireturn, 1), (21, .iconst 0, 1), (22, .istore 5, 2), (24, .iload 5, 2), (26, .iload 4, 2), (28, .if_icmp .ge 26, 3), (31, .aload_n 1, 1), (32, .iconst 2, 1), (33, .iload 5, 2), (35, .imul, 1), (36, .iaload, 1), (37, .aload_n 1, 1), (38, .iconst 2, 1), (39, .iload 4, 2), (41, .imul, 1), (42, .iaload, 1), (43, .if_icmp .ne 5, 3), (46, .iconst 0, 1), (47, .ireturn, 1), (48, .iinc 5 1, 3), (51, .goto (-27), 3), (54, .iinc 4 1, 3), (57, .goto (-54), 3), (60, .iconst 1, 1), (61, .ireturn, 1)]
def m_R_areApart : AM := (12, ⟨"HeathForksModel", "areApart", "([III)Z"⟩, prog_14_method_38_code, tb_R_areApart, 6, some .boolean, 0)
theorem tk_R_areApart : tabOk prog_14_method_38_code tb_R_areApart := by unfold tabOk; decide +kernel
set_option maxRecDepth 20000 in
theorem bb0_R_areApart : cB m_R_areApart 3 := ⟨(gwt1 13 rfl rfl), (gwt7 168 rfl rfl), ⟨by decide, by decide⟩, by decide +kernel, by decide⟩
theorem bb_R_areApart : cB m_R_areApart 3 := bb0_R_areApart
set_option maxRecDepth 20000 in
theorem vv_R_areApart : cV m_R_areApart := ⟨(gwt7 167 rfl rfl), (gw_p 64 rfl rfl)⟩
def tb_R_isWhole : List (Nat × Instr × Nat) := [(0, .aload_n 0, 1), (1, .getfield 40, 3), (4, .iconst 0, 1), (5, .iaload, 1), (6, .aload_n 0, 1), (7, .getfield 40, 3), (10, .iconst 1, 1), (11, .iaload, 1), (12, .imul, 1), (13, .istore_n 1, 1), (14, .iconst 0, 1), (15, .istore_n 2, 1), (16, .iload_n 2, 1), (17, .aload_n 0, 1), (18, .getfield 250, 3), (21, .if_icmp .ge 94, 3), (24, .aload_n 0, 1), (25, .getfield 46, 3), (28, .bipush 13, 2), (30, .iload_n 2, 1), (31, .imul, 1), (32, .iaload, 1), (33, .istore_n 3, 1), (34, .iload_n 3, 1), (35, .iload_n 1, 1), (36, .if_icmp .lt 5, 3), (39, .iconst 0, 1), (40, .ireturn, 1), (41, .iconst 0, 1), (42, .istore 4, 2), (44, .iload 4, 2), (46, .aload_n 0, 1), (47, .getfield 46, 3), (50, .bipush 13, 2), (52, .iload_n 2, 1), (53, .imul, 1), (54, .iconst 3, 1), (55, .iadd, 1), (56, .iaload, 1), (57, .if_icmp .ge 45, 3), (60, .iload_n 3, 1), (61, .iconst (-1), 1), (62, .if_icmp .eq 40, 3), (65, .iload_n 3, 1), (66, .aload_n 0, 1), (67, .getfield 46, 3), (70, .bipush 13, 2), (72, .iload_n 2, 1), (73, .imul, 1), (74, .iconst 4, 1), (75, .iadd, 1), (76, .iload 4, 2), (78, .iadd, 1), (79, .iaload, 1), (80, .aload_n 0, 1), (81, .getfield 40, 3), (84, .iconst 0, 1), (85, .iaload, 1), (86, .aload_n 0, 1), (87, .getfield 40, 3), (90, .iconst 1, 1), (91, .iaload, 1), (92, .invokestatic 286, 3), (95, .istore_n 3, 1), (96, .iinc 4 1, 3), (99, .goto (-55), 3), (102, .iload_n 3, 1), (103, .iconst (-1), 1), (104, .if_icmp .ne 5, 3), (107, .iconst 0, 1), (108, .ireturn, 1), (109, .iinc 2 1, 3), (112, .goto (-96), 3), (115, .iconst 0, 1), (116, .istore_n 2, 1), (117, .iload_n 2, 1), (118, .aload_n 0, 1), (119, .getfield 272, 3), (122, .if_icmp .ge 24, 3), (125, .aload_n 0, 1), (126, .getfield 64, 3), (129, .bipush 6, 2), (131, .iload_n 2, 1), (132, .imul, 1), (133, .iaload, 1), (134, .iload_n 1, 1), (135, .if_icmp .lt 5, 3), (138, .iconst 0, 1), (139, .ireturn, 1), (140, .iinc 2 1, 3), (143, .goto (-26), 3), (146, .aload_n 0, 1), (147, .getfield 272, 3), (150, .ifCond .le 39, 3), (153, .aload_n 0, 1), (154, .aload_n 0, 1), (155, .getfield 52, 3), (158, .aload_n 0, 1), (159, .getfield 266, 3), (162, .iload_n 1, 1), (163, .invokevirtual 290, 3), (166, .ifCond .eq 23, 3), (169, .aload_n 0, 1), (170, .aload_n 0, 1), (171, .getfield 58, 3), (174, .aload_n 0, 1), (175, .getfield 269, 3), (178, .iload_n 1, 1), (179, .invokevirtual 290, 3), (182, .ifCond .eq 7, 3), (185, .iconst 1, 1), (186, .goto 4, 3), (189, .iconst 0, 1), (190, .ireturn, 1)]
def m_R_isWhole : AM := (12, ⟨"HeathForksModel", "isWhole", "()Z"⟩, prog_14_method_39_code, tb_R_isWhole, 5, some .boolean, 1)
theorem tk_R_isWhole : tabOk prog_14_method_39_code tb_R_isWhole := by unfold tabOk; decide +kernel
set_option maxRecDepth 20000 in
theorem bb0_R_isWhole : cB m_R_isWhole 0 := ⟨(gwt1 13 rfl rfl), (gwt7 161 rfl rfl), ⟨by decide, by decide⟩, by decide +kernel, by decide⟩
theorem bb_R_isWhole : cB m_R_isWhole 0 := bb0_R_isWhole
set_option maxRecDepth 20000 in
theorem vv_R_isWhole : cV m_R_isWhole := ⟨(gwt7 160 rfl rfl), (gw_p 63 rfl rfl)⟩
def tb_R_readHeath : List (Nat × Instr × Nat) := [(0, .aload_n 0, 1), (1, .aload_n 0, 1), (2, .getfield 9, 3), (5, .iconst 0, 1), (6, .aload_n 0, 1), (7, .getfield 115, 3), (10, .invokevirtual 213, 3), (13, .aload_n 0, 1), (14, .iconst 0, 1), (15, .putfield 250, 3), (18, .aload_n 0, 1), (19, .iconst 0, 1), (20, .putfield 266, 3), (23, .aload_n 0, 1), (24, .iconst 0, 1), (25, .putfield 269, 3), (28, .aload_n 0, 1), (29, .iconst 0, 1), (30, .putfield 272, 3), (33, .aload_n 0, 1), (34, .iconst 0, 1), (35, .putfield 263, 3), (38, .iconst 0, 1), (39, .istore_n 1, 1), (40, .iload_n 1, 1), (41, .iconst 4, 1), (42, .if_icmp .ge 21, 3), (45, .aload_n 0, 1), (46, .getfield 40, 3), (49, .iload_n 1, 1), (50, .bipush 115, 2), (52, .iload_n 1, 1), (53, .invokestatic 227, 3), (56, .iastore, 1), (57, .iinc 1 1, 3), (60, .goto (-20), 3), (63, .iconst 1, 1), (64, .istore_n 1, 1), (65, .iload_n 1, 1), (66, .ifCond .eq 55, 3), (69, .aload_n 0, 1), (70, .getfield 134, 3), (73, .iconst (-1), 1), (74, .if_icmp .ne 47, 3), (77, .aload_n 0, 1), (78, .invokevirtual 294, 3), (81, .aload_n 0, 1), (82, .getfield 134, 3), (85, .iconst (-1), 1), (86, .if_icmp .ne 16, 3), (89, .aload_n 0, 1), (90, .invokevirtual 144, 3), (93, .bipush 59, 2), (95, .if_icmp .ne 7, 3), (98, .iconst 1, 1), (99, .goto 4, 3), (102, .iconst 0, 1), (103, .istore_n 1, 1), (104, .iload_n 1, 1), (105, .ifCond .eq (-40), 3), (108, .aload_n 0, 1), (109, .dup, 1), (110, .getfield 125, 3), (113, .iconst 1, 1), (114, .iadd, 1), (115, .putfield 125, 3), (118, .goto (-53), 3), (121, .aload_n 0, 1), (122, .getfield 134, 3), (125, .iconst (-1), 1), (126, .if_icmp .ne 23, 3), (129, .aload_n 0, 1), (130, .invokevirtual 144, 3), (133, .iconst (-1), 1), (134, .if_icmp .ne 10, 3), (137, .aload_n 0, 1), (138, .invokevirtual 297, 3), (141, .ifCond .ne 8, 3), (144, .aload_n 0, 1), (145, .invokevirtual 140, 3), (148, .pop, 1), (149, .return_, 1)]
def m_R_readHeath : AM := (12, ⟨"HeathForksModel", "readHeath", "()V"⟩, prog_14_method_40_code, tb_R_readHeath, 2, none, 9)
theorem tk_R_readHeath : tabOk prog_14_method_40_code tb_R_readHeath := by unfold tabOk; decide +kernel
set_option maxRecDepth 20000 in
theorem bb0_R_readHeath : cB m_R_readHeath 0 := ⟨(gwt1 13 rfl rfl), (gwt7 75 rfl rfl), ⟨by decide, by decide⟩, by decide +kernel, by decide⟩
theorem bb_R_readHeath : cB m_R_readHeath 0 := bb0_R_readHeath
set_option maxRecDepth 20000 in
theorem vv_R_readHeath : cV m_R_readHeath := ⟨(gwt7 74 rfl rfl), (gw_p 52 rfl rfl)⟩
def tb_R_isAmong : List (Nat × Instr × Nat) := [(0, .iconst 0, 1), (1, .istore_n 2, 1), (2, .iload_n 2, 1), (3, .aload_n 0, 1), (4, .invokevirtual 105, 3), (7, .if_icmp .ge 20, 3), (10, .aload_n 0, 1), (11, .iload_n 2, 1), (12, .invokevirtual 111, 3), (15, .iload_n 1, 1), (16, .if_icmp .ne 5, 3), (19, .iconst 1, 1), (20, .ireturn, 1), (21, .iinc 2 1, 3), (24, .goto (-22), 3), (27, .iconst 0, 1), (28, .ireturn, 1)]
def m_R_isAmong : AM := (12, ⟨"HeathForksModel", "isAmong", "(Ljava/lang/String;I)Z"⟩, prog_14_method_5_code, tb_R_isAmong, 3, some .boolean, 5)
theorem tk_R_isAmong : tabOk prog_14_method_5_code tb_R_isAmong := by unfold tabOk; decide +kernel
set_option maxRecDepth 20000 in
theorem bb0_R_isAmong : cB m_R_isAmong 2 := ⟨(gwt1 13 rfl rfl), (gwt7 179 rfl rfl), ⟨by decide, by decide⟩, by decide +kernel, by decide⟩
theorem bb_R_isAmong : cB m_R_isAmong 2 := bb0_R_isAmong
set_option maxRecDepth 20000 in
theorem vv_R_isAmong : Cond.static (my m_R_isAmong) ∈ gw := (gwt7 178 rfl rfl)
def tb_R_takes : List (Nat × Instr × Nat) := [(0, .aload_n 0, 1), (1, .getfield 134, 3), (4, .iconst (-1), 1), (5, .if_icmp .ne 11, 3), (8, .aload_n 0, 1), (9, .invokevirtual 144, 3), (12, .iload_n 1, 1), (13, .if_icmp .eq 8, 3), (16, .aload_n 0, 1), (17, .invokevirtual 140, 3), (20, .ireturn, 1), (21, .aload_n 0, 1), (22, .dup, 1), (23, .getfield 125, 3), (26, .iconst 1, 1), (27, .iadd, 1), (28, .putfield 125, 3), (31, .iconst 1, 1), (32, .ireturn, 1)]
def m_R_takes : AM := (12, ⟨"HeathForksModel", "takes", "(I)Z"⟩, prog_14_method_13_code, tb_R_takes, 2, some .boolean, 1)
theorem tk_R_takes : tabOk prog_14_method_13_code tb_R_takes := by unfold tabOk; decide +kernel
set_option maxRecDepth 20000 in
theorem bb0_R_takes : cB m_R_takes 1 := ⟨(gwt1 13 rfl rfl), (gwt7 183 rfl rfl), ⟨by decide, by decide⟩, by decide +kernel, by decide⟩
theorem bb_R_takes : cB m_R_takes 1 := bb0_R_takes
set_option maxRecDepth 20000 in
theorem vv_R_takes : cV m_R_takes := ⟨(gwt7 182 rfl rfl), (gw_p 67 rfl rfl)⟩
def tb_R_goesIn : List (Nat × Instr × Nat) := [(0, .aload_n 0, 1), (1, .getfield 137, 3), (4, .bipush 6, 2), (6, .if_icmp .ne 8, 3), (9, .aload_n 0, 1), (10, .invokevirtual 140, 3), (13, .ireturn, 1), (14, .aload_n 0, 1), (15, .dup, 1), (16, .getfield 137, 3), (19, .iconst 1, 1), (20, .iadd, 1), (21, .putfield 137, 3), (24, .aload_n 0, 1), (25, .dup, 1), (26, .getfield 125, 3), (29, .iconst 1, 1), (30, .iadd, 1), (31, .putfield 125, 3), (34, .iconst 1, 1), (35, .ireturn, 1)]
def m_R_goesIn : AM := (12, ⟨"HeathForksModel", "goesIn", "()Z"⟩, prog_14_method_12_code, tb_R_goesIn, 1, some .boolean, 1)
theorem tk_R_goesIn : tabOk prog_14_method_12_code tb_R_goesIn := by unfold tabOk; decide +kernel
set_option maxRecDepth 20000 in
theorem bb0_R_goesIn : cB m_R_goesIn 0 := ⟨(gwt1 13 rfl rfl), (gwt7 211 rfl rfl), ⟨by decide, by decide⟩, by decide +kernel, by decide⟩
theorem bb_R_goesIn : cB m_R_goesIn 0 := bb0_R_goesIn
set_option maxRecDepth 20000 in
theorem vv_R_goesIn : cV m_R_goesIn := ⟨(gwt7 210 rfl rfl), (gw_p 74 rfl rfl)⟩
def tb_R_atom : List (Nat × Instr × Nat) := [(0, .aload_n 0, 1), (1, .invokevirtual 144, 3), (4, .istore_n 1, 1), (5, .ldc 32, 2), (7, .iload_n 1, 1), (8, .invokestatic 160, 3), (11, .ifCond .eq 20, 3), (14, .aload_n 0, 1), (15, .dup, 1), (16, .getfield 125, 3), (19, .iconst 1, 1), (20, .iadd, 1), (21, .putfield 125, 3), (24, .aload_n 0, 1), (25, .getfield 20, 3), (28, .iload_n 1, 1), (29, .iaload, 1), (30, .ireturn, 1), (31, .iload_n 1, 1), (32, .bipush 91, 2), (34, .if_icmp .ne 40, 3), (37, .aload_n 0, 1), (38, .invokevirtual 164, 3), (41, .ifCond .ne 5, 3), (44, .iconst 0, 1), (45, .ireturn, 1), (46, .aload_n 0, 1), (47, .invokevirtual 167, 3), (50, .istore_n 2, 1), (51, .aload_n 0, 1), (52, .bipush 93, 2), (54, .invokevirtual 170, 3), (57, .ifCond .ne 5, 3), (60, .iconst 0, 1), (61, .ireturn, 1), (62, .aload_n 0, 1), (63, .dup, 1), (64, .getfield 137, 3), (67, .iconst 1, 1), (68, .isub, 1), (69, .putfield 137, 3), (72, .iload_n 2, 1), (73, .ireturn, 1), (74, .aload_n 0, 1), (75, .invokevirtual 174, 3), (78, .ifCond .ne 8, 3), (81, .aload_n 0, 1), (82, .invokevirtual 140, 3), (85, .pop, 1), (86, .iconst 0, 1), (87, .istore_n 2, 1), (88, .iconst 0, 1), (89, .istore_n 3, 1), (90, .aload_n 0, 1), (91, .invokevirtual 174, 3), (94, .ifCond .eq 62, 3), (97, .aload_n 0, 1), (98, .getfield 134, 3), (101, .iconst (-1), 1), (102, .if_icmp .ne 54, 3), (105, .iload_n 3, 1), (106, .iconst 4, 1), (107, .if_icmp .ne 10, 3), (110, .aload_n 0, 1), (111, .invokevirtual 140, 3), (114, .pop, 1), (115, .iconst 0, 1), (116, .ireturn, 1), (117, .bipush 10, 2), (119, .iload_n 2, 1), (120, .imul, 1), (121, .aload_n 0, 1), (122, .getfield 23, 3), (125, .aload_n 0, 1), (126, .getfield 131, 3), (129, .aload_n 0, 1), (130, .getfield 125, 3), (133, .iadd, 1), (134, .baload, 1), (135, .iadd, 1), (136, .bipush 48, 2), (138, .isub, 1), (139, .istore_n 2, 1), (140, .aload_n 0, 1), (141, .dup, 1), (142, .getfield 125, 3), (145, .iconst 1, 1), (146, .iadd, 1), (147, .putfield 125, 3), (150, .iinc 3 1, 3), (153, .goto (-63), 3), (156, .iload_n 2, 1), (157, .ireturn, 1)]
def m_R_atom (d : Nat) : AM := (12, ⟨"HeathForksModel", "atom", "()I"⟩, prog_14_method_16_code, tb_R_atom, 4, some .int, 6 + d)
theorem tk_R_atom : tabOk prog_14_method_16_code tb_R_atom := by unfold tabOk; decide +kernel
set_option maxRecDepth 20000 in
theorem bb0_R_atom : cB (m_R_atom 0) 0 := ⟨(gwt1 13 rfl rfl), (gwt7 207 rfl rfl), ⟨by decide, by decide⟩, by decide +kernel, by decide⟩
theorem bb_R_atom (d : Nat) : cB (m_R_atom d) 0 := bb0_R_atom
set_option maxRecDepth 20000 in
theorem vv_R_atom (d : Nat) : cV (m_R_atom d) := ⟨(gwt7 206 rfl rfl), (gw_p 73 rfl rfl)⟩
def tb_R_within : List (Nat × Instr × Nat) := [(0, .ldc2_w 147, 3), (3, .ldc2_w 149, 3), (6, .lload_n 0, 1), (7, .invokestatic 151, 3), (10, .invokestatic 157, 3), (13, .l2i, 1), (14, .ireturn, 1)]
def m_R_within : AM := (12, ⟨"HeathForksModel", "within", "(J)I"⟩, prog_14_method_15_code, tb_R_within, 2, some .int, 2)
theorem tk_R_within : tabOk prog_14_method_15_code tb_R_within := by unfold tabOk; decide +kernel
set_option maxRecDepth 20000 in
theorem bb0_R_within : cB m_R_within 1 := ⟨(gwt1 13 rfl rfl), (gwt7 214 rfl rfl), ⟨by decide, by decide⟩, by decide +kernel, by decide⟩
theorem bb_R_within : cB m_R_within 1 := bb0_R_within
set_option maxRecDepth 20000 in
theorem vv_R_within : Cond.static (my m_R_within) ∈ gw := (gwt7 213 rfl rfl)
def tb_R_term : List (Nat × Instr × Nat) := [(0, .aload_n 0, 1), (1, .invokevirtual 177, 3), (4, .istore_n 1, 1), (5, .aload_n 0, 1), (6, .getfield 134, 3), (9, .iconst (-1), 1), (10, .if_icmp .ne 84, 3), (13, .aload_n 0, 1), (14, .invokevirtual 144, 3), (17, .bipush 42, 2), (19, .if_icmp .eq 12, 3), (22, .aload_n 0, 1), (23, .invokevirtual 144, 3), (26, .bipush 47, 2), (28, .if_icmp .ne 66, 3), (31, .aload_n 0, 1), (32, .invokevirtual 144, 3), (35, .bipush 42, 2), (37, .if_icmp .ne 7, 3), (40, .iconst 1, 1), (41, .goto 4, 3), (44, .iconst 0, 1), (45, .istore_n 2, 1), (46, .aload_n 0, 1), (47, .dup, 1), (48, .getfield 125, 3), (51, .iconst 1, 1), (52, .iadd, 1), (53, .putfield 125, 3), (56, .aload_n 0, 1), (57, .invokevirtual 177, 3), (60, .i2l, 1), (61, .lstore_n 3, 1), (62, .iload_n 2, 1), (63, .ifCond .eq 10, 3), (66, .iload_n 1, 1), (67, .i2l, 1), (68, .lload_n 3, 1), (69, .lmul, 1), (70, .goto 17, 3), (73, .lload_n 3, 1), (74, .lconst 0, 1), (75, .lcmp, 1), (76, .ifCond .ne 7, 3), (79, .lconst 0, 1), (80, .goto 7, 3), (83, .iload_n 1, 1), (84, .i2l, 1), (85, .lload_n 3, 1), (86, .ldiv, 1), (87, .invokestatic 180, 3), (90, .istore_n 1, 1), (91, .goto (-86), 3), (94, .iload_n 1, 1), (95, .ireturn, 1)]
def m_R_term (d : Nat) : AM := (12, ⟨"HeathForksModel", "term", "()I"⟩, prog_14_method_17_code, tb_R_term, 5, some .int, 6 + d)
theorem tk_R_term : tabOk prog_14_method_17_code tb_R_term := by unfold tabOk; decide +kernel
set_option maxRecDepth 20000 in
theorem bb0_R_term : cB (m_R_term 0) 0 := ⟨(gwt1 13 rfl rfl), (gwt7 203 rfl rfl), ⟨by decide, by decide⟩, by decide +kernel, by decide⟩
theorem bb_R_term (d : Nat) : cB (m_R_term d) 0 := bb0_R_term
set_option maxRecDepth 20000 in
theorem vv_R_term (d : Nat) : cV (m_R_term d) := ⟨(gwt7 202 rfl rfl), (gw_p 72 rfl rfl)⟩
def tb_R_sum : List (Nat × Instr × Nat) := [(0, .aload_n 0, 1), (1, .invokevirtual 184, 3), (4, .istore_n 1, 1), (5, .aload_n 0, 1), (6, .getfield 134, 3), (9, .iconst (-1), 1), (10, .if_icmp .ne 74, 3), (13, .aload_n 0, 1), (14, .invokevirtual 144, 3), (17, .bipush 43, 2), (19, .if_icmp .eq 12, 3), (22, .aload_n 0, 1), (23, .invokevirtual 144, 3), (26, .bipush 45, 2), (28, .if_icmp .ne 56, 3), (31, .aload_n 0, 1), (32, .invokevirtual 144, 3), (35, .bipush 43, 2), (37, .if_icmp .ne 7, 3), (40, .iconst 1, 1), (41, .goto 4, 3), (44, .iconst 0, 1), (45, .istore_n 2, 1), (46, .aload_n 0, 1), (47, .dup, 1), (48, .getfield 125, 3), (51, .iconst 1, 1), (52, .iadd, 1), (53, .putfield 125, 3), (56, .aload_n 0, 1), (57, .invokevirtual 184, 3), (60, .i2l, 1), (61, .lstore_n 3, 1), (62, .iload_n 2, 1), (63, .ifCond .eq 10, 3), (66, .iload_n 1, 1), (67, .i2l, 1), (68, .lload_n 3, 1), (69, .ladd, 1), (70, .goto 7, 3), (73, .iload_n 1, 1), (74, .i2l, 1), (75, .lload_n 3, 1), (76, .lsub, 1), (77, .invokestatic 180, 3), (80, .istore_n 1, 1), (81, .goto (-76), 3), (84, .iload_n 1, 1), (85, .ireturn, 1)]
def m_R_sum (d : Nat) : AM := (12, ⟨"HeathForksModel", "sum", "()I"⟩, prog_14_method_18_code, tb_R_sum, 5, some .int, 6 + d)
theorem tk_R_sum : tabOk prog_14_method_18_code tb_R_sum := by unfold tabOk; decide +kernel
set_option maxRecDepth 20000 in
theorem bb0_R_sum : cB (m_R_sum 0) 0 := ⟨(gwt1 13 rfl rfl), (gwt7 199 rfl rfl), ⟨by decide, by decide⟩, by decide +kernel, by decide⟩
theorem bb_R_sum (d : Nat) : cB (m_R_sum d) 0 := bb0_R_sum
set_option maxRecDepth 20000 in
theorem vv_R_sum (d : Nat) : cV (m_R_sum d) := ⟨(gwt7 198 rfl rfl), (gw_p 71 rfl rfl)⟩
def tb_R_isSign : List (Nat × Instr × Nat) := [(0, .iload_n 0, 1), (1, .bipush 61, 2), (3, .if_icmp .eq 15, 3), (6, .iload_n 0, 1), (7, .bipush 60, 2), (9, .if_icmp .eq 9, 3), (12, .iload_n 0, 1), (13, .bipush 62, 2), (15, .if_icmp .ne 7, 3), (18, .iconst 1, 1), (19, .goto 4, 3), (22, .iconst 0, 1), (23, .ireturn, 1)]
def m_R_isSign : AM := (12, ⟨"HeathForksModel", "isSign", "(I)Z"⟩, prog_14_method_19_code, tb_R_isSign, 1, some .boolean, 0)
theorem tk_R_isSign : tabOk prog_14_method_19_code tb_R_isSign := by unfold tabOk; decide +kernel
set_option maxRecDepth 20000 in
theorem bb0_R_isSign : cB m_R_isSign 1 := ⟨(gwt1 13 rfl rfl), (gwt7 225 rfl rfl), ⟨by decide, by decide⟩, by decide +kernel, by decide⟩
theorem bb_R_isSign : cB m_R_isSign 1 := bb0_R_isSign
set_option maxRecDepth 20000 in
theorem vv_R_isSign : Cond.static (my m_R_isSign) ∈ gw := (gwt7 224 rfl rfl)
def tb_R_compares : List (Nat × Instr × Nat) := [(0, .iload_n 1, 1), (1, .ifCond .eq 7, 3), (4, .iload_n 2, 1), (5, .goto 7, 3), (8, .aload_n 0, 1), (9, .invokevirtual 167, 3), (12, .istore_n 3, 1), (13, .aload_n 0, 1), (14, .getfield 134, 3), (17, .iconst (-1), 1), (18, .if_icmp .eq 5, 3), (21, .iconst 0, 1), (22, .ireturn, 1), (23, .aload_n 0, 1), (24, .invokevirtual 144, 3), (27, .istore 4, 2), (29, .iload 4, 2), (31, .invokestatic 187, 3), (34, .ifCond .ne 8, 3), (37, .aload_n 0, 1), (38, .invokevirtual 140, 3), (41, .ireturn, 1), (42, .aload_n 0, 1), (43, .dup, 1), (44, .getfield 125, 3), (47, .iconst 1, 1), (48, .iadd, 1), (49, .putfield 125, 3), (52, .aload_n 0, 1), (53, .invokevirtual 167, 3), (56, .istore 5, 2), (58, .iload 4, 2), (60, .bipush 61, 2), (62, .if_icmp .ne 17, 3), (65, .iload_n 3, 1), (66, .iload 5, 2), (68, .if_icmp .ne 7, 3), (71, .iconst 1, 1), (72, .goto 39, 3), (75, .iconst 0, 1), (76, .goto 35, 3), (79, .iload 4, 2), (81, .bipush 60, 2), (83, .if_icmp .ne 17, 3), (86, .iload_n 3, 1), (87, .iload 5, 2), (89, .if_icmp .ge 7, 3), (92, .iconst 1, 1), (93, .goto 18, 3), (96, .iconst 0, 1), (97, .goto 14, 3), (100, .iload_n 3, 1), (101, .iload 5, 2), (103, .if_icmp .le 7, 3), (106, .iconst 1, 1), (107, .goto 4, 3), (110, .iconst 0, 1), (111, .ireturn, 1)]
def m_R_compares : AM := (12, ⟨"HeathForksModel", "compares", "(ZI)Z"⟩, prog_14_method_20_code, tb_R_compares, 6, some .boolean, 47)
theorem tk_R_compares : tabOk prog_14_method_20_code tb_R_compares := by unfold tabOk; decide +kernel
set_option maxRecDepth 20000 in
theorem bb0_R_compares : cB m_R_compares 2 := ⟨(gwt1 13 rfl rfl), (gwt7 195 rfl rfl), ⟨by decide, by decide⟩, by decide +kernel, by decide⟩
theorem bb_R_compares : cB m_R_compares 2 := bb0_R_compares
set_option maxRecDepth 20000 in
theorem vv_R_compares : cV m_R_compares := ⟨(gwt7 194 rfl rfl), (gw_p 70 rfl rfl)⟩
def tb_R_unit : List (Nat × Instr × Nat) := [(0, .aload_n 0, 1), (1, .invokevirtual 144, 3), (4, .istore_n 1, 1), (5, .iload_n 1, 1), (6, .bipush 33, 2), (8, .if_icmp .ne 37, 3), (11, .aload_n 0, 1), (12, .invokevirtual 164, 3), (15, .ifCond .ne 5, 3), (18, .iconst 0, 1), (19, .ireturn, 1), (20, .aload_n 0, 1), (21, .invokevirtual 190, 3), (24, .istore_n 2, 1), (25, .aload_n 0, 1), (26, .dup, 1), (27, .getfield 137, 3), (30, .iconst 1, 1), (31, .isub, 1), (32, .putfield 137, 3), (35, .iload_n 2, 1), (36, .ifCond .ne 7, 3), (39, .iconst 1, 1), (40, .goto 4, 3), (43, .iconst 0, 1), (44, .ireturn, 1), (45, .iload_n 1, 1), (46, .bipush 40, 2), (48, .if_icmp .ne 42, 3), (51, .aload_n 0, 1), (52, .invokevirtual 164, 3), (55, .ifCond .ne 5, 3), (58, .iconst 0, 1), (59, .ireturn, 1), (60, .aload_n 0, 1), (61, .iconst 0, 1), (62, .iconst 0, 1), (63, .invokevirtual 193, 3), (66, .istore_n 2, 1), (67, .aload_n 0, 1), (68, .bipush 41, 2), (70, .invokevirtual 170, 3), (73, .ifCond .ne 5, 3), (76, .iconst 0, 1), (77, .ireturn, 1), (78, .aload_n 0, 1), (79, .dup, 1), (80, .getfield 137, 3), (83, .iconst 1, 1), (84, .isub, 1), (85, .putfield 137, 3), (88, .iload_n 2, 1), (89, .ireturn, 1), (90, .aload_n 0, 1), (91, .iconst 0, 1), (92, .iconst 0, 1), (93, .invokevirtual 197, 3), (96, .ireturn, 1)]
def m_R_unit (d : Nat) : AM := (12, ⟨"HeathForksModel", "unit", "()Z"⟩, prog_14_method_21_code, tb_R_unit, 3, some .boolean, 48 + d)
theorem tk_R_unit : tabOk prog_14_method_21_code tb_R_unit := by unfold tabOk; decide +kernel
set_option maxRecDepth 20000 in
theorem bb0_R_unit : cB (m_R_unit 0) 0 := ⟨(gwt1 13 rfl rfl), (gwt7 229 rfl rfl), ⟨by decide, by decide⟩, by decide +kernel, by decide⟩
theorem bb_R_unit (d : Nat) : cB (m_R_unit d) 0 := bb0_R_unit
set_option maxRecDepth 20000 in
theorem vv_R_unit (d : Nat) : cV (m_R_unit d) := ⟨(gwt7 228 rfl rfl), (gw_p 75 rfl rfl)⟩
def tb_R_part : List (Nat × Instr × Nat) := [(0, .iload_n 1, 1), (1, .ifCond .eq 12, 3), (4, .aload_n 0, 1), (5, .iconst 1, 1), (6, .iload_n 2, 1), (7, .invokevirtual 197, 3), (10, .goto 7, 3), (13, .aload_n 0, 1), (14, .invokevirtual 190, 3), (17, .istore_n 3, 1), (18, .aload_n 0, 1), (19, .getfield 134, 3), (22, .iconst (-1), 1), (23, .if_icmp .ne 46, 3), (26, .aload_n 0, 1), (27, .invokevirtual 144, 3), (30, .bipush 38, 2), (32, .if_icmp .ne 37, 3), (35, .aload_n 0, 1), (36, .dup, 1), (37, .getfield 125, 3), (40, .iconst 1, 1), (41, .iadd, 1), (42, .putfield 125, 3), (45, .aload_n 0, 1), (46, .invokevirtual 190, 3), (49, .istore 4, 2), (51, .iload_n 3, 1), (52, .ifCond .eq 12, 3), (55, .iload 4, 2), (57, .ifCond .eq 7, 3), (60, .iconst 1, 1), (61, .goto 4, 3), (64, .iconst 0, 1), (65, .istore_n 3, 1), (66, .goto (-48), 3), (69, .iload_n 3, 1), (70, .ireturn, 1)]
def m_R_part (d : Nat) : AM := (12, ⟨"HeathForksModel", "part", "(ZI)Z"⟩, prog_14_method_22_code, tb_R_part, 5, some .boolean, 48 + d)
theorem tk_R_part : tabOk prog_14_method_22_code tb_R_part := by unfold tabOk; decide +kernel
set_option maxRecDepth 20000 in
theorem bb0_R_part : cB (m_R_part 0) 2 := ⟨(gwt1 13 rfl rfl), (gwt7 191 rfl rfl), ⟨by decide, by decide⟩, by decide +kernel, by decide⟩
theorem bb_R_part (d : Nat) : cB (m_R_part d) 2 := bb0_R_part
set_option maxRecDepth 20000 in
theorem vv_R_part (d : Nat) : cV (m_R_part d) := ⟨(gwt7 190 rfl rfl), (gw_p 69 rfl rfl)⟩
def tb_R_condition : List (Nat × Instr × Nat) := [(0, .aload_n 0, 1), (1, .iload_n 1, 1), (2, .iload_n 2, 1), (3, .invokevirtual 200, 3), (6, .istore_n 3, 1), (7, .aload_n 0, 1), (8, .getfield 134, 3), (11, .iconst (-1), 1), (12, .if_icmp .ne 48, 3), (15, .aload_n 0, 1), (16, .invokevirtual 144, 3), (19, .bipush 124, 2), (21, .if_icmp .ne 39, 3), (24, .aload_n 0, 1), (25, .dup, 1), (26, .getfield 125, 3), (29, .iconst 1, 1), (30, .iadd, 1), (31, .putfield 125, 3), (34, .aload_n 0, 1), (35, .iconst 0, 1), (36, .iconst 0, 1), (37, .invokevirtual 200, 3), (40, .istore 4, 2), (42, .iload_n 3, 1), (43, .ifCond .ne 8, 3), (46, .iload 4, 2), (48, .ifCond .eq 7, 3), (51, .iconst 1, 1), (52, .goto 4, 3), (55, .iconst 0, 1), (56, .istore_n 3, 1), (57, .goto (-50), 3), (60, .iload_n 3, 1), (61, .ireturn, 1)]
def m_R_condition (d : Nat) : AM := (12, ⟨"HeathForksModel", "condition", "(ZI)Z"⟩, prog_14_method_23_code, tb_R_condition, 5, some .boolean, 48 + d)
theorem tk_R_condition : tabOk prog_14_method_23_code tb_R_condition := by unfold tabOk; decide +kernel
set_option maxRecDepth 20000 in
theorem bb0_R_condition : cB (m_R_condition 0) 2 := ⟨(gwt1 13 rfl rfl), (gwt7 187 rfl rfl), ⟨by decide, by decide⟩, by decide +kernel, by decide⟩
theorem bb_R_condition (d : Nat) : cB (m_R_condition d) 2 := bb0_R_condition
set_option maxRecDepth 20000 in
theorem vv_R_condition (d : Nat) : cV (m_R_condition d) := ⟨(gwt7 186 rfl rfl), (gw_p 68 rfl rfl)⟩
def tb_R_clause : List (Nat × Instr × Nat) := [(0, .aload_n 0, 1), (1, .invokevirtual 144, 3), (4, .istore_n 1, 1), (5, .ldc 26, 2), (7, .iload_n 1, 1), (8, .invokestatic 160, 3), (11, .ifCond .ne 9, 3), (14, .aload_n 0, 1), (15, .invokevirtual 140, 3), (18, .pop, 1), (19, .return_, 1), (20, .aload_n 0, 1), (21, .dup, 1), (22, .getfield 125, 3), (25, .iconst 1, 1), (26, .iadd, 1), (27, .putfield 125, 3), (30, .aload_n 0, 1), (31, .bipush 58, 2), (33, .invokevirtual 170, 3), (36, .ifCond .ne 4, 3), (39, .return_, 1), (40, .iconst 1, 1), (41, .istore_n 2, 1), (42, .iconst 0, 1), (43, .istore_n 3, 1), (44, .aload_n 0, 1), (45, .invokevirtual 144, 3), (48, .istore 4, 2), (50, .iload 4, 2), (52, .bipush 33, 2), (54, .if_icmp .eq 10, 3), (57, .iload 4, 2), (59, .bipush 40, 2), (61, .if_icmp .ne 28, 3), (64, .aload_n 0, 1), (65, .iconst 0, 1), (66, .iconst 0, 1), (67, .invokevirtual 193, 3), (70, .istore_n 2, 1), (71, .aload_n 0, 1), (72, .bipush 63, 2), (74, .invokevirtual 170, 3), (77, .ifCond .ne 4, 3), (80, .return_, 1), (81, .aload_n 0, 1), (82, .invokevirtual 167, 3), (85, .istore_n 3, 1), (86, .goto 48, 3), (89, .aload_n 0, 1), (90, .invokevirtual 167, 3), (93, .istore_n 3, 1), (94, .aload_n 0, 1), (95, .getfield 134, 3), (98, .iconst (-1), 1), (99, .if_icmp .ne 35, 3), (102, .aload_n 0, 1), (103, .invokevirtual 144, 3), (106, .invokestatic 187, 3), (109, .ifCond .eq 25, 3), (112, .aload_n 0, 1), (113, .iconst 1, 1), (114, .iload_n 3, 1), (115, .invokevirtual 193, 3), (118, .istore_n 2, 1), (119, .aload_n 0, 1), (120, .bipush 63, 2), (122, .invokevirtual 170, 3), (125, .ifCond .ne 4, 3), (128, .return_, 1), (129, .aload_n 0, 1), (130, .invokevirtual 167, 3), (133, .istore_n 3, 1), (134, .aload_n 0, 1), (135, .getfield 134, 3), (138, .iconst (-1), 1), (139, .if_icmp .ne 22, 3), (142, .aload_n 0, 1), (143, .getfield 203, 3), (146, .ifCond .ne 15, 3), (149, .iload_n 1, 1), (150, .aload_n 0, 1), (151, .getfield 207, 3), (154, .if_icmp .ne 7, 3), (157, .iload_n 2, 1), (158, .ifCond .ne 4, 3), (161, .return_, 1), (162, .aload_n 0, 1), (163, .iconst 1, 1), (164, .putfield 203, 3), (167, .aload_n 0, 1), (168, .iload_n 3, 1), (169, .putfield 210, 3), (172, .return_, 1)]
def m_R_clause : AM := (12, ⟨"HeathForksModel", "clause", "()V"⟩, prog_14_method_24_code, tb_R_clause, 5, none, 89)
theorem tk_R_clause : tabOk prog_14_method_24_code tb_R_clause := by unfold tabOk; decide +kernel
set_option maxRecDepth 20000 in
theorem bb0_R_clause : cB m_R_clause 0 := ⟨(gwt1 13 rfl rfl), (gwt7 176 rfl rfl), ⟨by decide, by decide⟩, by decide +kernel, by decide⟩
theorem bb_R_clause : cB m_R_clause 0 := bb0_R_clause
set_option maxRecDepth 20000 in
theorem vv_R_clause : cV m_R_clause := ⟨(gwt7 175 rfl rfl), (gw_p 66 rfl rfl)⟩
def tb_R_goThrough : List (Nat × Instr × Nat) := [(0, .aload_n 0, 1), (1, .aload_n 1, 1), (2, .iload_n 2, 1), (3, .iload_n 3, 1), (4, .invokevirtual 213, 3), (7, .aload_n 0, 1), (8, .bipush 121, 2), (10, .putfield 207, 3), (13, .aload_n 0, 1), (14, .iconst 0, 1), (15, .putfield 137, 3), (18, .aload_n 0, 1), (19, .iconst 0, 1), (20, .putfield 203, 3), (23, .aload_n 0, 1), (24, .iconst 0, 1), (25, .putfield 210, 3), (28, .aload_n 0, 1), (29, .invokevirtual 217, 3), (32, .aload_n 0, 1), (33, .getfield 134, 3), (36, .iconst (-1), 1), (37, .if_icmp .ne 29, 3), (40, .aload_n 0, 1), (41, .invokevirtual 144, 3), (44, .bipush 59, 2), (46, .if_icmp .ne 20, 3), (49, .aload_n 0, 1), (50, .dup, 1), (51, .getfield 125, 3), (54, .iconst 1, 1), (55, .iadd, 1), (56, .putfield 125, 3), (59, .aload_n 0, 1), (60, .invokevirtual 217, 3), (63, .goto (-31), 3), (66, .aload_n 0, 1), (67, .getfield 134, 3), (70, .iconst (-1), 1), (71, .if_icmp .ne 16, 3), (74, .aload_n 0, 1), (75, .invokevirtual 144, 3), (78, .iconst (-1), 1), (79, .if_icmp .eq 8, 3), (82, .aload_n 0, 1), (83, .invokevirtual 140, 3), (86, .pop, 1), (87, .return_, 1)]
def m_R_goThrough : AM := (12, ⟨"HeathForksModel", "goThrough", "([BII)V"⟩, prog_14_method_26_code, tb_R_goThrough, 4, none, 90)
theorem tk_R_goThrough : tabOk prog_14_method_26_code tb_R_goThrough := by unfold tabOk; decide +kernel
set_option maxRecDepth 20000 in
theorem bb0_R_goThrough : cB m_R_goThrough 3 := ⟨(gwt1 13 rfl rfl), (gwt7 172 rfl rfl), ⟨by decide, by decide⟩, by decide +kernel, by decide⟩
theorem bb_R_goThrough : cB m_R_goThrough 3 := bb0_R_goThrough
set_option maxRecDepth 20000 in
theorem vv_R_goThrough : cV m_R_goThrough := ⟨(gwt7 171 rfl rfl), (gw_p 65 rfl rfl)⟩
def tb_R_readWalks : List (Nat × Instr × Nat) := [(0, .aload_n 0, 1), (1, .aload_n 0, 1), (2, .getfield 9, 3), (5, .iconst 0, 1), (6, .aload_n 0, 1), (7, .getfield 115, 3), (10, .invokevirtual 213, 3), (13, .iconst 0, 1), (14, .istore_n 1, 1), (15, .iconst 0, 1), (16, .istore_n 2, 1), (17, .iconst 1, 1), (18, .istore_n 3, 1), (19, .iload_n 3, 1), (20, .ifCond .eq 154, 3), (23, .aload_n 0, 1), (24, .invokevirtual 144, 3), (27, .istore 4, 2), (29, .aload_n 0, 1), (30, .invokevirtual 174, 3), (33, .ifCond .ne 9, 3), (36, .aload_n 0, 1), (37, .invokevirtual 140, 3), (40, .pop, 1), (41, .return_, 1), (42, .aload_n 0, 1), (43, .dup, 1), (44, .getfield 125, 3), (47, .iconst 1, 1), (48, .iadd, 1), (49, .putfield 125, 3), (52, .iconst 2, 1), (53, .sipush 256, 3), (56, .iload_n 2, 1), (57, .iadd, 1), (58, .imul, 1), (59, .istore 5, 2), (61, .aload_n 0, 1), (62, .aload_n 0, 1), (63, .getfield 67, 3), (66, .iload 5, 2), (68, .iconst 1, 1), (69, .iadd, 1), (70, .iconst 2, 1), (71, .invokevirtual 259, 3), (74, .istore 6, 2), (76, .aload_n 0, 1), (77, .getfield 134, 3), (80, .iconst (-1), 1), (81, .if_icmp .eq 4, 3), (84, .return_, 1), (85, .iconst 0, 1), (86, .istore 7, 2), (88, .iload 7, 2), (90, .iload 6, 2), (92, .if_icmp .ge 26, 3), (95, .aload_n 0, 1), (96, .getfield 67, 3), (99, .iload 5, 2), (101, .iconst 2, 1), (102, .iload 7, 2), (104, .imul, 1), (105, .iadd, 1), (106, .iload 4, 2), (108, .bipush 48, 2), (110, .isub, 1), (111, .iastore, 1), (112, .iinc 7 1, 3), (115, .goto (-27), 3), (118, .iload_n 2, 1), (119, .iload 6, 2), (121, .iadd, 1), (122, .istore_n 2, 1), (123, .iinc 1 1, 3), (126, .aload_n 0, 1), (127, .invokevirtual 144, 3), (130, .bipush 59, 2), (132, .if_icmp .ne 7, 3), (135, .iconst 1, 1), (136, .goto 4, 3), (139, .iconst 0, 1), (140, .istore_n 3, 1), (141, .iload_n 3, 1), (142, .ifCond .eq 15, 3), (145, .iload_n 1, 1), (146, .bipush 8, 2), (148, .if_icmp .ne 9, 3), (151, .aload_n 0, 1), (152, .invokevirtual 140, 3), (155, .pop, 1), (156, .return_, 1), (157, .iload_n 3, 1), (158, .ifCond .eq 13, 3), (161, .aload_n 0, 1), (162, .dup, 1), (163, .getfield 125, 3), (166, .iconst 1, 1), (167, .iadd, 1), (168, .putfield 125, 3), (171, .goto (-152), 3), (174, .aload_n 0, 1), (175, .getfield 70, 3), (178, .iconst 4, 1), (179, .iload_n 2, 1), (180, .iastore, 1), (181, .aload_n 0, 1), (182, .invokevirtual 144, 3), (185, .iconst (-1), 1), (186, .if_icmp .eq 8, 3), (189, .aload_n 0, 1), (190, .invokevirtual 140, 3), (193, .pop, 1), (194, .return_, 1)]
def m_R_readWalks : AM := (12, ⟨"HeathForksModel", "readWalks", "()V"⟩, prog_14_method_41_code, tb_R_readWalks, 8, none, 7)
theorem tk_R_readWalks : tabOk prog_14_method_41_code tb_R_readWalks := by unfold tabOk; decide +kernel
set_option maxRecDepth 20000 in
theorem bb0_R_readWalks : cB m_R_readWalks 0 := ⟨(gwt1 13 rfl rfl), (gwt7 233 rfl rfl), ⟨by decide, by decide⟩, by decide +kernel, by decide⟩
theorem bb_R_readWalks : cB m_R_readWalks 0 := bb0_R_readWalks
set_option maxRecDepth 20000 in
theorem vv_R_readWalks : cV m_R_readWalks := ⟨(gwt7 232 rfl rfl), (gw_p 76 rfl rfl)⟩
def tb_R_fault : List (Nat × Instr × Nat) := [(0, .aload_n 0, 1), (1, .iconst 0, 1), (2, .putfield 102, 3), (5, .iload_n 1, 1), (6, .i2l, 1), (7, .lconst 0, 1), (8, .ldc2_w 300, 3), (11, .invokestatic 223, 3), (14, .ifCond .ne 6, 3), (17, .bipush (-2), 2), (19, .ireturn, 1), (20, .iload_n 1, 1), (21, .ifCond .ne 7, 3), (24, .aload_n 0, 1), (25, .invokevirtual 302, 3), (28, .iload_n 1, 1), (29, .iconst 1, 1), (30, .if_icmp .ne 16, 3), (33, .aload_n 0, 1), (34, .aload_n 0, 1), (35, .getfield 9, 3), (38, .iconst 0, 1), (39, .aload_n 0, 1), (40, .getfield 115, 3), (43, .invokevirtual 305, 3), (46, .iload_n 1, 1), (47, .iconst 2, 1), (48, .if_icmp .ne 7, 3), (51, .aload_n 0, 1), (52, .invokevirtual 308, 3), (55, .aload_n 0, 1), (56, .getfield 134, 3), (59, .ireturn, 1)]
def m_R_fault : AM := (12, ⟨"HeathForksModel", "fault", "(I)I"⟩, prog_14_method_42_code, tb_R_fault, 2, some .int, 91)
theorem tk_R_fault : tabOk prog_14_method_42_code tb_R_fault := by unfold tabOk; decide +kernel
set_option maxRecDepth 20000 in
theorem bb0_R_fault : cB m_R_fault 1 := ⟨(gwt1 13 rfl rfl), (gwt7 67 rfl rfl), ⟨by decide, by decide⟩, by decide +kernel, by decide⟩
theorem bb_R_fault : cB m_R_fault 1 := bb0_R_fault
set_option maxRecDepth 20000 in
theorem vv_R_fault : cV m_R_fault := ⟨(gwt7 65 rfl rfl), (gwt7 66 rfl rfl)⟩
def tb_R_copy : List (Nat × Instr × Nat) := [(0, .iconst 0, 1), (1, .istore_n 2, 1), (2, .iload_n 2, 1), (3, .aload_n 1, 1), (4, .arraylength, 1), (5, .if_icmp .ge 15, 3), (8, .aload_n 1, 1), (9, .iload_n 2, 1), (10, .aload_n 0, 1), (11, .iload_n 2, 1), (12, .iaload, 1), (13, .iastore, 1), (14, .iinc 2 1, 3), (17, .goto (-15), 3), (20, .return_, 1)]
def m_R_copy : AM := (12, ⟨"HeathForksModel", "copy", "([I[I)V"⟩, prog_14_method_43_code, tb_R_copy, 3, none, 0)
theorem tk_R_copy : tabOk prog_14_method_43_code tb_R_copy := by unfold tabOk; decide +kernel
set_option maxRecDepth 20000 in
theorem bb0_R_copy : cB m_R_copy 2 := ⟨(gwt1 13 rfl rfl), (gwt8 1 rfl rfl), ⟨by decide, by decide⟩, by decide +kernel, by decide⟩
theorem bb_R_copy : cB m_R_copy 2 := bb0_R_copy
set_option maxRecDepth 20000 in
theorem vv_R_copy : Cond.static (my m_R_copy) ∈ gw := (gwt8 0 rfl rfl)
def tb_R_told : List (Nat × Instr × Nat) := [(0, .aload_n 0, 1), (1, .getfield 61, 3), (4, .bipush 6, 2), (6, .iload_n 1, 1), (7, .imul, 1), (8, .iload_n 2, 1), (9, .iadd, 1), (10, .iaload, 1), (11, .ireturn, 1)]
def m_R_told : AM := (12, ⟨"HeathForksModel", "told", "(II)I"⟩, prog_14_method_45_code, tb_R_told, 3, some .int, 0)
theorem tk_R_told : tabOk prog_14_method_45_code tb_R_told := by unfold tabOk; decide +kernel
set_option maxRecDepth 20000 in
theorem bb0_R_told : cB m_R_told 2 := ⟨(gwt1 13 rfl rfl), (gwt8 5 rfl rfl), ⟨by decide, by decide⟩, by decide +kernel, by decide⟩
theorem bb_R_told : cB m_R_told 2 := bb0_R_told
set_option maxRecDepth 20000 in
theorem vv_R_told : cV m_R_told := ⟨(gwt8 4 rfl rfl), (gw_p 77 rfl rfl)⟩
def tb_R_text : List (Nat × Instr × Nat) := [(0, .aload_n 0, 1), (1, .iconst 0, 1), (2, .putfield 102, 3), (5, .iload_n 1, 1), (6, .i2l, 1), (7, .lconst 0, 1), (8, .ldc2_w 300, 3), (11, .invokestatic 223, 3), (14, .ifCond .eq 38, 3), (17, .iload_n 1, 1), (18, .iconst 1, 1), (19, .if_icmp .ne 11, 3), (22, .aload_n 0, 1), (23, .getfield 311, 3), (26, .iconst 4, 1), (27, .if_icmp .eq 25, 3), (30, .iload_n 1, 1), (31, .iconst 2, 1), (32, .if_icmp .ne 11, 3), (35, .aload_n 0, 1), (36, .getfield 314, 3), (39, .iconst 4, 1), (40, .if_icmp .eq 12, 3), (43, .aload_n 0, 1), (44, .iload_n 1, 1), (45, .invokevirtual 317, 3), (48, .iconst (-1), 1), (49, .if_icmp .eq 5, 3), (52, .iconst (-1), 1), (53, .ireturn, 1), (54, .aload_n 0, 1), (55, .getfield 115, 3), (58, .istore_n 2, 1), (59, .aload_n 0, 1), (60, .iconst 0, 1), (61, .putfield 115, 3), (64, .iload_n 1, 1), (65, .iconst 1, 1), (66, .if_icmp .ne 64, 3), (69, .iconst 0, 1), (70, .istore_n 3, 1), (71, .iload_n 3, 1), (72, .iload_n 2, 1), (73, .if_icmp .ge 30, 3), (76, .aload_n 0, 1), (77, .getfield 13, 3), (80, .sipush 240, 3), (83, .aload_n 0, 1), (84, .getfield 311, 3), (87, .imul, 1), (88, .iload_n 3, 1), (89, .iadd, 1), (90, .aload_n 0, 1), (91, .getfield 9, 3), (94, .iload_n 3, 1), (95, .baload, 1), (96, .bastore, 1), (97, .iinc 3 1, 3), (100, .goto (-29), 3), (103, .aload_n 0, 1), (104, .getfield 16, 3), (107, .aload_n 0, 1), (108, .getfield 311, 3), (111, .iload_n 2, 1), (112, .iastore, 1), (113, .aload_n 0, 1), (114, .dup, 1), (115, .getfield 311, 3), (118, .iconst 1, 1), (119, .iadd, 1), (120, .putfield 311, 3), (123, .aload_n 0, 1), (124, .getfield 311, 3), (127, .iconst 1, 1), (128, .isub, 1), (129, .ireturn, 1), (130, .iload_n 1, 1), (131, .iconst 2, 1), (132, .if_icmp .ne 75, 3), (135, .iconst 0, 1), (136, .istore_n 3, 1), (137, .iload_n 3, 1), (138, .sipush 128, 3), (141, .if_icmp .ge 34, 3), (144, .aload_n 0, 1), (145, .getfield 67, 3), (148, .sipush 128, 3), (151, .aload_n 0, 1), (152, .getfield 314, 3), (155, .imul, 1), (156, .iload_n 3, 1), (157, .iadd, 1), (158, .aload_n 0, 1), (159, .getfield 67, 3), (162, .sipush 512, 3), (165, .iload_n 3, 1), (166, .iadd, 1), (167, .iaload, 1), (168, .iastore, 1), (169, .iinc 3 1, 3), (172, .goto (-35), 3), (175, .aload_n 0, 1), (176, .getfield 70, 3), (179, .aload_n 0, 1), (180, .getfield 314, 3), (183, .aload_n 0, 1), (184, .getfield 70, 3), (187, .iconst 4, 1), (188, .iaload, 1), (189, .iastore, 1), (190, .aload_n 0, 1), (191, .dup, 1), (192, .getfield 314, 3), (195, .iconst 1, 1), (196, .iadd, 1), (197, .putfield 314, 3), (200, .aload_n 0, 1), (201, .getfield 314, 3), (204, .iconst 1, 1), (205, .isub, 1), (206, .ireturn, 1), (207, .aload_n 0, 1), (208, .aload_n 0, 1), (209, .getfield 250, 3), (212, .putfield 319, 3), (215, .aload_n 0, 1), (216, .aload_n 0, 1), (217, .getfield 266, 3), (220, .putfield 322, 3), (223, .aload_n 0, 1), (224, .aload_n 0, 1), (225, .getfield 269, 3), (228, .putfield 325, 3), (231, .aload_n 0, 1), (232, .aload_n 0, 1), (233, .getfield 272, 3), (236, .putfield 328, 3), (239, .aload_n 0, 1), (240, .getfield 40, 3), (243, .aload_n 0, 1), (244, .getfield 37, 3), (247, .invokestatic 331, 3), (250, .aload_n 0, 1), (251, .getfield 46, 3), (254, .aload_n 0, 1), (255, .getfield 43, 3), (258, .invokestatic 331, 3), (261, .aload_n 0, 1), (262, .getfield 52, 3), (265, .aload_n 0, 1), (266, .getfield 49, 3), (269, .invokestatic 331, 3), (272, .aload_n 0, 1), (273, .getfield 58, 3), (276, .aload_n 0, 1), (277, .getfield 55, 3), (280, .invokestatic 331, 3), (283, .aload_n 0, 1), (284, .getfield 64, 3), (287, .aload_n 0, 1), (288, .getfield 61, 3), (291, .invokestatic 331, 3), (294, .aload_n 0, 1), (295, .aload_n 0, 1), (296, .getfield 37, 3), (299, .iconst 0, 1), (300, .iaload, 1), (301, .aload_n 0, 1), (302, .getfield 37, 3), (305, .iconst 1, 1), (306, .iaload, 1), (307, .imul, 1), (308, .putfield 335, 3), (311, .iconst 0, 1), (312, .istore_n 3, 1), (313, .iload_n 3, 1), (314, .sipush 227, 3), (317, .if_icmp .ge 16, 3), (320, .aload_n 0, 1), (321, .getfield 73, 3), (324, .iload_n 3, 1), (325, .iconst 0, 1), (326, .iastore, 1), (327, .iinc 3 1, 3), (330, .goto (-17), 3), (333, .iconst 0, 1), (334, .istore_n 3, 1), (335, .iload_n 3, 1), (336, .aload_n 0, 1), (337, .getfield 328, 3), (340, .if_icmp .ge 48, 3), (343, .aload_n 0, 1), (344, .getfield 73, 3), (347, .iconst 2, 1), (348, .iload_n 3, 1), (349, .imul, 1), (350, .aload_n 0, 1), (351, .iload_n 3, 1), (352, .iconst 0, 1), (353, .invokevirtual 338, 3), (356, .iastore, 1), (357, .aload_n 0, 1), (358, .getfield 73, 3), (361, .bipush 12, 2), (363, .aload_n 0, 1), (364, .iload_n 3, 1), (365, .iconst 5, 1), (366, .invokevirtual 338, 3), (369, .iadd, 1), (370, .dup2, 1), (371, .iaload, 1), (372, .iconst 1, 1), (373, .aload_n 0, 1), (374, .iload_n 3, 1), (375, .iconst 0, 1), (376, .invokevirtual 338, 3), (379, .ishl, 1), (380, .ior, 1), (381, .iastore, 1), (382, .iinc 3 1, 3), (385, .goto (-50), 3), (388, .aload_n 0, 1), (389, .iconst 0, 1), (390, .putfield 341, 3), (393, .aload_n 0, 1), (394, .iconst 0, 1), (395, .putfield 344, 3), (398, .aload_n 0, 1), (399, .iconst 0, 1), (400, .putfield 347, 3), (403, .aload_n 0, 1), (404, .getfield 335, 3), (407, .ireturn, 1)]
def m_R_text : AM := (12, ⟨"HeathForksModel", "text", "(I)I"⟩, prog_14_method_44_code, tb_R_text, 4, some .int, 92)
theorem tk_R_text : tabOk prog_14_method_44_code tb_R_text := by unfold tabOk; decide +kernel
set_option maxRecDepth 20000 in
theorem bb0_R_text : cB m_R_text 1 := ⟨(gwt1 13 rfl rfl), (gwt7 237 rfl rfl), ⟨by decide, by decide⟩, by decide +kernel, by decide⟩
theorem bb_R_text : cB m_R_text 1 := bb0_R_text
set_option maxRecDepth 20000 in
theorem vv_R_text : cV m_R_text := ⟨(gwt7 235 rfl rfl), (gwt7 236 rfl rfl)⟩
def tb_R_rule : List (Nat × Instr × Nat) := [(0, .aload_n 0, 1), (1, .iconst 0, 1), (2, .putfield 102, 3), (5, .aload_n 0, 1), (6, .getfield 335, 3), (9, .ifCond .le 24, 3), (12, .iload_n 1, 1), (13, .i2l, 1), (14, .lconst 0, 1), (15, .ldc2_w 370, 3), (18, .invokestatic 223, 3), (21, .ifCond .eq 12, 3), (24, .aload_n 0, 1), (25, .getfield 37, 3), (28, .iload_n 1, 1), (29, .iaload, 1), (30, .goto 4, 3), (33, .iconst (-1), 1), (34, .ireturn, 1)]
def m_R_rule : AM := (12, ⟨"HeathForksModel", "rule", "(I)I"⟩, prog_14_method_56_code, tb_R_rule, 2, some .int, 1)
theorem tk_R_rule : tabOk prog_14_method_56_code tb_R_rule := by unfold tabOk; decide +kernel
set_option maxRecDepth 20000 in
theorem bb0_R_rule : cB m_R_rule 1 := ⟨(gwt1 13 rfl rfl), (gwt8 9 rfl rfl), ⟨by decide, by decide⟩, by decide +kernel, by decide⟩
theorem bb_R_rule : cB m_R_rule 1 := bb0_R_rule
set_option maxRecDepth 20000 in
theorem vv_R_rule : cV m_R_rule := ⟨(gwt8 7 rfl rfl), (gwt8 8 rfl rfl)⟩
def tb_R_isCell : List (Nat × Instr × Nat) := [(0, .iload_n 1, 1), (1, .ifCond .lt 15, 3), (4, .iload_n 1, 1), (5, .aload_n 0, 1), (6, .getfield 335, 3), (9, .if_icmp .ge 7, 3), (12, .iconst 1, 1), (13, .goto 4, 3), (16, .iconst 0, 1), (17, .ireturn, 1)]
def m_R_isCell : AM := (12, ⟨"HeathForksModel", "isCell", "(I)Z"⟩, prog_14_method_46_code, tb_R_isCell, 2, some .boolean, 0)
theorem tk_R_isCell : tabOk prog_14_method_46_code tb_R_isCell := by unfold tabOk; decide +kernel
set_option maxRecDepth 20000 in
theorem bb0_R_isCell : cB m_R_isCell 1 := ⟨(gwt1 13 rfl rfl), (gwt8 18 rfl rfl), ⟨by decide, by decide⟩, by decide +kernel, by decide⟩
theorem bb_R_isCell : cB m_R_isCell 1 := bb0_R_isCell
set_option maxRecDepth 20000 in
theorem vv_R_isCell : cV m_R_isCell := ⟨(gwt8 17 rfl rfl), (gw_p 78 rfl rfl)⟩
def tb_R_stepTo : List (Nat × Instr × Nat) := [(0, .iload_n 1, 1), (1, .iload_n 2, 1), (2, .aload_n 0, 1), (3, .getfield 37, 3), (6, .iconst 0, 1), (7, .iaload, 1), (8, .aload_n 0, 1), (9, .getfield 37, 3), (12, .iconst 1, 1), (13, .iaload, 1), (14, .invokestatic 286, 3), (17, .ireturn, 1)]
def m_R_stepTo : AM := (12, ⟨"HeathForksModel", "stepTo", "(II)I"⟩, prog_14_method_48_code, tb_R_stepTo, 3, some .int, 1)
theorem tk_R_stepTo : tabOk prog_14_method_48_code tb_R_stepTo := by unfold tabOk; decide +kernel
set_option maxRecDepth 20000 in
theorem bb0_R_stepTo : cB m_R_stepTo 2 := ⟨(gwt1 13 rfl rfl), (gwt8 31 rfl rfl), ⟨by decide, by decide⟩, by decide +kernel, by decide⟩
theorem bb_R_stepTo : cB m_R_stepTo 2 := bb0_R_stepTo
set_option maxRecDepth 20000 in
theorem vv_R_stepTo : cV m_R_stepTo := ⟨(gwt8 30 rfl rfl), (gw_p 81 rfl rfl)⟩
def tb_R_veinAt : List (Nat × Instr × Nat) := [(0, .aload_n 0, 1), (1, .getfield 43, 3), (4, .bipush 13, 2), (6, .iload_n 1, 1), (7, .imul, 1), (8, .iaload, 1), (9, .istore_n 3, 1), (10, .iconst 0, 1), (11, .istore 4, 2), (13, .iload 4, 2), (15, .aload_n 0, 1), (16, .getfield 43, 3), (19, .bipush 13, 2), (21, .iload_n 1, 1), (22, .imul, 1), (23, .iconst 3, 1), (24, .iadd, 1), (25, .iaload, 1), (26, .if_icmp .gt 77, 3), (29, .iload_n 3, 1), (30, .iload_n 2, 1), (31, .if_icmp .ne 30, 3), (34, .aload_n 0, 1), (35, .getfield 43, 3), (38, .bipush 13, 2), (40, .iload_n 1, 1), (41, .imul, 1), (42, .iconst 1, 1), (43, .iadd, 1), (44, .iaload, 1), (45, .iload 4, 2), (47, .aload_n 0, 1), (48, .getfield 43, 3), (51, .bipush 13, 2), (53, .iload_n 1, 1), (54, .imul, 1), (55, .iconst 2, 1), (56, .iadd, 1), (57, .iaload, 1), (58, .imul, 1), (59, .iadd, 1), (60, .ireturn, 1), (61, .iload 4, 2), (63, .aload_n 0, 1), (64, .getfield 43, 3), (67, .bipush 13, 2), (69, .iload_n 1, 1), (70, .imul, 1), (71, .iconst 3, 1), (72, .iadd, 1), (73, .iaload, 1), (74, .if_icmp .ge 23, 3), (77, .aload_n 0, 1), (78, .iload_n 3, 1), (79, .aload_n 0, 1), (80, .getfield 43, 3), (83, .bipush 13, 2), (85, .iload_n 1, 1), (86, .imul, 1), (87, .iconst 4, 1), (88, .iadd, 1), (89, .iload 4, 2), (91, .iadd, 1), (92, .iaload, 1), (93, .invokevirtual 350, 3), (96, .istore_n 3, 1), (97, .iinc 4 1, 3), (100, .goto (-87), 3), (103, .iconst (-1), 1), (104, .ireturn, 1)]
def m_R_veinAt : AM := (12, ⟨"HeathForksModel", "veinAt", "(II)I"⟩, prog_14_method_49_code, tb_R_veinAt, 5, some .int, 2)
theorem tk_R_veinAt : tabOk prog_14_method_49_code tb_R_veinAt := by unfold tabOk; decide +kernel
set_option maxRecDepth 20000 in
theorem bb0_R_veinAt : cB m_R_veinAt 2 := ⟨(gwt1 13 rfl rfl), (gwt8 27 rfl rfl), ⟨by decide, by decide⟩, by decide +kernel, by decide⟩
theorem bb_R_veinAt : cB m_R_veinAt 2 := bb0_R_veinAt
set_option maxRecDepth 20000 in
theorem vv_R_veinAt : cV m_R_veinAt := ⟨(gwt8 26 rfl rfl), (gw_p 80 rfl rfl)⟩
def tb_R_depthOf : List (Nat × Instr × Nat) := [(0, .iconst (-1), 1), (1, .istore_n 3, 1), (2, .iconst 0, 1), (3, .istore 4, 2), (5, .iload 4, 2), (7, .aload_n 0, 1), (8, .getfield 319, 3), (11, .if_icmp .ge 38, 3), (14, .aload_n 0, 1), (15, .iload 4, 2), (17, .iload_n 1, 1), (18, .invokevirtual 353, 3), (21, .istore 5, 2), (23, .iload 5, 2), (25, .iconst (-1), 1), (26, .if_icmp .eq 17, 3), (29, .iload_n 3, 1), (30, .iconst (-1), 1), (31, .if_icmp .eq 9, 3), (34, .iload 5, 2), (36, .iload_n 3, 1), (37, .if_icmp .ge 6, 3), (40, .iload 5, 2), (42, .istore_n 3, 1), (43, .iinc 4 1, 3), (46, .goto (-41), 3), (49, .iload_n 3, 1), (50, .iconst (-1), 1), (51, .if_icmp .ne 5, 3), (54, .iconst (-1), 1), (55, .ireturn, 1), (56, .bipush 99, 2), (58, .iload_n 3, 1), (59, .iload_n 2, 1), (60, .ifCond .ne 7, 3), (63, .iconst 0, 1), (64, .goto 25, 3), (67, .iload_n 2, 1), (68, .iconst 2, 1), (69, .if_icmp .ne 14, 3), (72, .iconst 2, 1), (73, .aload_n 0, 1), (74, .getfield 37, 3), (77, .iconst 2, 1), (78, .iaload, 1), (79, .imul, 1), (80, .goto 9, 3), (83, .aload_n 0, 1), (84, .getfield 37, 3), (87, .iconst 2, 1), (88, .iaload, 1), (89, .iadd, 1), (90, .invokestatic 356, 3), (93, .ireturn, 1)]
def m_R_depthOf : AM := (12, ⟨"HeathForksModel", "depthOf", "(II)I"⟩, prog_14_method_51_code, tb_R_depthOf, 6, some .int, 3)
theorem tk_R_depthOf : tabOk prog_14_method_51_code tb_R_depthOf := by unfold tabOk; decide +kernel
set_option maxRecDepth 20000 in
theorem bb0_R_depthOf : cB m_R_depthOf 2 := ⟨(gwt1 13 rfl rfl), (gwt8 23 rfl rfl), ⟨by decide, by decide⟩, by decide +kernel, by decide⟩
theorem bb_R_depthOf : cB m_R_depthOf 2 := bb0_R_depthOf
set_option maxRecDepth 20000 in
theorem vv_R_depthOf : cV m_R_depthOf := ⟨(gwt8 22 rfl rfl), (gw_p 79 rfl rfl)⟩
def tb_R_numberAt : List (Nat × Instr × Nat) := [(0, .iconst 0, 1), (1, .istore 4, 2), (3, .iload 4, 2), (5, .iload_n 1, 1), (6, .if_icmp .ge 28, 3), (9, .aload_n 0, 1), (10, .iconst 2, 1), (11, .iload 4, 2), (13, .imul, 1), (14, .iaload, 1), (15, .iload_n 2, 1), (16, .if_icmp .ne 12, 3), (19, .aload_n 0, 1), (20, .iconst 2, 1), (21, .iload 4, 2), (23, .imul, 1), (24, .iconst 1, 1), (25, .iadd, 1), (26, .iaload, 1), (27, .ireturn, 1), (28, .iinc 4 1, 3), (31, .goto (-28), 3), (34, .iload_n 3, 1), (35, .ireturn, 1)]
def m_R_numberAt : AM := (12, ⟨"HeathForksModel", "numberAt", "([IIII)I"⟩, prog_14_method_52_code, tb_R_numberAt, 5, some .int, 0)
theorem tk_R_numberAt : tabOk prog_14_method_52_code tb_R_numberAt := by unfold tabOk; decide +kernel
set_option maxRecDepth 20000 in
theorem bb0_R_numberAt : cB m_R_numberAt 4 := ⟨(gwt1 13 rfl rfl), (gwt8 39 rfl rfl), ⟨by decide, by decide⟩, by decide +kernel, by decide⟩
theorem bb_R_numberAt : cB m_R_numberAt 4 := bb0_R_numberAt
set_option maxRecDepth 20000 in
theorem vv_R_numberAt : Cond.static (my m_R_numberAt) ∈ gw := (gwt8 38 rfl rfl)
def tb_R_ironAt : List (Nat × Instr × Nat) := [(0, .aload_n 0, 1), (1, .getfield 49, 3), (4, .aload_n 0, 1), (5, .getfield 322, 3), (8, .iload_n 1, 1), (9, .iconst (-1), 1), (10, .invokestatic 358, 3), (13, .ireturn, 1)]
def m_R_ironAt : AM := (12, ⟨"HeathForksModel", "ironAt", "(I)I"⟩, prog_14_method_53_code, tb_R_ironAt, 2, some .int, 1)
theorem tk_R_ironAt : tabOk prog_14_method_53_code tb_R_ironAt := by unfold tabOk; decide +kernel
set_option maxRecDepth 20000 in
theorem bb0_R_ironAt : cB m_R_ironAt 1 := ⟨(gwt1 13 rfl rfl), (gwt8 36 rfl rfl), ⟨by decide, by decide⟩, by decide +kernel, by decide⟩
theorem bb_R_ironAt : cB m_R_ironAt 1 := bb0_R_ironAt
set_option maxRecDepth 20000 in
theorem vv_R_ironAt : cV m_R_ironAt := ⟨(gwt8 35 rfl rfl), (gw_p 82 rfl rfl)⟩
def tb_R_cell : List (Nat × Instr × Nat) := [(0, .aload_n 0, 1), (1, .iconst 0, 1), (2, .putfield 102, 3), (5, .aload_n 0, 1), (6, .iload_n 1, 1), (7, .invokevirtual 372, 3), (10, .ifCond .eq 15, 3), (13, .iload_n 2, 1), (14, .i2l, 1), (15, .lconst 0, 1), (16, .ldc2_w 375, 3), (19, .invokestatic 223, 3), (22, .ifCond .ne 5, 3), (25, .iconst (-1), 1), (26, .ireturn, 1), (27, .iload_n 2, 1), (28, .tableswitch 83 0 3 #[32, 45, 51, 65], 32), (60, .aload_n 0, 1), (61, .iload_n 1, 1), (62, .aload_n 0, 1), (63, .getfield 73, 3), (66, .bipush 45, 2), (68, .iaload, 1), (69, .invokevirtual 362, 3), (72, .ireturn, 1), (73, .aload_n 0, 1), (74, .iload_n 1, 1), (75, .invokevirtual 365, 3), (78, .ireturn, 1), (79, .aload_n 0, 1), (80, .getfield 55, 3), (83, .aload_n 0, 1), (84, .getfield 325, 3), (87, .iload_n 1, 1), (88, .iconst 0, 1), (89, .invokestatic 358, 3), (92, .ireturn, 1), (93, .aload_n 0, 1), (94, .getfield 73, 3), (97, .bipush 14, 2), (99, .iload_n 1, 1), (100, .iadd, 1), (101, .iaload, 1), (102, .ifCond .le 7, 3), (105, .iconst 1, 1), (106, .goto 4, 3), (109, .iconst 0, 1), (110, .ireturn, 1), (111, .aload_n 0, 1), (112, .getfield 73, 3), (115, .bipush 14, 2), (117, .iload_n 1, 1), (118, .iadd, 1), (119, .iaload, 1), (120, .ireturn, 1)]
def m_R_cell : AM := (12, ⟨"HeathForksModel", "cell", "(II)I"⟩, prog_14_method_57_code, tb_R_cell, 3, some .int, 4)
theorem tk_R_cell : tabOk prog_14_method_57_code tb_R_cell := by unfold tabOk; decide +kernel
set_option maxRecDepth 20000 in
theorem bb0_R_cell : cB m_R_cell 2 := ⟨(gwt1 13 rfl rfl), (gwt8 14 rfl rfl), ⟨by decide, by decide⟩, by decide +kernel, by decide⟩
theorem bb_R_cell : cB m_R_cell 2 := bb0_R_cell
set_option maxRecDepth 20000 in
theorem vv_R_cell : cV m_R_cell := ⟨(gwt8 12 rfl rfl), (gwt8 13 rfl rfl)⟩
def tb_R_isFork : List (Nat × Instr × Nat) := [(0, .iload_n 1, 1), (1, .ifCond .lt 15, 3), (4, .iload_n 1, 1), (5, .aload_n 0, 1), (6, .getfield 328, 3), (9, .if_icmp .ge 7, 3), (12, .iconst 1, 1), (13, .goto 4, 3), (16, .iconst 0, 1), (17, .ireturn, 1)]
def m_R_isFork : AM := (12, ⟨"HeathForksModel", "isFork", "(I)Z"⟩, prog_14_method_47_code, tb_R_isFork, 2, some .boolean, 0)
theorem tk_R_isFork : tabOk prog_14_method_47_code tb_R_isFork := by unfold tabOk; decide +kernel
set_option maxRecDepth 20000 in
theorem bb0_R_isFork : cB m_R_isFork 1 := ⟨(gwt1 13 rfl rfl), (gwt8 47 rfl rfl), ⟨by decide, by decide⟩, by decide +kernel, by decide⟩
theorem bb_R_isFork : cB m_R_isFork 1 := bb0_R_isFork
set_option maxRecDepth 20000 in
theorem vv_R_isFork : cV m_R_isFork := ⟨(gwt8 46 rfl rfl), (gw_p 83 rfl rfl)⟩
def tb_R_fork : List (Nat × Instr × Nat) := [(0, .aload_n 0, 1), (1, .aload_n 0, 1), (2, .iload_n 1, 1), (3, .invokevirtual 377, 3), (6, .ifCond .eq 19, 3), (9, .iload_n 2, 1), (10, .i2l, 1), (11, .lconst 0, 1), (12, .ldc2_w 380, 3), (15, .invokestatic 223, 3), (18, .ifCond .eq 7, 3), (21, .iconst 0, 1), (22, .goto 4, 3), (25, .iconst 1, 1), (26, .putfield 102, 3), (29, .aload_n 0, 1), (30, .getfield 102, 3), (33, .ifCond .le 5, 3), (36, .iconst 0, 1), (37, .ireturn, 1), (38, .iload_n 2, 1), (39, .ifCond .ne 12, 3), (42, .aload_n 0, 1), (43, .getfield 73, 3), (46, .iconst 2, 1), (47, .iload_n 1, 1), (48, .imul, 1), (49, .iaload, 1), (50, .ireturn, 1), (51, .iload_n 2, 1), (52, .bipush 6, 2), (54, .if_icmp .ne 14, 3), (57, .aload_n 0, 1), (58, .getfield 73, 3), (61, .iconst 2, 1), (62, .iload_n 1, 1), (63, .imul, 1), (64, .iconst 1, 1), (65, .iadd, 1), (66, .iaload, 1), (67, .ireturn, 1), (68, .iload_n 2, 1), (69, .iconst 3, 1), (70, .if_icmp .ne 20, 3), (73, .aload_n 0, 1), (74, .iload_n 1, 1), (75, .iconst 3, 1), (76, .invokevirtual 338, 3), (79, .aload_n 0, 1), (80, .getfield 335, 3), (83, .if_icmp .lt 7, 3), (86, .iconst (-1), 1), (87, .goto 9, 3), (90, .aload_n 0, 1), (91, .iload_n 1, 1), (92, .iload_n 2, 1), (93, .invokevirtual 338, 3), (96, .ireturn, 1)]
def m_R_fork : AM := (12, ⟨"HeathForksModel", "fork", "(II)I"⟩, prog_14_method_58_code, tb_R_fork, 3, some .int, 1)
theorem tk_R_fork : tabOk prog_14_method_58_code tb_R_fork := by unfold tabOk; decide +kernel
set_option maxRecDepth 20000 in
theorem bb0_R_fork : cB m_R_fork 2 := ⟨(gwt1 13 rfl rfl), (gwt8 43 rfl rfl), ⟨by decide, by decide⟩, by decide +kernel, by decide⟩
theorem bb_R_fork : cB m_R_fork 2 := bb0_R_fork
set_option maxRecDepth 20000 in
theorem vv_R_fork : cV m_R_fork := ⟨(gwt8 41 rfl rfl), (gwt8 42 rfl rfl)⟩
def tb_R_law : List (Nat × Instr × Nat) := [(0, .aload_n 0, 1), (1, .iconst 0, 1), (2, .putfield 102, 3), (5, .iload_n 1, 1), (6, .iconst (-1), 1), (7, .if_icmp .eq 21, 3), (10, .iload_n 1, 1), (11, .i2l, 1), (12, .lconst 0, 1), (13, .aload_n 0, 1), (14, .getfield 311, 3), (17, .iconst 1, 1), (18, .isub, 1), (19, .i2l, 1), (20, .invokestatic 223, 3), (23, .ifCond .ne 5, 3), (26, .iconst 0, 1), (27, .ireturn, 1), (28, .aload_n 0, 1), (29, .iload_n 1, 1), (30, .putfield 79, 3), (33, .iconst 1, 1), (34, .ireturn, 1)]
def m_R_law : AM := (12, ⟨"HeathForksModel", "law", "(I)Z"⟩, prog_14_method_59_code, tb_R_law, 2, some .boolean, 1)
theorem tk_R_law : tabOk prog_14_method_59_code tb_R_law := by unfold tabOk; decide +kernel
set_option maxRecDepth 20000 in
theorem bb0_R_law : cB m_R_law 1 := ⟨(gwt1 13 rfl rfl), (gwt8 52 rfl rfl), ⟨by decide, by decide⟩, by decide +kernel, by decide⟩
theorem bb_R_law : cB m_R_law 1 := bb0_R_law
set_option maxRecDepth 20000 in
theorem vv_R_law : cV m_R_law := ⟨(gwt8 50 rfl rfl), (gwt8 51 rfl rfl)⟩
def tb_R_twitchOf : List (Nat × Instr × Nat) := [(0, .aload_n 0, 1), (1, .iload_n 3, 1), (2, .aload_n 1, 1), (3, .bipush 45, 2), (5, .iaload, 1), (6, .invokevirtual 362, 3), (9, .istore 4, 2), (11, .aload_n 0, 1), (12, .iload_n 3, 1), (13, .invokevirtual 365, 3), (16, .istore 5, 2), (18, .aload_n 0, 1), (19, .iload_n 2, 1), (20, .iconst 3, 1), (21, .invokevirtual 338, 3), (24, .iload_n 3, 1), (25, .if_icmp .ne 7, 3), (28, .iconst 1, 1), (29, .goto 4, 3), (32, .iconst 0, 1), (33, .istore 6, 2), (35, .iconst 0, 1), (36, .istore 7, 2), (38, .iload 4, 2), (40, .iconst (-1), 1), (41, .if_icmp .eq 21, 3), (44, .iload 7, 2), (46, .aload_n 0, 1), (47, .iload_n 2, 1), (48, .iconst 1, 1), (49, .invokevirtual 338, 3), (52, .iload 4, 2), (54, .isub, 1), (55, .iconst 1, 1), (56, .iadd, 1), (57, .invokestatic 368, 3), (60, .istore 7, 2), (62, .iload 5, 2), (64, .iconst (-1), 1), (65, .if_icmp .eq 23, 3), (68, .iload 5, 2), (70, .aload_n 0, 1), (71, .iload_n 2, 1), (72, .iconst 2, 1), (73, .invokevirtual 338, 3), (76, .if_icmp .gt 12, 3), (79, .iload 7, 2), (81, .bipush 10, 2), (83, .invokestatic 368, 3), (86, .istore 7, 2), (88, .iload 6, 2), (90, .ifCond .eq 11, 3), (93, .iload 7, 2), (95, .iconst 5, 1), (96, .invokestatic 368, 3), (99, .istore 7, 2), (101, .aload_n 0, 1), (102, .getfield 79, 3), (105, .iconst (-1), 1), (106, .if_icmp .eq 171, 3), (109, .aload_n 0, 1), (110, .getfield 20, 3), (113, .bipush 100, 2), (115, .iload 4, 2), (117, .iconst (-1), 1), (118, .if_icmp .ne 8, 3), (121, .bipush 99, 2), (123, .goto 5, 3), (126, .iload 4, 2), (128, .iastore, 1), (129, .aload_n 0, 1), (130, .getfield 20, 3), (133, .bipush 109, 2), (135, .aload_n 0, 1), (136, .iload_n 2, 1), (137, .iconst 1, 1), (138, .invokevirtual 338, 3), (141, .iastore, 1), (142, .aload_n 0, 1), (143, .getfield 20, 3), (146, .bipush 105, 2), (148, .iload 5, 2), (150, .iconst (-1), 1), (151, .if_icmp .ne 8, 3), (154, .bipush 99, 2), (156, .goto 5, 3), (159, .iload 5, 2), (161, .iastore, 1), (162, .aload_n 0, 1), (163, .getfield 20, 3), (166, .bipush 120, 2), (168, .iload 6, 2), (170, .ifCond .eq 7, 3), (173, .iconst 1, 1), (174, .goto 4, 3), (177, .iconst 0, 1), (178, .iastore, 1), (179, .aload_n 0, 1), (180, .getfield 20, 3), (183, .bipush 115, 2), (185, .aload_n 1, 1), (186, .bipush 45, 2), (188, .iaload, 1), (189, .iastore, 1), (190, .iconst 1, 1), (191, .istore 8, 2), (193, .iconst 0, 1), (194, .istore 9, 2), (196, .iload 9, 2), (198, .aload_n 0, 1), (199, .getfield 328, 3), (202, .if_icmp .ge 35, 3), (205, .iload 8, 2), (207, .iload 9, 2), (209, .iload_n 2, 1), (210, .if_icmp .eq 17, 3), (213, .aload_n 1, 1), (214, .iconst 2, 1), (215, .iload 9, 2), (217, .imul, 1), (218, .iaload, 1), (219, .iload_n 3, 1), (220, .if_icmp .ne 7, 3), (223, .iconst 1, 1), (224, .goto 4, 3), (227, .iconst 0, 1), (228, .iadd, 1), (229, .istore 8, 2), (231, .iinc 9 1, 3), (234, .goto (-38), 3), (237, .aload_n 0, 1), (238, .getfield 20, 3), (241, .bipush 111, 2), (243, .iload 8, 2), (245, .iastore, 1), (246, .aload_n 0, 1), (247, .aload_n 0, 1), (248, .getfield 13, 3), (251, .sipush 240, 3), (254, .aload_n 0, 1), (255, .getfield 79, 3), (258, .imul, 1), (259, .aload_n 0, 1), (260, .getfield 16, 3), (263, .aload_n 0, 1), (264, .getfield 79, 3), (267, .iaload, 1), (268, .invokevirtual 305, 3), (271, .aload_n 0, 1), (272, .getfield 210, 3), (275, .istore 7, 2), (277, .iconst 0, 1), (278, .bipush 99, 2), (280, .iload 7, 2), (282, .invokestatic 356, 3), (285, .invokestatic 368, 3), (288, .ireturn, 1)]
def m_R_twitchOf : AM := (12, ⟨"HeathForksModel", "twitchOf", "([III)I"⟩, prog_14_method_55_code, tb_R_twitchOf, 10, some .int, 91)
theorem tk_R_twitchOf : tabOk prog_14_method_55_code tb_R_twitchOf := by unfold tabOk; decide +kernel
set_option maxRecDepth 20000 in
theorem bb0_R_twitchOf : cB m_R_twitchOf 3 := ⟨(gwt1 13 rfl rfl), (gwt8 60 rfl rfl), ⟨by decide, by decide⟩, by decide +kernel, by decide⟩
theorem bb_R_twitchOf : cB m_R_twitchOf 3 := bb0_R_twitchOf
set_option maxRecDepth 20000 in
theorem vv_R_twitchOf : cV m_R_twitchOf := ⟨(gwt8 59 rfl rfl), (gw_p 84 rfl rfl)⟩
def tb_R_twitch : List (Nat × Instr × Nat) := [(0, .aload_n 0, 1), (1, .iconst 0, 1), (2, .putfield 102, 3), (5, .aload_n 0, 1), (6, .iload_n 1, 1), (7, .invokevirtual 377, 3), (10, .ifCond .eq 24, 3), (13, .aload_n 0, 1), (14, .iload_n 2, 1), (15, .invokevirtual 372, 3), (18, .ifCond .eq 16, 3), (21, .aload_n 0, 1), (22, .aload_n 0, 1), (23, .getfield 73, 3), (26, .iload_n 1, 1), (27, .iload_n 2, 1), (28, .invokevirtual 382, 3), (31, .goto 4, 3), (34, .iconst (-1), 1), (35, .ireturn, 1)]
def m_R_twitch : AM := (12, ⟨"HeathForksModel", "twitch", "(II)I"⟩, prog_14_method_60_code, tb_R_twitch, 3, some .int, 92)
theorem tk_R_twitch : tabOk prog_14_method_60_code tb_R_twitch := by unfold tabOk; decide +kernel
set_option maxRecDepth 20000 in
theorem bb0_R_twitch : cB m_R_twitch 2 := ⟨(gwt1 13 rfl rfl), (gwt8 56 rfl rfl), ⟨by decide, by decide⟩, by decide +kernel, by decide⟩
theorem bb_R_twitch : cB m_R_twitch 2 := bb0_R_twitch
set_option maxRecDepth 20000 in
theorem vv_R_twitch : cV m_R_twitch := ⟨(gwt8 54 rfl rfl), (gwt8 55 rfl rfl)⟩
def tb_R_whereTo : List (Nat × Instr × Nat) := [(0, .aload_n 0, 1), (1, .iload_n 2, 1), (2, .invokevirtual 377, 3), (5, .ifCond .eq 15, 3), (8, .iload_n 3, 1), (9, .i2l, 1), (10, .lconst 0, 1), (11, .ldc2_w 370, 3), (14, .invokestatic 223, 3), (17, .ifCond .ne 5, 3), (20, .iconst (-1), 1), (21, .ireturn, 1), (22, .aload_n 0, 1), (23, .aload_n 1, 1), (24, .iconst 2, 1), (25, .iload_n 2, 1), (26, .imul, 1), (27, .iaload, 1), (28, .iload_n 3, 1), (29, .invokevirtual 350, 3), (32, .istore 4, 2), (34, .iload 4, 2), (36, .iconst (-1), 1), (37, .if_icmp .eq 22, 3), (40, .aload_n 1, 1), (41, .bipush 13, 2), (43, .aload_n 0, 1), (44, .iload_n 2, 1), (45, .iconst 5, 1), (46, .invokevirtual 338, 3), (49, .isub, 1), (50, .iaload, 1), (51, .iload 4, 2), (53, .invokestatic 235, 3), (56, .ifCond .eq 7, 3), (59, .iconst (-1), 1), (60, .goto 5, 3), (63, .iload 4, 2), (65, .ireturn, 1)]
def m_R_whereTo : AM := (12, ⟨"HeathForksModel", "whereTo", "([III)I"⟩, prog_14_method_63_code, tb_R_whereTo, 5, some .int, 2)
theorem tk_R_whereTo : tabOk prog_14_method_63_code tb_R_whereTo := by unfold tabOk; decide +kernel
set_option maxRecDepth 20000 in
theorem bb0_R_whereTo : cB m_R_whereTo 3 := ⟨(gwt1 13 rfl rfl), (gwt8 69 rfl rfl), ⟨by decide, by decide⟩, by decide +kernel, by decide⟩
theorem bb_R_whereTo : cB m_R_whereTo 3 := bb0_R_whereTo
set_option maxRecDepth 20000 in
theorem vv_R_whereTo : cV m_R_whereTo := ⟨(gwt8 68 rfl rfl), (gw_p 85 rfl rfl)⟩
def tb_R_remember : List (Nat × Instr × Nat) := [(0, .aload_n 0, 1), (1, .getfield 344, 3), (4, .bipush 40, 2), (6, .if_icmp .ne 44, 3), (9, .iconst 0, 1), (10, .istore_n 1, 1), (11, .iload_n 1, 1), (12, .sipush 8853, 3), (15, .if_icmp .ge 25, 3), (18, .aload_n 0, 1), (19, .getfield 83, 3), (22, .iload_n 1, 1), (23, .aload_n 0, 1), (24, .getfield 83, 3), (27, .iload_n 1, 1), (28, .sipush 227, 3), (31, .iadd, 1), (32, .iaload, 1), (33, .iastore, 1), (34, .iinc 1 1, 3), (37, .goto (-26), 3), (40, .aload_n 0, 1), (41, .dup, 1), (42, .getfield 344, 3), (45, .iconst 1, 1), (46, .isub, 1), (47, .putfield 344, 3), (50, .iconst 0, 1), (51, .istore_n 1, 1), (52, .iload_n 1, 1), (53, .sipush 227, 3), (56, .if_icmp .ge 30, 3), (59, .aload_n 0, 1), (60, .getfield 83, 3), (63, .sipush 227, 3), (66, .aload_n 0, 1), (67, .getfield 344, 3), (70, .imul, 1), (71, .iload_n 1, 1), (72, .iadd, 1), (73, .aload_n 0, 1), (74, .getfield 73, 3), (77, .iload_n 1, 1), (78, .iaload, 1), (79, .iastore, 1), (80, .iinc 1 1, 3), (83, .goto (-31), 3), (86, .aload_n 0, 1), (87, .dup, 1), (88, .getfield 344, 3), (91, .iconst 1, 1), (92, .iadd, 1), (93, .putfield 344, 3), (96, .return_, 1)]
def m_R_remember : AM := (12, ⟨"HeathForksModel", "remember", "()V"⟩, prog_14_method_61_code, tb_R_remember, 2, none, 0)
theorem tk_R_remember : tabOk prog_14_method_61_code tb_R_remember := by unfold tabOk; decide +kernel
set_option maxRecDepth 20000 in
theorem bb0_R_remember : cB m_R_remember 0 := ⟨(gwt1 13 rfl rfl), (gwt8 73 rfl rfl), ⟨by decide, by decide⟩, by decide +kernel, by decide⟩
theorem bb_R_remember : cB m_R_remember 0 := bb0_R_remember
set_option maxRecDepth 20000 in
theorem vv_R_remember : cV m_R_remember := ⟨(gwt8 72 rfl rfl), (gw_p 86 rfl rfl)⟩
def tb_R_writes : List (Nat × Instr × Nat) := [(0, .aload_n 0, 1), (1, .bipush 46, 2), (3, .iaload, 1), (4, .bipush 60, 2), (6, .if_icmp .ne 44, 3), (9, .iconst 1, 1), (10, .istore 4, 2), (12, .iload 4, 2), (14, .sipush 177, 3), (17, .if_icmp .gt 25, 3), (20, .aload_n 0, 1), (21, .bipush 46, 2), (23, .iload 4, 2), (25, .iadd, 1), (26, .aload_n 0, 1), (27, .bipush 46, 2), (29, .iload 4, 2), (31, .iadd, 1), (32, .iconst 3, 1), (33, .iadd, 1), (34, .iaload, 1), (35, .iastore, 1), (36, .iinc 4 1, 3), (39, .goto (-27), 3), (42, .aload_n 0, 1), (43, .bipush 46, 2), (45, .dup2, 1), (46, .iaload, 1), (47, .iconst 1, 1), (48, .isub, 1), (49, .iastore, 1), (50, .bipush 47, 2), (52, .iconst 3, 1), (53, .aload_n 0, 1), (54, .bipush 46, 2), (56, .iaload, 1), (57, .imul, 1), (58, .iadd, 1), (59, .istore 4, 2), (61, .aload_n 0, 1), (62, .iload 4, 2), (64, .iload_n 1, 1), (65, .iastore, 1), (66, .aload_n 0, 1), (67, .iload 4, 2), (69, .iconst 1, 1), (70, .iadd, 1), (71, .iload_n 2, 1), (72, .iastore, 1), (73, .aload_n 0, 1), (74, .iload 4, 2), (76, .iconst 2, 1), (77, .iadd, 1), (78, .iload_n 3, 1), (79, .iastore, 1), (80, .aload_n 0, 1), (81, .bipush 46, 2), (83, .dup2, 1), (84, .iaload, 1), (85, .iconst 1, 1), (86, .iadd, 1), (87, .iastore, 1), (88, .return_, 1)]
def m_R_writes : AM := (12, ⟨"HeathForksModel", "writes", "([IIII)V"⟩, prog_14_method_62_code, tb_R_writes, 5, none, 0)
theorem tk_R_writes : tabOk prog_14_method_62_code tb_R_writes := by unfold tabOk; decide +kernel
set_option maxRecDepth 20000 in
theorem bb0_R_writes : cB m_R_writes 4 := ⟨(gwt1 13 rfl rfl), (gwt8 80 rfl rfl), ⟨by decide, by decide⟩, by decide +kernel, by decide⟩
theorem bb_R_writes : cB m_R_writes 4 := bb0_R_writes
set_option maxRecDepth 20000 in
theorem vv_R_writes : Cond.static (my m_R_writes) ∈ gw := (gwt8 79 rfl rfl)
def tb_R_goes : List (Nat × Instr × Nat) := [(0, .aload_n 0, 1), (1, .aload_n 1, 1), (2, .iload_n 2, 1), (3, .iload_n 3, 1), (4, .invokevirtual 385, 3), (7, .istore 4, 2), (9, .aload_n 1, 1), (10, .iconst 2, 1), (11, .iload_n 2, 1), (12, .imul, 1), (13, .iload 4, 2), (15, .iastore, 1), (16, .aload_n 1, 1), (17, .bipush 12, 2), (19, .aload_n 0, 1), (20, .iload_n 2, 1), (21, .iconst 5, 1), (22, .invokevirtual 338, 3), (25, .iadd, 1), (26, .dup2, 1), (27, .iaload, 1), (28, .iconst 1, 1), (29, .iload 4, 2), (31, .ishl, 1), (32, .ior, 1), (33, .iastore, 1), (34, .aload_n 0, 1), (35, .aload_n 1, 1), (36, .iload_n 2, 1), (37, .iload 4, 2), (39, .invokevirtual 382, 3), (42, .istore 5, 2), (44, .aload_n 1, 1), (45, .iload_n 2, 1), (46, .iload 4, 2), (48, .iload 5, 2), (50, .invokestatic 388, 3), (53, .iload 5, 2), (55, .ireturn, 1)]
def m_R_goes : AM := (12, ⟨"HeathForksModel", "goes", "([III)I"⟩, prog_14_method_64_code, tb_R_goes, 6, some .int, 92)
theorem tk_R_goes : tabOk prog_14_method_64_code tb_R_goes := by unfold tabOk; decide +kernel
set_option maxRecDepth 20000 in
theorem bb0_R_goes : cB m_R_goes 3 := ⟨(gwt1 13 rfl rfl), (gwt8 77 rfl rfl), ⟨by decide, by decide⟩, by decide +kernel, by decide⟩
theorem bb_R_goes : cB m_R_goes 3 := bb0_R_goes
set_option maxRecDepth 20000 in
theorem vv_R_goes : cV m_R_goes := ⟨(gwt8 76 rfl rfl), (gw_p 87 rfl rfl)⟩
def tb_R_go : List (Nat × Instr × Nat) := [(0, .aload_n 0, 1), (1, .iconst 0, 1), (2, .putfield 102, 3), (5, .aload_n 0, 1), (6, .aload_n 0, 1), (7, .getfield 73, 3), (10, .iload_n 1, 1), (11, .iload_n 2, 1), (12, .invokevirtual 385, 3), (15, .iconst (-1), 1), (16, .if_icmp .ne 5, 3), (19, .iconst (-1), 1), (20, .ireturn, 1), (21, .aload_n 0, 1), (22, .invokevirtual 392, 3), (25, .aload_n 0, 1), (26, .aload_n 0, 1), (27, .getfield 73, 3), (30, .iload_n 1, 1), (31, .iload_n 2, 1), (32, .invokevirtual 395, 3), (35, .ireturn, 1)]
def m_R_go : AM := (12, ⟨"HeathForksModel", "go", "(II)I"⟩, prog_14_method_65_code, tb_R_go, 3, some .int, 93)
theorem tk_R_go : tabOk prog_14_method_65_code tb_R_go := by unfold tabOk; decide +kernel
set_option maxRecDepth 20000 in
theorem bb0_R_go : cB m_R_go 2 := ⟨(gwt1 13 rfl rfl), (gwt8 65 rfl rfl), ⟨by decide, by decide⟩, by decide +kernel, by decide⟩
theorem bb_R_go : cB m_R_go 2 := bb0_R_go
set_option maxRecDepth 20000 in
theorem vv_R_go : cV m_R_go := ⟨(gwt8 63 rfl rfl), (gwt8 64 rfl rfl)⟩
def tb_R_sunkTo : List (Nat × Instr × Nat) := [(0, .aload_n 0, 1), (1, .iload_n 1, 1), (2, .iload_n 2, 1), (3, .invokevirtual 362, 3), (6, .istore_n 3, 1), (7, .iload_n 3, 1), (8, .iconst (-1), 1), (9, .if_icmp .ne 8, 3), (12, .bipush 60, 2), (14, .goto 9, 3), (17, .bipush 60, 2), (19, .iload_n 3, 1), (20, .invokestatic 356, 3), (23, .ireturn, 1)]
def m_R_sunkTo : AM := (12, ⟨"HeathForksModel", "sunkTo", "(II)I"⟩, prog_14_method_66_code, tb_R_sunkTo, 4, some .int, 4)
theorem tk_R_sunkTo : tabOk prog_14_method_66_code tb_R_sunkTo := by unfold tabOk; decide +kernel
set_option maxRecDepth 20000 in
theorem bb0_R_sunkTo : cB m_R_sunkTo 2 := ⟨(gwt1 13 rfl rfl), (gwt8 92 rfl rfl), ⟨by decide, by decide⟩, by decide +kernel, by decide⟩
theorem bb_R_sunkTo : cB m_R_sunkTo 2 := bb0_R_sunkTo
set_option maxRecDepth 20000 in
theorem vv_R_sunkTo : cV m_R_sunkTo := ⟨(gwt8 91 rfl rfl), (gw_p 89 rfl rfl)⟩
def tb_R_footAt : List (Nat × Instr × Nat) := [(0, .aload_n 0, 1), (1, .getfield 37, 3), (4, .iconst 3, 1), (5, .iaload, 1), (6, .aload_n 0, 1), (7, .getfield 55, 3), (10, .aload_n 0, 1), (11, .getfield 325, 3), (14, .iload_n 1, 1), (15, .iconst 0, 1), (16, .invokestatic 358, 3), (19, .iadd, 1), (20, .ireturn, 1)]
def m_R_footAt : AM := (12, ⟨"HeathForksModel", "footAt", "(I)I"⟩, prog_14_method_54_code, tb_R_footAt, 2, some .int, 1)
theorem tk_R_footAt : tabOk prog_14_method_54_code tb_R_footAt := by unfold tabOk; decide +kernel
set_option maxRecDepth 20000 in
theorem bb0_R_footAt : cB m_R_footAt 1 := ⟨(gwt1 13 rfl rfl), (gwt8 96 rfl rfl), ⟨by decide, by decide⟩, by decide +kernel, by decide⟩
theorem bb_R_footAt : cB m_R_footAt 1 := bb0_R_footAt
set_option maxRecDepth 20000 in
theorem vv_R_footAt : cV m_R_footAt := ⟨(gwt8 95 rfl rfl), (gw_p 90 rfl rfl)⟩
def tb_R_costOf : List (Nat × Instr × Nat) := [(0, .aload_n 0, 1), (1, .iload_n 1, 1), (2, .iload_n 2, 1), (3, .invokevirtual 398, 3), (6, .aload_n 0, 1), (7, .iload_n 1, 1), (8, .invokevirtual 401, 3), (11, .imul, 1), (12, .ireturn, 1)]
def m_R_costOf : AM := (12, ⟨"HeathForksModel", "costOf", "(II)I"⟩, prog_14_method_67_code, tb_R_costOf, 3, some .int, 5)
theorem tk_R_costOf : tabOk prog_14_method_67_code tb_R_costOf := by unfold tabOk; decide +kernel
set_option maxRecDepth 20000 in
theorem bb0_R_costOf : cB m_R_costOf 2 := ⟨(gwt1 13 rfl rfl), (gwt8 88 rfl rfl), ⟨by decide, by decide⟩, by decide +kernel, by decide⟩
theorem bb_R_costOf : cB m_R_costOf 2 := bb0_R_costOf
set_option maxRecDepth 20000 in
theorem vv_R_costOf : cV m_R_costOf := ⟨(gwt8 87 rfl rfl), (gw_p 88 rfl rfl)⟩
def tb_R_hasTwitched : List (Nat × Instr × Nat) := [(0, .iconst 0, 1), (1, .istore_n 3, 1), (2, .iload_n 3, 1), (3, .aload_n 0, 1), (4, .getfield 73, 3), (7, .bipush 46, 2), (9, .iaload, 1), (10, .if_icmp .ge 55, 3), (13, .bipush 47, 2), (15, .iconst 3, 1), (16, .iload_n 3, 1), (17, .imul, 1), (18, .iadd, 1), (19, .istore 4, 2), (21, .aload_n 0, 1), (22, .getfield 73, 3), (25, .iload 4, 2), (27, .iaload, 1), (28, .iload_n 1, 1), (29, .if_icmp .ne 30, 3), (32, .aload_n 0, 1), (33, .getfield 73, 3), (36, .iload 4, 2), (38, .iconst 1, 1), (39, .iadd, 1), (40, .iaload, 1), (41, .iload_n 2, 1), (42, .if_icmp .ne 17, 3), (45, .aload_n 0, 1), (46, .getfield 73, 3), (49, .iload 4, 2), (51, .iconst 2, 1), (52, .iadd, 1), (53, .iaload, 1), (54, .ifCond .le 5, 3), (57, .iconst 1, 1), (58, .ireturn, 1), (59, .iinc 3 1, 3), (62, .goto (-60), 3), (65, .iconst 0, 1), (66, .ireturn, 1)]
def m_R_hasTwitched : AM := (12, ⟨"HeathForksModel", "hasTwitched", "(II)Z"⟩, prog_14_method_68_code, tb_R_hasTwitched, 5, some .boolean, 0)
theorem tk_R_hasTwitched : tabOk prog_14_method_68_code tb_R_hasTwitched := by unfold tabOk; decide +kernel
set_option maxRecDepth 20000 in
theorem bb0_R_hasTwitched : cB m_R_hasTwitched 2 := ⟨(gwt1 13 rfl rfl), (gwt8 100 rfl rfl), ⟨by decide, by decide⟩, by decide +kernel, by decide⟩
theorem bb_R_hasTwitched : cB m_R_hasTwitched 2 := bb0_R_hasTwitched
set_option maxRecDepth 20000 in
theorem vv_R_hasTwitched : cV m_R_hasTwitched := ⟨(gwt8 99 rfl rfl), (gw_p 91 rfl rfl)⟩
def tb_R_sink : List (Nat × Instr × Nat) := [(0, .aload_n 0, 1), (1, .iconst 0, 1), (2, .putfield 102, 3), (5, .aload_n 0, 1), (6, .iload_n 1, 1), (7, .invokevirtual 372, 3), (10, .ifCond .eq 15, 3), (13, .aload_n 0, 1), (14, .getfield 73, 3), (17, .bipush 14, 2), (19, .iload_n 1, 1), (20, .iadd, 1), (21, .iaload, 1), (22, .ifCond .le 5, 3), (25, .iconst (-1), 1), (26, .ireturn, 1), (27, .aload_n 0, 1), (28, .invokevirtual 392, 3), (31, .aload_n 0, 1), (32, .iload_n 1, 1), (33, .aload_n 0, 1), (34, .getfield 73, 3), (37, .bipush 45, 2), (39, .iaload, 1), (40, .invokevirtual 404, 3), (43, .istore_n 2, 1), (44, .aload_n 0, 1), (45, .iload_n 1, 1), (46, .aload_n 0, 1), (47, .getfield 73, 3), (50, .bipush 45, 2), (52, .iaload, 1), (53, .invokevirtual 362, 3), (56, .istore_n 3, 1), (57, .aload_n 0, 1), (58, .getfield 73, 3), (61, .bipush 14, 2), (63, .iload_n 1, 1), (64, .iadd, 1), (65, .aload_n 0, 1), (66, .iload_n 1, 1), (67, .aload_n 0, 1), (68, .getfield 73, 3), (71, .bipush 45, 2), (73, .iaload, 1), (74, .invokevirtual 398, 3), (77, .iastore, 1), (78, .aload_n 0, 1), (79, .getfield 73, 3), (82, .bipush 44, 2), (84, .dup2, 1), (85, .iaload, 1), (86, .iload_n 2, 1), (87, .iadd, 1), (88, .iastore, 1), (89, .iconst 0, 1), (90, .istore 4, 2), (92, .iconst 0, 1), (93, .istore 5, 2), (95, .iload 5, 2), (97, .aload_n 0, 1), (98, .getfield 328, 3), (101, .if_icmp .ge 29, 3), (104, .iload 4, 2), (106, .aload_n 0, 1), (107, .iload 5, 2), (109, .iload_n 1, 1), (110, .invokevirtual 407, 3), (113, .ifCond .eq 7, 3), (116, .iconst 1, 1), (117, .goto 4, 3), (120, .iconst 0, 1), (121, .iadd, 1), (122, .istore 4, 2), (124, .iinc 5 1, 3), (127, .goto (-32), 3), (130, .iload_n 3, 1), (131, .iconst (-1), 1), (132, .if_icmp .eq 14, 3), (135, .iload_n 3, 1), (136, .bipush 60, 2), (138, .if_icmp .gt 8, 3), (141, .iload 4, 2), (143, .ifCond .ne 5, 3), (146, .iload_n 2, 1), (147, .ireturn, 1), (148, .iconst 0, 1), (149, .istore 5, 2), (151, .iload 5, 2), (153, .aload_n 0, 1), (154, .getfield 328, 3), (157, .if_icmp .ge 44, 3), (160, .aload_n 0, 1), (161, .getfield 73, 3), (164, .iconst 2, 1), (165, .iload 5, 2), (167, .imul, 1), (168, .iconst 1, 1), (169, .iadd, 1), (170, .dup2, 1), (171, .iaload, 1), (172, .aload_n 0, 1), (173, .iload 5, 2), (175, .iload_n 1, 1), (176, .invokevirtual 407, 3), (179, .ifCond .eq 13, 3), (182, .iload_n 2, 1), (183, .bipush 10, 2), (185, .idiv, 1), (186, .iload 4, 2), (188, .idiv, 1), (189, .goto 4, 3), (192, .iconst 0, 1), (193, .iadd, 1), (194, .iastore, 1), (195, .iinc 5 1, 3), (198, .goto (-47), 3), (201, .iload_n 2, 1), (202, .ireturn, 1)]
def m_R_sink : AM := (12, ⟨"HeathForksModel", "sink", "(I)I"⟩, prog_14_method_69_code, tb_R_sink, 6, some .int, 6)
theorem tk_R_sink : tabOk prog_14_method_69_code tb_R_sink := by unfold tabOk; decide +kernel
set_option maxRecDepth 20000 in
theorem bb0_R_sink : cB m_R_sink 1 := ⟨(gwt1 13 rfl rfl), (gwt8 84 rfl rfl), ⟨by decide, by decide⟩, by decide +kernel, by decide⟩
theorem bb_R_sink : cB m_R_sink 1 := bb0_R_sink
set_option maxRecDepth 20000 in
theorem vv_R_sink : cV m_R_sink := ⟨(gwt8 82 rfl rfl), (gwt8 83 rfl rfl)⟩
def tb_R_season : List (Nat × Instr × Nat) := [(0, .aload_n 0, 1), (1, .iconst 0, 1), (2, .putfield 102, 3), (5, .aload_n 0, 1), (6, .getfield 335, 3), (9, .ifCond .ne 5, 3), (12, .iconst (-1), 1), (13, .ireturn, 1), (14, .aload_n 0, 1), (15, .invokevirtual 392, 3), (18, .aload_n 0, 1), (19, .getfield 73, 3), (22, .bipush 45, 2), (24, .aload_n 0, 1), (25, .getfield 73, 3), (28, .bipush 45, 2), (30, .iaload, 1), (31, .iconst 1, 1), (32, .iadd, 1), (33, .iconst 4, 1), (34, .irem, 1), (35, .iastore, 1), (36, .aload_n 0, 1), (37, .getfield 73, 3), (40, .bipush 45, 2), (42, .iaload, 1), (43, .ireturn, 1)]
def m_R_season : AM := (12, ⟨"HeathForksModel", "season", "()I"⟩, prog_14_method_70_code, tb_R_season, 1, some .int, 1)
theorem tk_R_season : tabOk prog_14_method_70_code tb_R_season := by unfold tabOk; decide +kernel
set_option maxRecDepth 20000 in
theorem bb0_R_season : cB m_R_season 0 := ⟨(gwt1 13 rfl rfl), (gwt8 104 rfl rfl), ⟨by decide, by decide⟩, by decide +kernel, by decide⟩
theorem bb_R_season : cB m_R_season 0 := bb0_R_season
set_option maxRecDepth 20000 in
theorem vv_R_season : cV m_R_season := ⟨(gwt8 102 rfl rfl), (gwt8 103 rfl rfl)⟩
def tb_R_draw : List (Nat × Instr × Nat) := [(0, .aload_n 0, 1), (1, .aload_n 0, 1), (2, .getfield 410, 3), (5, .ldc2_w 414, 3), (8, .lmul, 1), (9, .ldc2_w 416, 3), (12, .ladd, 1), (13, .putfield 410, 3), (16, .aload_n 0, 1), (17, .getfield 410, 3), (20, .bipush 33, 2), (22, .lushr, 1), (23, .iload_n 1, 1), (24, .i2l, 1), (25, .lrem, 1), (26, .l2i, 1), (27, .ireturn, 1)]
def m_R_draw : AM := (12, ⟨"HeathForksModel", "draw", "(I)I"⟩, prog_14_method_71_code, tb_R_draw, 2, some .int, 0)
theorem tk_R_draw : tabOk prog_14_method_71_code tb_R_draw := by unfold tabOk; decide +kernel
set_option maxRecDepth 20000 in
theorem bb0_R_draw : cB m_R_draw 1 := ⟨(gwt1 13 rfl rfl), (gwt8 113 rfl rfl), ⟨by decide, by decide⟩, by decide +kernel, by decide⟩
theorem bb_R_draw : cB m_R_draw 1 := bb0_R_draw
set_option maxRecDepth 20000 in
theorem vv_R_draw : cV m_R_draw := ⟨(gwt8 112 rfl rfl), (gw_p 92 rfl rfl)⟩
def tb_R_stroll : List (Nat × Instr × Nat) := [(0, .aload_n 0, 1), (1, .iconst 0, 1), (2, .putfield 102, 3), (5, .aload_n 0, 1), (6, .getfield 335, 3), (9, .ifCond .eq 15, 3), (12, .iload_n 1, 1), (13, .i2l, 1), (14, .lconst 1, 1), (15, .ldc2_w 418, 3), (18, .invokestatic 223, 3), (21, .ifCond .ne 5, 3), (24, .iconst (-1), 1), (25, .ireturn, 1), (26, .aload_n 0, 1), (27, .lload_n 2, 1), (28, .putfield 410, 3), (31, .iconst 0, 1), (32, .istore 4, 2), (34, .iconst 0, 1), (35, .istore 5, 2), (37, .iload 5, 2), (39, .iload_n 1, 1), (40, .if_icmp .ge 109, 3), (43, .aload_n 0, 1), (44, .aload_n 0, 1), (45, .getfield 328, 3), (48, .invokevirtual 420, 3), (51, .istore 6, 2), (53, .aload_n 0, 1), (54, .iconst 4, 1), (55, .invokevirtual 420, 3), (58, .istore 7, 2), (60, .aload_n 0, 1), (61, .aload_n 0, 1), (62, .getfield 73, 3), (65, .iload 6, 2), (67, .iload 7, 2), (69, .invokevirtual 385, 3), (72, .iconst (-1), 1), (73, .if_icmp .ne 6, 3), (76, .goto 67, 3), (79, .aload_n 0, 1), (80, .invokevirtual 392, 3), (83, .aload_n 0, 1), (84, .aload_n 0, 1), (85, .getfield 73, 3), (88, .iload 6, 2), (90, .iload 7, 2), (92, .invokevirtual 395, 3), (95, .istore 8, 2), (97, .aload_n 0, 1), (98, .bipush 10, 2), (100, .invokevirtual 420, 3), (103, .aload_n 0, 1), (104, .iload 6, 2), (106, .iconst 4, 1), (107, .invokevirtual 338, 3), (110, .if_icmp .ge 30, 3), (113, .aload_n 0, 1), (114, .getfield 73, 3), (117, .bipush 46, 2), (119, .iconst 3, 1), (120, .aload_n 0, 1), (121, .getfield 73, 3), (124, .bipush 46, 2), (126, .iaload, 1), (127, .imul, 1), (128, .iadd, 1), (129, .iload 8, 2), (131, .ifCond .le 7, 3), (134, .iconst 0, 1), (135, .goto 4, 3), (138, .iconst 1, 1), (139, .iastore, 1), (140, .iinc 4 1, 3), (143, .iinc 5 1, 3), (146, .goto (-109), 3), (149, .iload 4, 2), (151, .ireturn, 1)]
def m_R_stroll : AM := (12, ⟨"HeathForksModel", "stroll", "(IJ)I"⟩, prog_14_method_72_code, tb_R_stroll, 9, some .int, 93)
theorem tk_R_stroll : tabOk prog_14_method_72_code tb_R_stroll := by unfold tabOk; decide +kernel
set_option maxRecDepth 20000 in
theorem bb0_R_stroll : cB m_R_stroll 2 := ⟨(gwt1 13 rfl rfl), (gwt8 108 rfl rfl), ⟨by decide, by decide⟩, by decide +kernel, by decide⟩
theorem bb_R_stroll : cB m_R_stroll 2 := bb0_R_stroll
set_option maxRecDepth 20000 in
theorem vv_R_stroll : cV m_R_stroll := ⟨(gwt8 106 rfl rfl), (gwt8 107 rfl rfl)⟩
def tb_R_undo : List (Nat × Instr × Nat) := [(0, .aload_n 0, 1), (1, .iconst 0, 1), (2, .putfield 102, 3), (5, .aload_n 0, 1), (6, .getfield 344, 3), (9, .ifCond .ne 5, 3), (12, .iconst (-1), 1), (13, .ireturn, 1), (14, .aload_n 0, 1), (15, .dup, 1), (16, .getfield 344, 3), (19, .iconst 1, 1), (20, .isub, 1), (21, .putfield 344, 3), (24, .iconst 0, 1), (25, .istore_n 1, 1), (26, .iload_n 1, 1), (27, .sipush 227, 3), (30, .if_icmp .ge 30, 3), (33, .aload_n 0, 1), (34, .getfield 73, 3), (37, .iload_n 1, 1), (38, .aload_n 0, 1), (39, .getfield 83, 3), (42, .sipush 227, 3), (45, .aload_n 0, 1), (46, .getfield 344, 3), (49, .imul, 1), (50, .iload_n 1, 1), (51, .iadd, 1), (52, .iaload, 1), (53, .iastore, 1), (54, .iinc 1 1, 3), (57, .goto (-31), 3), (60, .aload_n 0, 1), (61, .getfield 344, 3), (64, .ireturn, 1)]
def m_R_undo : AM := (12, ⟨"HeathForksModel", "undo", "()I"⟩, prog_14_method_73_code, tb_R_undo, 2, some .int, 0)
theorem tk_R_undo : tabOk prog_14_method_73_code tb_R_undo := by unfold tabOk; decide +kernel
set_option maxRecDepth 20000 in
theorem bb0_R_undo : cB m_R_undo 0 := ⟨(gwt1 13 rfl rfl), (gwt8 119 rfl rfl), ⟨by decide, by decide⟩, by decide +kernel, by decide⟩
theorem bb_R_undo : cB m_R_undo 0 := bb0_R_undo
set_option maxRecDepth 20000 in
theorem vv_R_undo : cV m_R_undo := ⟨(gwt8 117 rfl rfl), (gwt8 118 rfl rfl)⟩
def tb_R_book : List (Nat × Instr × Nat) := [(0, .aload_n 0, 1), (1, .iconst 0, 1), (2, .putfield 102, 3), (5, .iload_n 1, 1), (6, .i2l, 1), (7, .lconst 0, 1), (8, .aload_n 0, 1), (9, .getfield 73, 3), (12, .bipush 46, 2), (14, .iaload, 1), (15, .iconst 1, 1), (16, .isub, 1), (17, .i2l, 1), (18, .invokestatic 223, 3), (21, .ifCond .eq 41, 3), (24, .iload_n 2, 1), (25, .i2l, 1), (26, .lconst 0, 1), (27, .ldc2_w 300, 3), (30, .invokestatic 223, 3), (33, .ifCond .eq 29, 3), (36, .aload_n 0, 1), (37, .getfield 73, 3), (40, .bipush 47, 2), (42, .iconst 3, 1), (43, .aload_n 0, 1), (44, .getfield 73, 3), (47, .bipush 46, 2), (49, .iaload, 1), (50, .iconst 1, 1), (51, .isub, 1), (52, .iload_n 1, 1), (53, .isub, 1), (54, .imul, 1), (55, .iadd, 1), (56, .iload_n 2, 1), (57, .iadd, 1), (58, .iaload, 1), (59, .goto 4, 3), (62, .iconst (-1), 1), (63, .ireturn, 1)]
def m_R_book : AM := (12, ⟨"HeathForksModel", "book", "(II)I"⟩, prog_14_method_74_code, tb_R_book, 3, some .int, 1)
theorem tk_R_book : tabOk prog_14_method_74_code tb_R_book := by unfold tabOk; decide +kernel
set_option maxRecDepth 20000 in
theorem bb0_R_book : cB m_R_book 2 := ⟨(gwt1 13 rfl rfl), (gwt8 123 rfl rfl), ⟨by decide, by decide⟩, by decide +kernel, by decide⟩
theorem bb_R_book : cB m_R_book 2 := bb0_R_book
set_option maxRecDepth 20000 in
theorem vv_R_book : cV m_R_book := ⟨(gwt8 121 rfl rfl), (gwt8 122 rfl rfl)⟩
def tb_R_isWalk : List (Nat × Instr × Nat) := [(0, .iload_n 1, 1), (1, .ifCond .lt 15, 3), (4, .iload_n 1, 1), (5, .aload_n 0, 1), (6, .getfield 314, 3), (9, .if_icmp .ge 7, 3), (12, .iconst 1, 1), (13, .goto 4, 3), (16, .iconst 0, 1), (17, .ireturn, 1)]
def m_R_isWalk : AM := (12, ⟨"HeathForksModel", "isWalk", "(I)Z"⟩, prog_14_method_75_code, tb_R_isWalk, 2, some .boolean, 0)
theorem tk_R_isWalk : tabOk prog_14_method_75_code tb_R_isWalk := by unfold tabOk; decide +kernel
set_option maxRecDepth 20000 in
theorem bb0_R_isWalk : cB m_R_isWalk 1 := ⟨(gwt1 13 rfl rfl), (gwt8 131 rfl rfl), ⟨by decide, by decide⟩, by decide +kernel, by decide⟩
theorem bb_R_isWalk : cB m_R_isWalk 1 := bb0_R_isWalk
set_option maxRecDepth 20000 in
theorem vv_R_isWalk : cV m_R_isWalk := ⟨(gwt8 130 rfl rfl), (gw_p 93 rfl rfl)⟩
def tb_R_step : List (Nat × Instr × Nat) := [(0, .aload_n 0, 1), (1, .iconst 0, 1), (2, .putfield 102, 3), (5, .aload_n 0, 1), (6, .iload_n 1, 1), (7, .invokevirtual 423, 3), (10, .ifCond .eq 49, 3), (13, .iload_n 2, 1), (14, .i2l, 1), (15, .lconst 0, 1), (16, .aload_n 0, 1), (17, .getfield 70, 3), (20, .iload_n 1, 1), (21, .iaload, 1), (22, .iconst 1, 1), (23, .isub, 1), (24, .i2l, 1), (25, .invokestatic 223, 3), (28, .ifCond .eq 31, 3), (31, .iload_n 3, 1), (32, .i2l, 1), (33, .lconst 0, 1), (34, .lconst 1, 1), (35, .invokestatic 223, 3), (38, .ifCond .eq 21, 3), (41, .aload_n 0, 1), (42, .getfield 67, 3), (45, .iconst 2, 1), (46, .bipush 64, 2), (48, .iload_n 1, 1), (49, .imul, 1), (50, .iload_n 2, 1), (51, .iadd, 1), (52, .imul, 1), (53, .iload_n 3, 1), (54, .iadd, 1), (55, .iaload, 1), (56, .goto 4, 3), (59, .iconst (-1), 1), (60, .ireturn, 1)]
def m_R_step : AM := (12, ⟨"HeathForksModel", "step", "(III)I"⟩, prog_14_method_76_code, tb_R_step, 4, some .int, 1)
theorem tk_R_step : tabOk prog_14_method_76_code tb_R_step := by unfold tabOk; decide +kernel
set_option maxRecDepth 20000 in
theorem bb0_R_step : cB m_R_step 3 := ⟨(gwt1 13 rfl rfl), (gwt8 127 rfl rfl), ⟨by decide, by decide⟩, by decide +kernel, by decide⟩
theorem bb_R_step : cB m_R_step 3 := bb0_R_step
set_option maxRecDepth 20000 in
theorem vv_R_step : cV m_R_step := ⟨(gwt8 125 rfl rfl), (gwt8 126 rfl rfl)⟩
def tb_R_run : List (Nat × Instr × Nat) := [(0, .aload_n 0, 1), (1, .iconst 0, 1), (2, .putfield 102, 3), (5, .aload_n 0, 1), (6, .iload_n 1, 1), (7, .invokevirtual 423, 3), (10, .ifCond .eq 20, 3), (13, .aload_n 0, 1), (14, .getfield 335, 3), (17, .ifCond .eq 13, 3), (20, .iload_n 2, 1), (21, .i2l, 1), (22, .lconst 0, 1), (23, .lconst 1, 1), (24, .invokestatic 223, 3), (27, .ifCond .ne 7, 3), (30, .ldc_w 426, 3), (33, .ireturn, 1), (34, .aload_n 0, 1), (35, .getfield 73, 3), (38, .aload_n 0, 1), (39, .getfield 76, 3), (42, .invokestatic 331, 3), (45, .iconst 0, 1), (46, .istore_n 3, 1), (47, .iconst 0, 1), (48, .istore 4, 2), (50, .iload_n 3, 1), (51, .aload_n 0, 1), (52, .getfield 70, 3), (55, .iload_n 1, 1), (56, .iaload, 1), (57, .if_icmp .ge 90, 3), (60, .aload_n 0, 1), (61, .aload_n 0, 1), (62, .getfield 76, 3), (65, .aload_n 0, 1), (66, .getfield 67, 3), (69, .iconst 2, 1), (70, .bipush 64, 2), (72, .iload_n 1, 1), (73, .imul, 1), (74, .iload_n 3, 1), (75, .iadd, 1), (76, .imul, 1), (77, .iaload, 1), (78, .aload_n 0, 1), (79, .getfield 67, 3), (82, .iconst 2, 1), (83, .bipush 64, 2), (85, .iload_n 1, 1), (86, .imul, 1), (87, .iload_n 3, 1), (88, .iadd, 1), (89, .imul, 1), (90, .iconst 1, 1), (91, .iadd, 1), (92, .iaload, 1), (93, .invokevirtual 385, 3), (96, .iconst (-1), 1), (97, .if_icmp .eq 50, 3), (100, .iload 4, 2), (102, .aload_n 0, 1), (103, .aload_n 0, 1), (104, .getfield 76, 3), (107, .aload_n 0, 1), (108, .getfield 67, 3), (111, .iconst 2, 1), (112, .bipush 64, 2), (114, .iload_n 1, 1), (115, .imul, 1), (116, .iload_n 3, 1), (117, .iadd, 1), (118, .imul, 1), (119, .iaload, 1), (120, .aload_n 0, 1), (121, .getfield 67, 3), (124, .iconst 2, 1), (125, .bipush 64, 2), (127, .iload_n 1, 1), (128, .imul, 1), (129, .iload_n 3, 1), (130, .iadd, 1), (131, .imul, 1), (132, .iconst 1, 1), (133, .iadd, 1), (134, .iaload, 1), (135, .invokevirtual 395, 3), (138, .iadd, 1), (139, .istore 4, 2), (141, .iinc 3 1, 3), (144, .goto (-94), 3), (147, .iload_n 2, 1), (148, .iconst 1, 1), (149, .if_icmp .ne 6, 3), (152, .iload 4, 2), (154, .ireturn, 1), (155, .iload_n 3, 1), (156, .aload_n 0, 1), (157, .getfield 70, 3), (160, .iload_n 1, 1), (161, .iaload, 1), (162, .if_icmp .ne 7, 3), (165, .iconst (-1), 1), (166, .goto 4, 3), (169, .iload_n 3, 1), (170, .ireturn, 1)]
def m_R_run : AM := (12, ⟨"HeathForksModel", "run", "(II)I"⟩, prog_14_method_77_code, tb_R_run, 5, some .int, 93)
theorem tk_R_run : tabOk prog_14_method_77_code tb_R_run := by unfold tabOk; decide +kernel
set_option maxRecDepth 20000 in
theorem bb0_R_run : cB m_R_run 2 := ⟨(gwt1 13 rfl rfl), (gwt8 135 rfl rfl), ⟨by decide, by decide⟩, by decide +kernel, by decide⟩
theorem bb_R_run : cB m_R_run 2 := bb0_R_run
set_option maxRecDepth 20000 in
theorem vv_R_run : cV m_R_run := ⟨(gwt8 133 rfl rfl), (gwt8 134 rfl rfl)⟩
def tb_R_perform : List (Nat × Instr × Nat) := [(0, .aload_n 0, 1), (1, .iconst 0, 1), (2, .putfield 102, 3), (5, .aload_n 0, 1), (6, .iload_n 1, 1), (7, .invokevirtual 423, 3), (10, .ifCond .eq 10, 3), (13, .aload_n 0, 1), (14, .getfield 335, 3), (17, .ifCond .ne 5, 3), (20, .iconst (-1), 1), (21, .ireturn, 1), (22, .iconst 0, 1), (23, .istore_n 2, 1), (24, .iload_n 2, 1), (25, .aload_n 0, 1), (26, .getfield 70, 3), (29, .iload_n 1, 1), (30, .iaload, 1), (31, .if_icmp .ge 90, 3), (34, .aload_n 0, 1), (35, .aload_n 0, 1), (36, .getfield 73, 3), (39, .aload_n 0, 1), (40, .getfield 67, 3), (43, .iconst 2, 1), (44, .bipush 64, 2), (46, .iload_n 1, 1), (47, .imul, 1), (48, .iload_n 2, 1), (49, .iadd, 1), (50, .imul, 1), (51, .iaload, 1), (52, .aload_n 0, 1), (53, .getfield 67, 3), (56, .iconst 2, 1), (57, .bipush 64, 2), (59, .iload_n 1, 1), (60, .imul, 1), (61, .iload_n 2, 1), (62, .iadd, 1), (63, .imul, 1), (64, .iconst 1, 1), (65, .iadd, 1), (66, .iaload, 1), (67, .invokevirtual 385, 3), (70, .iconst (-1), 1), (71, .if_icmp .eq 50, 3), (74, .aload_n 0, 1), (75, .invokevirtual 392, 3), (78, .aload_n 0, 1), (79, .aload_n 0, 1), (80, .getfield 73, 3), (83, .aload_n 0, 1), (84, .getfield 67, 3), (87, .iconst 2, 1), (88, .bipush 64, 2), (90, .iload_n 1, 1), (91, .imul, 1), (92, .iload_n 2, 1), (93, .iadd, 1), (94, .imul, 1), (95, .iaload, 1), (96, .aload_n 0, 1), (97, .getfield 67, 3), (100, .iconst 2, 1), (101, .bipush 64, 2), (103, .iload_n 1, 1), (104, .imul, 1), (105, .iload_n 2, 1), (106, .iadd, 1), (107, .imul, 1), (108, .iconst 1, 1), (109, .iadd, 1), (110, .iaload, 1), (111, .invokevirtual 395, 3), (114, .istore_n 3, 1), (115, .iinc 2 1, 3), (118, .goto (-94), 3), (121, .iload_n 2, 1), (122, .ireturn, 1)]
def m_R_perform : AM := (12, ⟨"HeathForksModel", "perform", "(I)I"⟩, prog_14_method_78_code, tb_R_perform, 4, some .int, 93)
theorem tk_R_perform : tabOk prog_14_method_78_code tb_R_perform := by unfold tabOk; decide +kernel
set_option maxRecDepth 20000 in
theorem bb0_R_perform : cB m_R_perform 1 := ⟨(gwt1 13 rfl rfl), (gwt8 140 rfl rfl), ⟨by decide, by decide⟩, by decide +kernel, by decide⟩
theorem bb_R_perform : cB m_R_perform 1 := bb0_R_perform
set_option maxRecDepth 20000 in
theorem vv_R_perform : cV m_R_perform := ⟨(gwt8 138 rfl rfl), (gwt8 139 rfl rfl)⟩
def tb_R_bringsOf : List (Nat × Instr × Nat) := [(0, .aload_n 0, 1), (1, .iload_n 2, 1), (2, .iload_n 3, 1), (3, .invokevirtual 362, 3), (6, .istore 4, 2), (8, .iload 4, 2), (10, .iconst (-1), 1), (11, .if_icmp .eq 14, 3), (14, .iload 4, 2), (16, .aload_n 1, 1), (17, .bipush 14, 2), (19, .iload_n 2, 1), (20, .iadd, 1), (21, .iaload, 1), (22, .if_icmp .le 5, 3), (25, .iconst 0, 1), (26, .ireturn, 1), (27, .bipush 10, 2), (29, .iload 4, 2), (31, .bipush 10, 2), (33, .idiv, 1), (34, .isub, 1), (35, .istore 5, 2), (37, .iconst 0, 1), (38, .istore 6, 2), (40, .iload 6, 2), (42, .iconst 4, 1), (43, .if_icmp .ge 44, 3), (46, .aload_n 0, 1), (47, .iload_n 2, 1), (48, .iload 6, 2), (50, .invokevirtual 350, 3), (53, .istore 7, 2), (55, .iload 5, 2), (57, .iload 7, 2), (59, .iconst (-1), 1), (60, .if_icmp .eq 17, 3), (63, .aload_n 1, 1), (64, .bipush 14, 2), (66, .iload 7, 2), (68, .iadd, 1), (69, .iaload, 1), (70, .ifCond .le 7, 3), (73, .iconst 1, 1), (74, .goto 4, 3), (77, .iconst 0, 1), (78, .isub, 1), (79, .istore 5, 2), (81, .iinc 6 1, 3), (84, .goto (-44), 3), (87, .iconst 0, 1), (88, .iload 5, 2), (90, .invokestatic 368, 3), (93, .ireturn, 1)]
def m_R_bringsOf : AM := (12, ⟨"HeathForksModel", "bringsOf", "([III)I"⟩, prog_14_method_79_code, tb_R_bringsOf, 8, some .int, 4)
theorem tk_R_bringsOf : tabOk prog_14_method_79_code tb_R_bringsOf := by unfold tabOk; decide +kernel
set_option maxRecDepth 20000 in
theorem bb0_R_bringsOf : cB m_R_bringsOf 3 := ⟨(gwt1 13 rfl rfl), (gwt8 152 rfl rfl), ⟨by decide, by decide⟩, by decide +kernel, by decide⟩
theorem bb_R_bringsOf : cB m_R_bringsOf 3 := bb0_R_bringsOf
set_option maxRecDepth 20000 in
theorem vv_R_bringsOf : cV m_R_bringsOf := ⟨(gwt8 151 rfl rfl), (gw_p 95 rfl rfl)⟩
def tb_R_bringsAll : List (Nat × Instr × Nat) := [(0, .iconst 0, 1), (1, .istore_n 3, 1), (2, .iconst 0, 1), (3, .istore 4, 2), (5, .iload 4, 2), (7, .aload_n 0, 1), (8, .getfield 335, 3), (11, .if_icmp .ge 34, 3), (14, .iload_n 3, 1), (15, .aload_n 1, 1), (16, .bipush 14, 2), (18, .iload 4, 2), (20, .iadd, 1), (21, .iaload, 1), (22, .ifCond .le 14, 3), (25, .aload_n 0, 1), (26, .aload_n 1, 1), (27, .iload 4, 2), (29, .iload_n 2, 1), (30, .invokevirtual 427, 3), (33, .goto 4, 3), (36, .iconst 0, 1), (37, .iadd, 1), (38, .istore_n 3, 1), (39, .iinc 4 1, 3), (42, .goto (-37), 3), (45, .iload_n 3, 1), (46, .ireturn, 1)]
def m_R_bringsAll : AM := (12, ⟨"HeathForksModel", "bringsAll", "([II)I"⟩, prog_14_method_80_code, tb_R_bringsAll, 5, some .int, 5)
theorem tk_R_bringsAll : tabOk prog_14_method_80_code tb_R_bringsAll := by unfold tabOk; decide +kernel
set_option maxRecDepth 20000 in
theorem bb0_R_bringsAll : cB m_R_bringsAll 2 := ⟨(gwt1 13 rfl rfl), (gwt8 148 rfl rfl), ⟨by decide, by decide⟩, by decide +kernel, by decide⟩
theorem bb_R_bringsAll : cB m_R_bringsAll 2 := bb0_R_bringsAll
set_option maxRecDepth 20000 in
theorem vv_R_bringsAll : cV m_R_bringsAll := ⟨(gwt8 147 rfl rfl), (gw_p 94 rfl rfl)⟩
def tb_R_brings : List (Nat × Instr × Nat) := [(0, .aload_n 0, 1), (1, .iconst 0, 1), (2, .putfield 102, 3), (5, .aload_n 0, 1), (6, .getfield 335, 3), (9, .ifCond .eq 15, 3), (12, .iload_n 2, 1), (13, .i2l, 1), (14, .lconst 0, 1), (15, .ldc2_w 370, 3), (18, .invokestatic 223, 3), (21, .ifCond .ne 5, 3), (24, .iconst (-1), 1), (25, .ireturn, 1), (26, .iload_n 1, 1), (27, .iconst (-1), 1), (28, .if_icmp .ne 13, 3), (31, .aload_n 0, 1), (32, .aload_n 0, 1), (33, .getfield 73, 3), (36, .iload_n 2, 1), (37, .invokevirtual 430, 3), (40, .ireturn, 1), (41, .aload_n 0, 1), (42, .iload_n 1, 1), (43, .invokevirtual 372, 3), (46, .ifCond .eq 28, 3), (49, .aload_n 0, 1), (50, .getfield 73, 3), (53, .bipush 14, 2), (55, .iload_n 1, 1), (56, .iadd, 1), (57, .iaload, 1), (58, .ifCond .le 16, 3), (61, .aload_n 0, 1), (62, .aload_n 0, 1), (63, .getfield 73, 3), (66, .iload_n 1, 1), (67, .iload_n 2, 1), (68, .invokevirtual 427, 3), (71, .goto 4, 3), (74, .iconst (-1), 1), (75, .ireturn, 1)]
def m_R_brings : AM := (12, ⟨"HeathForksModel", "brings", "(II)I"⟩, prog_14_method_81_code, tb_R_brings, 3, some .int, 6)
theorem tk_R_brings : tabOk prog_14_method_81_code tb_R_brings := by unfold tabOk; decide +kernel
set_option maxRecDepth 20000 in
theorem bb0_R_brings : cB m_R_brings 2 := ⟨(gwt1 13 rfl rfl), (gwt8 144 rfl rfl), ⟨by decide, by decide⟩, by decide +kernel, by decide⟩
theorem bb_R_brings : cB m_R_brings 2 := bb0_R_brings
set_option maxRecDepth 20000 in
theorem vv_R_brings : cV m_R_brings := ⟨(gwt8 142 rfl rfl), (gwt8 143 rfl rfl)⟩
def tb_R_goCheapest : List (Nat × Instr × Nat) := [(0, .aload_n 0, 1), (1, .aload_n 0, 1), (2, .getfield 76, 3), (5, .iconst 2, 1), (6, .invokevirtual 430, 3), (9, .iload_n 1, 1), (10, .if_icmp .lt 90, 3), (13, .iload_n 3, 1), (14, .invokestatic 434, 3), (17, .istore 5, 2), (19, .aload_n 0, 1), (20, .getfield 439, 3), (23, .iconst (-1), 1), (24, .if_icmp .eq 53, 3), (27, .iload 4, 2), (29, .aload_n 0, 1), (30, .getfield 442, 3), (33, .if_icmp .lt 44, 3), (36, .iload 4, 2), (38, .aload_n 0, 1), (39, .getfield 442, 3), (42, .if_icmp .ne 39, 3), (45, .iload 5, 2), (47, .aload_n 0, 1), (48, .getfield 439, 3), (51, .invokestatic 434, 3), (54, .if_icmp .lt 23, 3), (57, .iload 5, 2), (59, .aload_n 0, 1), (60, .getfield 439, 3), (63, .invokestatic 434, 3), (66, .if_icmp .ne 15, 3), (69, .iload_n 3, 1), (70, .aload_n 0, 1), (71, .getfield 439, 3), (74, .if_icmp .ge 7, 3), (77, .iconst 1, 1), (78, .goto 4, 3), (81, .iconst 0, 1), (82, .istore 6, 2), (84, .iload 6, 2), (86, .ifCond .eq 14, 3), (89, .aload_n 0, 1), (90, .iload_n 3, 1), (91, .putfield 439, 3), (94, .aload_n 0, 1), (95, .iload 4, 2), (97, .putfield 442, 3), (100, .iload_n 3, 1), (101, .invokestatic 434, 3), (104, .iconst 3, 1), (105, .if_icmp .ne 4, 3), (108, .return_, 1), (109, .iload_n 2, 1), (110, .istore 5, 2), (112, .iload 5, 2), (114, .aload_n 0, 1), (115, .getfield 335, 3), (118, .if_icmp .ge 95, 3), (121, .aload_n 0, 1), (122, .iload 5, 2), (124, .iconst 2, 1), (125, .invokevirtual 362, 3), (128, .istore 6, 2), (130, .aload_n 0, 1), (131, .getfield 73, 3), (134, .bipush 14, 2), (136, .iload 5, 2), (138, .iadd, 1), (139, .iaload, 1), (140, .ifCond .gt 67, 3), (143, .iload 6, 2), (145, .iconst (-1), 1), (146, .if_icmp .eq 61, 3), (149, .iload 6, 2), (151, .bipush 60, 2), (153, .if_icmp .le 6, 3), (156, .goto 51, 3), (159, .aload_n 0, 1), (160, .getfield 76, 3), (163, .bipush 14, 2), (165, .iload 5, 2), (167, .iadd, 1), (168, .iload 6, 2), (170, .iastore, 1), (171, .aload_n 0, 1), (172, .iload_n 1, 1), (173, .iload 5, 2), (175, .iconst 1, 1), (176, .iadd, 1), (177, .iload_n 3, 1), (178, .iconst 1, 1), (179, .iload 5, 2), (181, .ishl, 1), (182, .ior, 1), (183, .iload 4, 2), (185, .aload_n 0, 1), (186, .iload 5, 2), (188, .iconst 2, 1), (189, .invokevirtual 404, 3), (192, .iadd, 1), (193, .invokevirtual 445, 3), (196, .aload_n 0, 1), (197, .getfield 76, 3), (200, .bipush 14, 2), (202, .iload 5, 2), (204, .iadd, 1), (205, .iconst 0, 1), (206, .iastore, 1), (207, .iinc 5 1, 3), (210, .goto (-98), 3), (213, .return_, 1)]
def m_R_goCheapest (d : Nat) : AM := (12, ⟨"HeathForksModel", "goCheapest", "(IIII)V"⟩, prog_14_method_82_code, tb_R_goCheapest, 7, none, 6 + d)
theorem tk_R_goCheapest : tabOk prog_14_method_82_code tb_R_goCheapest := by unfold tabOk; decide +kernel
set_option maxRecDepth 20000 in
theorem bb0_R_goCheapest : cB (m_R_goCheapest 0) 4 := ⟨(gwt1 13 rfl rfl), (gwt8 161 rfl rfl), ⟨by decide, by decide⟩, by decide +kernel, by decide⟩
theorem bb_R_goCheapest (d : Nat) : cB (m_R_goCheapest d) 4 := bb0_R_goCheapest
set_option maxRecDepth 20000 in
theorem vv_R_goCheapest (d : Nat) : cV (m_R_goCheapest d) := ⟨(gwt8 160 rfl rfl), (gw_p 96 rfl rfl)⟩
def tb_R_cheapest : List (Nat × Instr × Nat) := [(0, .aload_n 0, 1), (1, .iconst 0, 1), (2, .putfield 102, 3), (5, .aload_n 0, 1), (6, .getfield 335, 3), (9, .ifCond .eq 25, 3), (12, .iload_n 1, 1), (13, .i2l, 1), (14, .lconst 1, 1), (15, .ldc2_w 449, 3), (18, .invokestatic 223, 3), (21, .ifCond .eq 13, 3), (24, .iload_n 2, 1), (25, .i2l, 1), (26, .lconst 0, 1), (27, .lconst 1, 1), (28, .invokestatic 223, 3), (31, .ifCond .ne 5, 3), (34, .iconst (-1), 1), (35, .ireturn, 1), (36, .aload_n 0, 1), (37, .getfield 73, 3), (40, .aload_n 0, 1), (41, .getfield 76, 3), (44, .invokestatic 331, 3), (47, .aload_n 0, 1), (48, .iconst (-1), 1), (49, .putfield 439, 3), (52, .aload_n 0, 1), (53, .iconst 0, 1), (54, .putfield 442, 3), (57, .aload_n 0, 1), (58, .iload_n 1, 1), (59, .iconst 0, 1), (60, .iconst 0, 1), (61, .iconst 0, 1), (62, .invokevirtual 445, 3), (65, .aload_n 0, 1), (66, .getfield 439, 3), (69, .iconst (-1), 1), (70, .if_icmp .eq 7, 3), (73, .iload_n 2, 1), (74, .ifCond .ne 10, 3), (77, .aload_n 0, 1), (78, .getfield 439, 3), (81, .goto 7, 3), (84, .aload_n 0, 1), (85, .getfield 442, 3), (88, .ireturn, 1)]
def m_R_cheapest : AM := (12, ⟨"HeathForksModel", "cheapest", "(II)I"⟩, prog_14_method_83_code, tb_R_cheapest, 3, some .int, 15)
theorem tk_R_cheapest : tabOk prog_14_method_83_code tb_R_cheapest := by unfold tabOk; decide +kernel
set_option maxRecDepth 20000 in
theorem bb0_R_cheapest : cB m_R_cheapest 2 := ⟨(gwt1 13 rfl rfl), (gwt8 156 rfl rfl), ⟨by decide, by decide⟩, by decide +kernel, by decide⟩
theorem bb_R_cheapest : cB m_R_cheapest 2 := bb0_R_cheapest
set_option maxRecDepth 20000 in
theorem vv_R_cheapest : cV m_R_cheapest := ⟨(gwt8 154 rfl rfl), (gwt8 155 rfl rfl)⟩
def tb_R_reach : List (Nat × Instr × Nat) := [(0, .aload_n 0, 1), (1, .iconst 0, 1), (2, .putfield 102, 3), (5, .aload_n 0, 1), (6, .iload_n 1, 1), (7, .invokevirtual 377, 3), (10, .ifCond .eq 15, 3), (13, .iload_n 2, 1), (14, .i2l, 1), (15, .lconst 0, 1), (16, .ldc2_w 451, 3), (19, .invokestatic 223, 3), (22, .ifCond .ne 5, 3), (25, .iconst (-1), 1), (26, .ireturn, 1), (27, .iconst 1, 1), (28, .aload_n 0, 1), (29, .getfield 73, 3), (32, .iconst 2, 1), (33, .iload_n 1, 1), (34, .imul, 1), (35, .iaload, 1), (36, .ishl, 1), (37, .istore_n 3, 1), (38, .iconst 0, 1), (39, .istore 4, 2), (41, .iload 4, 2), (43, .iload_n 2, 1), (44, .if_icmp .ge 104, 3), (47, .iload_n 3, 1), (48, .istore 5, 2), (50, .iconst 0, 1), (51, .istore 6, 2), (53, .iload 6, 2), (55, .aload_n 0, 1), (56, .getfield 335, 3), (59, .if_icmp .ge 80, 3), (62, .iconst 0, 1), (63, .istore 7, 2), (65, .iload 7, 2), (67, .iconst 4, 1), (68, .if_icmp .ge 65, 3), (71, .iload_n 3, 1), (72, .iload 6, 2), (74, .invokestatic 235, 3), (77, .ifCond .eq 56, 3), (80, .aload_n 0, 1), (81, .iload 6, 2), (83, .iload 7, 2), (85, .invokevirtual 350, 3), (88, .istore 8, 2), (90, .iload 8, 2), (92, .iconst (-1), 1), (93, .if_icmp .eq 34, 3), (96, .aload_n 0, 1), (97, .getfield 73, 3), (100, .bipush 13, 2), (102, .aload_n 0, 1), (103, .iload_n 1, 1), (104, .iconst 5, 1), (105, .invokevirtual 338, 3), (108, .isub, 1), (109, .iaload, 1), (110, .iload 8, 2), (112, .invokestatic 235, 3), (115, .ifCond .ne 12, 3), (118, .iload 5, 2), (120, .iconst 1, 1), (121, .iload 8, 2), (123, .ishl, 1), (124, .ior, 1), (125, .istore 5, 2), (127, .iinc 7 1, 3), (130, .goto (-65), 3), (133, .iinc 6 1, 3), (136, .goto (-83), 3), (139, .iload 5, 2), (141, .istore_n 3, 1), (142, .iinc 4 1, 3), (145, .goto (-104), 3), (148, .iload_n 3, 1), (149, .ireturn, 1)]
def m_R_reach : AM := (12, ⟨"HeathForksModel", "reach", "(II)I"⟩, prog_14_method_84_code, tb_R_reach, 9, some .int, 2)
theorem tk_R_reach : tabOk prog_14_method_84_code tb_R_reach := by unfold tabOk; decide +kernel
set_option maxRecDepth 20000 in
theorem bb0_R_reach : cB m_R_reach 2 := ⟨(gwt1 13 rfl rfl), (gwt8 166 rfl rfl), ⟨by decide, by decide⟩, by decide +kernel, by decide⟩
theorem bb_R_reach : cB m_R_reach 2 := bb0_R_reach
set_option maxRecDepth 20000 in
theorem vv_R_reach : cV m_R_reach := ⟨(gwt8 164 rfl rfl), (gwt8 165 rfl rfl)⟩
def tb_R_stuck : List (Nat × Instr × Nat) := [(0, .aload_n 0, 1), (1, .iconst 0, 1), (2, .putfield 102, 3), (5, .aload_n 0, 1), (6, .getfield 335, 3), (9, .ifCond .ne 5, 3), (12, .iconst (-1), 1), (13, .ireturn, 1), (14, .iconst 0, 1), (15, .istore_n 1, 1), (16, .iconst 0, 1), (17, .istore_n 2, 1), (18, .iload_n 2, 1), (19, .aload_n 0, 1), (20, .getfield 328, 3), (23, .if_icmp .ge 65, 3), (26, .iconst 0, 1), (27, .istore_n 3, 1), (28, .iconst 0, 1), (29, .istore 4, 2), (31, .iload 4, 2), (33, .iconst 4, 1), (34, .if_icmp .ge 34, 3), (37, .iload_n 3, 1), (38, .ifCond .ne 18, 3), (41, .aload_n 0, 1), (42, .aload_n 0, 1), (43, .getfield 73, 3), (46, .iload_n 2, 1), (47, .iload 4, 2), (49, .invokevirtual 385, 3), (52, .iconst (-1), 1), (53, .if_icmp .eq 7, 3), (56, .iconst 1, 1), (57, .goto 4, 3), (60, .iconst 0, 1), (61, .istore_n 3, 1), (62, .iinc 4 1, 3), (65, .goto (-34), 3), (68, .iload_n 1, 1), (69, .iload_n 3, 1), (70, .ifCond .eq 7, 3), (73, .iconst 0, 1), (74, .goto 6, 3), (77, .iconst 1, 1), (78, .iload_n 2, 1), (79, .ishl, 1), (80, .ior, 1), (81, .istore_n 1, 1), (82, .iinc 2 1, 3), (85, .goto (-67), 3), (88, .iload_n 1, 1), (89, .ireturn, 1)]
def m_R_stuck : AM := (12, ⟨"HeathForksModel", "stuck", "()I"⟩, prog_14_method_85_code, tb_R_stuck, 5, some .int, 3)
theorem tk_R_stuck : tabOk prog_14_method_85_code tb_R_stuck := by unfold tabOk; decide +kernel
set_option maxRecDepth 20000 in
theorem bb0_R_stuck : cB m_R_stuck 0 := ⟨(gwt1 13 rfl rfl), (gwt8 171 rfl rfl), ⟨by decide, by decide⟩, by decide +kernel, by decide⟩
theorem bb_R_stuck : cB m_R_stuck 0 := bb0_R_stuck
set_option maxRecDepth 20000 in
theorem vv_R_stuck : cV m_R_stuck := ⟨(gwt8 169 rfl rfl), (gwt8 170 rfl rfl)⟩
def tb_R_trail : List (Nat × Instr × Nat) := [(0, .aload_n 0, 1), (1, .iconst 0, 1), (2, .putfield 102, 3), (5, .aload_n 0, 1), (6, .getfield 335, 3), (9, .ifCond .eq 23, 3), (12, .iload_n 1, 1), (13, .i2l, 1), (14, .lconst 0, 1), (15, .lconst 1, 1), (16, .invokestatic 223, 3), (19, .ifCond .eq 13, 3), (22, .iload_n 2, 1), (23, .i2l, 1), (24, .lconst 0, 1), (25, .lconst 1, 1), (26, .invokestatic 223, 3), (29, .ifCond .ne 5, 3), (32, .iconst (-1), 1), (33, .ireturn, 1), (34, .iload_n 2, 1), (35, .ifCond .ne 15, 3), (38, .aload_n 0, 1), (39, .getfield 73, 3), (42, .bipush 12, 2), (44, .iload_n 1, 1), (45, .iadd, 1), (46, .iaload, 1), (47, .goto 23, 3), (50, .iconst 1, 1), (51, .aload_n 0, 1), (52, .getfield 335, 3), (55, .ishl, 1), (56, .iconst 1, 1), (57, .isub, 1), (58, .aload_n 0, 1), (59, .getfield 73, 3), (62, .bipush 13, 2), (64, .iload_n 1, 1), (65, .isub, 1), (66, .iaload, 1), (67, .iconst (-1), 1), (68, .ixor, 1), (69, .iand, 1), (70, .ireturn, 1)]
def m_R_trail : AM := (12, ⟨"HeathForksModel", "trail", "(II)I"⟩, prog_14_method_86_code, tb_R_trail, 3, some .int, 1)
theorem tk_R_trail : tabOk prog_14_method_86_code tb_R_trail := by unfold tabOk; decide +kernel
set_option maxRecDepth 20000 in
theorem bb0_R_trail : cB m_R_trail 2 := ⟨(gwt1 13 rfl rfl), (gwt8 175 rfl rfl), ⟨by decide, by decide⟩, by decide +kernel, by decide⟩
theorem bb_R_trail : cB m_R_trail 2 := bb0_R_trail
set_option maxRecDepth 20000 in
theorem vv_R_trail : cV m_R_trail := ⟨(gwt8 173 rfl rfl), (gwt8 174 rfl rfl)⟩
def tb_R_hear : List (Nat × Instr × Nat) := [(0, .aload_n 0, 1), (1, .iconst 0, 1), (2, .putfield 102, 3), (5, .aload_n 0, 1), (6, .iload_n 1, 1), (7, .invokevirtual 377, 3), (10, .ifCond .eq 20, 3), (13, .aload_n 0, 1), (14, .iload_n 2, 1), (15, .invokevirtual 372, 3), (18, .ifCond .eq 12, 3), (21, .aload_n 0, 1), (22, .getfield 341, 3), (25, .bipush 12, 2), (27, .if_icmp .ne 5, 3), (30, .iconst (-1), 1), (31, .ireturn, 1), (32, .aload_n 0, 1), (33, .getfield 86, 3), (36, .aload_n 0, 1), (37, .getfield 341, 3), (40, .iload_n 1, 1), (41, .iastore, 1), (42, .aload_n 0, 1), (43, .getfield 89, 3), (46, .aload_n 0, 1), (47, .getfield 341, 3), (50, .iload_n 2, 1), (51, .iastore, 1), (52, .aload_n 0, 1), (53, .getfield 92, 3), (56, .aload_n 0, 1), (57, .getfield 341, 3), (60, .iload_n 3, 1), (61, .bastore, 1), (62, .aload_n 0, 1), (63, .dup, 1), (64, .getfield 341, 3), (67, .iconst 1, 1), (68, .iadd, 1), (69, .putfield 341, 3), (72, .aload_n 0, 1), (73, .getfield 341, 3), (76, .ireturn, 1)]
def m_R_hear : AM := (12, ⟨"HeathForksModel", "hear", "(IIZ)I"⟩, prog_14_method_87_code, tb_R_hear, 4, some .int, 1)
theorem tk_R_hear : tabOk prog_14_method_87_code tb_R_hear := by unfold tabOk; decide +kernel
set_option maxRecDepth 20000 in
theorem bb0_R_hear : cB m_R_hear 3 := ⟨(gwt1 13 rfl rfl), (gwt8 179 rfl rfl), ⟨by decide, by decide⟩, by decide +kernel, by decide⟩
theorem bb_R_hear : cB m_R_hear 3 := bb0_R_hear
set_option maxRecDepth 20000 in
theorem vv_R_hear : cV m_R_hear := ⟨(gwt8 177 rfl rfl), (gwt8 178 rfl rfl)⟩
def tb_R_isLong : List (Nat × Instr × Nat) := [(0, .aload_n 0, 1), (1, .getfield 335, 3), (4, .ifCond .le 21, 3), (7, .iload_n 1, 1), (8, .i2l, 1), (9, .ldc2_w 300, 3), (12, .ldc2_w 453, 3), (15, .invokestatic 223, 3), (18, .ifCond .eq 7, 3), (21, .iconst 1, 1), (22, .goto 4, 3), (25, .iconst 0, 1), (26, .ireturn, 1)]
def m_R_isLong : AM := (12, ⟨"HeathForksModel", "isLong", "(I)Z"⟩, prog_14_method_90_code, tb_R_isLong, 2, some .boolean, 1)
theorem tk_R_isLong : tabOk prog_14_method_90_code tb_R_isLong := by unfold tabOk; decide +kernel
set_option maxRecDepth 20000 in
theorem bb0_R_isLong : cB m_R_isLong 1 := ⟨(gwt1 13 rfl rfl), (gwt8 187 rfl rfl), ⟨by decide, by decide⟩, by decide +kernel, by decide⟩
theorem bb_R_isLong : cB m_R_isLong 1 := bb0_R_isLong
set_option maxRecDepth 20000 in
theorem vv_R_isLong : cV m_R_isLong := ⟨(gwt8 186 rfl rfl), (gw_p 97 rfl rfl)⟩
def tb_R_lineOf : List (Nat × Instr × Nat) := [(0, .iload_n 1, 1), (1, .istore 4, 2), (3, .iconst 1, 1), (4, .iload_n 1, 1), (5, .ishl, 1), (6, .istore 5, 2), (8, .iload_n 3, 1), (9, .iconst 2, 1), (10, .isub, 1), (11, .istore 6, 2), (13, .iload 6, 2), (15, .ifCond .lt 40, 3), (18, .aload_n 0, 1), (19, .iload 4, 2), (21, .iload_n 2, 1), (22, .iload 6, 2), (24, .ishr, 1), (25, .iconst 1, 1), (26, .iand, 1), (27, .invokevirtual 350, 3), (30, .istore 4, 2), (32, .iload 4, 2), (34, .iconst (-1), 1), (35, .if_icmp .ne 5, 3), (38, .iconst (-1), 1), (39, .ireturn, 1), (40, .iload 5, 2), (42, .iconst 1, 1), (43, .iload 4, 2), (45, .ishl, 1), (46, .ior, 1), (47, .istore 5, 2), (49, .iinc 6 (-1), 3), (52, .goto (-39), 3), (55, .iload 5, 2), (57, .ireturn, 1)]
def m_R_lineOf : AM := (12, ⟨"HeathForksModel", "lineOf", "(III)I"⟩, prog_14_method_88_code, tb_R_lineOf, 7, some .int, 2)
theorem tk_R_lineOf : tabOk prog_14_method_88_code tb_R_lineOf := by unfold tabOk; decide +kernel
set_option maxRecDepth 20000 in
theorem bb0_R_lineOf : cB m_R_lineOf 3 := ⟨(gwt1 13 rfl rfl), (gwt8 196 rfl rfl), ⟨by decide, by decide⟩, by decide +kernel, by decide⟩
theorem bb_R_lineOf : cB m_R_lineOf 3 := bb0_R_lineOf
set_option maxRecDepth 20000 in
theorem vv_R_lineOf : cV m_R_lineOf := ⟨(gwt8 195 rfl rfl), (gw_p 99 rfl rfl)⟩
def tb_R_isSo : List (Nat × Instr × Nat) := [(0, .iconst 0, 1), (1, .istore_n 3, 1), (2, .iload_n 3, 1), (3, .aload_n 0, 1), (4, .getfield 341, 3), (7, .if_icmp .ge 40, 3), (10, .aload_n 0, 1), (11, .getfield 86, 3), (14, .iload_n 3, 1), (15, .iaload, 1), (16, .iload_n 2, 1), (17, .if_icmp .eq 24, 3), (20, .iload_n 1, 1), (21, .aload_n 0, 1), (22, .getfield 89, 3), (25, .iload_n 3, 1), (26, .iaload, 1), (27, .invokestatic 235, 3), (30, .aload_n 0, 1), (31, .getfield 92, 3), (34, .iload_n 3, 1), (35, .baload, 1), (36, .if_icmp .eq 5, 3), (39, .iconst 0, 1), (40, .ireturn, 1), (41, .iinc 3 1, 3), (44, .goto (-42), 3), (47, .iconst 1, 1), (48, .ireturn, 1)]
def m_R_isSo : AM := (12, ⟨"HeathForksModel", "isSo", "(II)Z"⟩, prog_14_method_89_code, tb_R_isSo, 4, some .boolean, 1)
theorem tk_R_isSo : tabOk prog_14_method_89_code tb_R_isSo := by unfold tabOk; decide +kernel
set_option maxRecDepth 20000 in
theorem bb0_R_isSo : cB m_R_isSo 2 := ⟨(gwt1 13 rfl rfl), (gwt8 200 rfl rfl), ⟨by decide, by decide⟩, by decide +kernel, by decide⟩
theorem bb_R_isSo : cB m_R_isSo 2 := bb0_R_isSo
set_option maxRecDepth 20000 in
theorem vv_R_isSo : cV m_R_isSo := ⟨(gwt8 199 rfl rfl), (gw_p 100 rfl rfl)⟩
def tb_R_fitsBy : List (Nat × Instr × Nat) := [(0, .iconst 0, 1), (1, .istore 4, 2), (3, .iconst 0, 1), (4, .istore 5, 2), (6, .iload 5, 2), (8, .aload_n 0, 1), (9, .getfield 335, 3), (12, .if_icmp .ge 76, 3), (15, .iconst 0, 1), (16, .istore 6, 2), (18, .iload 6, 2), (20, .iconst 1, 1), (21, .iload_n 1, 1), (22, .iconst 1, 1), (23, .isub, 1), (24, .ishl, 1), (25, .if_icmp .ge 57, 3), (28, .aload_n 0, 1), (29, .iload 5, 2), (31, .iload 6, 2), (33, .iload_n 1, 1), (34, .invokevirtual 455, 3), (37, .istore 7, 2), (39, .iload 7, 2), (41, .iconst (-1), 1), (42, .if_icmp .eq 34, 3), (45, .aload_n 0, 1), (46, .iload 7, 2), (48, .iload_n 3, 1), (49, .invokevirtual 459, 3), (52, .ifCond .ne 6, 3), (55, .goto 21, 3), (58, .iload 4, 2), (60, .iload_n 2, 1), (61, .if_icmp .ne 12, 3), (64, .bipush 100, 2), (66, .iload 5, 2), (68, .imul, 1), (69, .iload 6, 2), (71, .iadd, 1), (72, .ireturn, 1), (73, .iinc 4 1, 3), (76, .iinc 6 1, 3), (79, .goto (-61), 3), (82, .iinc 5 1, 3), (85, .goto (-79), 3), (88, .iload_n 2, 1), (89, .iconst (-1), 1), (90, .if_icmp .ne 8, 3), (93, .iload 4, 2), (95, .goto 4, 3), (98, .iconst (-1), 1), (99, .ireturn, 1)]
def m_R_fitsBy : AM := (12, ⟨"HeathForksModel", "fitsBy", "(III)I"⟩, prog_14_method_91_code, tb_R_fitsBy, 8, some .int, 3)
theorem tk_R_fitsBy : tabOk prog_14_method_91_code tb_R_fitsBy := by unfold tabOk; decide +kernel
set_option maxRecDepth 20000 in
theorem bb0_R_fitsBy : cB m_R_fitsBy 3 := ⟨(gwt1 13 rfl rfl), (gwt8 192 rfl rfl), ⟨by decide, by decide⟩, by decide +kernel, by decide⟩
theorem bb_R_fitsBy : cB m_R_fitsBy 3 := bb0_R_fitsBy
set_option maxRecDepth 20000 in
theorem vv_R_fitsBy : cV m_R_fitsBy := ⟨(gwt8 191 rfl rfl), (gw_p 98 rfl rfl)⟩
def tb_R_fits : List (Nat × Instr × Nat) := [(0, .aload_n 0, 1), (1, .iconst 0, 1), (2, .putfield 102, 3), (5, .aload_n 0, 1), (6, .iload_n 1, 1), (7, .invokevirtual 462, 3), (10, .ifCond .eq 18, 3), (13, .iload_n 2, 1), (14, .iconst (-1), 1), (15, .if_icmp .lt 13, 3), (18, .aload_n 0, 1), (19, .iload_n 1, 1), (20, .iload_n 2, 1), (21, .iconst (-1), 1), (22, .invokevirtual 465, 3), (25, .goto 4, 3), (28, .iconst (-1), 1), (29, .ireturn, 1)]
def m_R_fits : AM := (12, ⟨"HeathForksModel", "fits", "(II)I"⟩, prog_14_method_92_code, tb_R_fits, 3, some .int, 4)
theorem tk_R_fits : tabOk prog_14_method_92_code tb_R_fits := by unfold tabOk; decide +kernel
set_option maxRecDepth 20000 in
theorem bb0_R_fits : cB m_R_fits 2 := ⟨(gwt1 13 rfl rfl), (gwt8 183 rfl rfl), ⟨by decide, by decide⟩, by decide +kernel, by decide⟩
theorem bb_R_fits : cB m_R_fits 2 := bb0_R_fits
set_option maxRecDepth 20000 in
theorem vv_R_fits : cV m_R_fits := ⟨(gwt8 181 rfl rfl), (gwt8 182 rfl rfl)⟩
def tb_R_sure : List (Nat × Instr × Nat) := [(0, .aload_n 0, 1), (1, .iconst 0, 1), (2, .putfield 102, 3), (5, .aload_n 0, 1), (6, .iload_n 1, 1), (7, .invokevirtual 462, 3), (10, .ifCond .eq 13, 3), (13, .aload_n 0, 1), (14, .iload_n 1, 1), (15, .iconst (-1), 1), (16, .iconst (-1), 1), (17, .invokevirtual 465, 3), (20, .ifCond .ne 5, 3), (23, .iconst (-1), 1), (24, .ireturn, 1), (25, .iconst 1, 1), (26, .aload_n 0, 1), (27, .getfield 335, 3), (30, .ishl, 1), (31, .iconst 1, 1), (32, .isub, 1), (33, .istore_n 2, 1), (34, .iconst 0, 1), (35, .istore_n 3, 1), (36, .iload_n 3, 1), (37, .aload_n 0, 1), (38, .getfield 335, 3), (41, .if_icmp .ge 59, 3), (44, .iconst 0, 1), (45, .istore 4, 2), (47, .iload 4, 2), (49, .iconst 1, 1), (50, .iload_n 1, 1), (51, .iconst 1, 1), (52, .isub, 1), (53, .ishl, 1), (54, .if_icmp .ge 40, 3), (57, .aload_n 0, 1), (58, .iload_n 3, 1), (59, .iload 4, 2), (61, .iload_n 1, 1), (62, .invokevirtual 455, 3), (65, .istore 5, 2), (67, .iload 5, 2), (69, .iconst (-1), 1), (70, .if_icmp .eq 18, 3), (73, .aload_n 0, 1), (74, .iload 5, 2), (76, .iconst (-1), 1), (77, .invokevirtual 459, 3), (80, .ifCond .eq 8, 3), (83, .iload_n 2, 1), (84, .iload 5, 2), (86, .iand, 1), (87, .istore_n 2, 1), (88, .iinc 4 1, 3), (91, .goto (-44), 3), (94, .iinc 3 1, 3), (97, .goto (-61), 3), (100, .iload_n 2, 1), (101, .ireturn, 1)]
def m_R_sure : AM := (12, ⟨"HeathForksModel", "sure", "(I)I"⟩, prog_14_method_93_code, tb_R_sure, 6, some .int, 4)
theorem tk_R_sure : tabOk prog_14_method_93_code tb_R_sure := by unfold tabOk; decide +kernel
set_option maxRecDepth 20000 in
theorem bb0_R_sure : cB m_R_sure 1 := ⟨(gwt1 13 rfl rfl), (gwt8 204 rfl rfl), ⟨by decide, by decide⟩, by decide +kernel, by decide⟩
theorem bb_R_sure : cB m_R_sure 1 := bb0_R_sure
set_option maxRecDepth 20000 in
theorem vv_R_sure : cV m_R_sure := ⟨(gwt8 202 rfl rfl), (gwt8 203 rfl rfl)⟩
def tb_R_ask : List (Nat × Instr × Nat) := [(0, .aload_n 0, 1), (1, .iconst 0, 1), (2, .putfield 102, 3), (5, .aload_n 0, 1), (6, .iload_n 1, 1), (7, .invokevirtual 462, 3), (10, .ifCond .eq 13, 3), (13, .aload_n 0, 1), (14, .iload_n 1, 1), (15, .iconst (-1), 1), (16, .iconst (-1), 1), (17, .invokevirtual 465, 3), (20, .ifCond .ne 5, 3), (23, .iconst (-1), 1), (24, .ireturn, 1), (25, .iconst 0, 1), (26, .istore_n 2, 1), (27, .iload_n 2, 1), (28, .bipush 30, 2), (30, .if_icmp .ge 16, 3), (33, .aload_n 0, 1), (34, .getfield 96, 3), (37, .iload_n 2, 1), (38, .iconst 0, 1), (39, .iastore, 1), (40, .iinc 2 1, 3), (43, .goto (-16), 3), (46, .iconst 0, 1), (47, .istore_n 2, 1), (48, .iload_n 2, 1), (49, .aload_n 0, 1), (50, .getfield 335, 3), (53, .if_icmp .ge 97, 3), (56, .iconst 0, 1), (57, .istore_n 3, 1), (58, .iload_n 3, 1), (59, .iconst 1, 1), (60, .iload_n 1, 1), (61, .iconst 1, 1), (62, .isub, 1), (63, .ishl, 1), (64, .if_icmp .ge 80, 3), (67, .aload_n 0, 1), (68, .iload_n 2, 1), (69, .iload_n 3, 1), (70, .iload_n 1, 1), (71, .invokevirtual 455, 3), (74, .istore 4, 2), (76, .iload 4, 2), (78, .iconst (-1), 1), (79, .if_icmp .eq 59, 3), (82, .aload_n 0, 1), (83, .iload 4, 2), (85, .iconst (-1), 1), (86, .invokevirtual 459, 3), (89, .ifCond .ne 6, 3), (92, .goto 46, 3), (95, .iconst 0, 1), (96, .istore 5, 2), (98, .iload 5, 2), (100, .aload_n 0, 1), (101, .getfield 335, 3), (104, .if_icmp .ge 34, 3), (107, .aload_n 0, 1), (108, .getfield 96, 3), (111, .iload 5, 2), (113, .dup2, 1), (114, .iaload, 1), (115, .iload 4, 2), (117, .iload 5, 2), (119, .invokestatic 235, 3), (122, .ifCond .eq 7, 3), (125, .iconst 1, 1), (126, .goto 4, 3), (129, .iconst (-1), 1), (130, .iadd, 1), (131, .iastore, 1), (132, .iinc 5 1, 3), (135, .goto (-37), 3), (138, .iinc 3 1, 3), (141, .goto (-83), 3), (144, .iinc 2 1, 3), (147, .goto (-99), 3), (150, .iconst 0, 1), (151, .istore_n 2, 1), (152, .iconst 1, 1), (153, .istore_n 3, 1), (154, .iload_n 3, 1), (155, .aload_n 0, 1), (156, .getfield 335, 3), (159, .if_icmp .ge 32, 3), (162, .aload_n 0, 1), (163, .getfield 96, 3), (166, .iload_n 3, 1), (167, .iaload, 1), (168, .invokestatic 468, 3), (171, .aload_n 0, 1), (172, .getfield 96, 3), (175, .iload_n 2, 1), (176, .iaload, 1), (177, .invokestatic 468, 3), (180, .if_icmp .ge 5, 3), (183, .iload_n 3, 1), (184, .istore_n 2, 1), (185, .iinc 3 1, 3), (188, .goto (-34), 3), (191, .iload_n 2, 1), (192, .ireturn, 1)]
def m_R_ask : AM := (12, ⟨"HeathForksModel", "ask", "(I)I"⟩, prog_14_method_94_code, tb_R_ask, 6, some .int, 4)
theorem tk_R_ask : tabOk prog_14_method_94_code tb_R_ask := by unfold tabOk; decide +kernel
set_option maxRecDepth 20000 in
theorem bb0_R_ask : cB m_R_ask 1 := ⟨(gwt1 13 rfl rfl), (gwt8 208 rfl rfl), ⟨by decide, by decide⟩, by decide +kernel, by decide⟩
theorem bb_R_ask : cB m_R_ask 1 := bb0_R_ask
set_option maxRecDepth 20000 in
theorem vv_R_ask : cV m_R_ask := ⟨(gwt8 206 rfl rfl), (gwt8 207 rfl rfl)⟩
def tb_R_wrong : List (Nat × Instr × Nat) := [(0, .aload_n 0, 1), (1, .iconst 0, 1), (2, .putfield 102, 3), (5, .aload_n 0, 1), (6, .iload_n 1, 1), (7, .invokevirtual 462, 3), (10, .ifCond .ne 5, 3), (13, .iconst (-1), 1), (14, .ireturn, 1), (15, .aload_n 0, 1), (16, .iload_n 1, 1), (17, .iconst (-1), 1), (18, .iconst (-1), 1), (19, .invokevirtual 465, 3), (22, .ifCond .le 5, 3), (25, .iconst 0, 1), (26, .ireturn, 1), (27, .iconst 0, 1), (28, .istore_n 2, 1), (29, .iconst 0, 1), (30, .istore_n 3, 1), (31, .iload_n 3, 1), (32, .aload_n 0, 1), (33, .getfield 328, 3), (36, .if_icmp .ge 29, 3), (39, .iload_n 2, 1), (40, .aload_n 0, 1), (41, .iload_n 1, 1), (42, .iconst (-1), 1), (43, .iload_n 3, 1), (44, .invokevirtual 465, 3), (47, .ifCond .le 9, 3), (50, .iconst 1, 1), (51, .iload_n 3, 1), (52, .ishl, 1), (53, .goto 4, 3), (56, .iconst 0, 1), (57, .ior, 1), (58, .istore_n 2, 1), (59, .iinc 3 1, 3), (62, .goto (-31), 3), (65, .iload_n 2, 1), (66, .ireturn, 1)]
def m_R_wrong : AM := (12, ⟨"HeathForksModel", "wrong", "(I)I"⟩, prog_14_method_95_code, tb_R_wrong, 4, some .int, 4)
theorem tk_R_wrong : tabOk prog_14_method_95_code tb_R_wrong := by unfold tabOk; decide +kernel
set_option maxRecDepth 20000 in
theorem bb0_R_wrong : cB m_R_wrong 1 := ⟨(gwt1 13 rfl rfl), (gwt8 213 rfl rfl), ⟨by decide, by decide⟩, by decide +kernel, by decide⟩
theorem bb_R_wrong : cB m_R_wrong 1 := bb0_R_wrong
set_option maxRecDepth 20000 in
theorem vv_R_wrong : cV m_R_wrong := ⟨(gwt8 211 rfl rfl), (gwt8 212 rfl rfl)⟩
def tb_R_latest : List (Nat × Instr × Nat) := [(0, .aload_n 0, 1), (1, .getfield 73, 3), (4, .bipush 46, 2), (6, .iaload, 1), (7, .iconst 1, 1), (8, .isub, 1), (9, .istore_n 3, 1), (10, .iload_n 3, 1), (11, .ifCond .lt 51, 3), (14, .aload_n 0, 1), (15, .getfield 73, 3), (18, .bipush 47, 2), (20, .iconst 3, 1), (21, .iload_n 3, 1), (22, .imul, 1), (23, .iadd, 1), (24, .iaload, 1), (25, .iload_n 1, 1), (26, .if_icmp .ne 30, 3), (29, .aload_n 0, 1), (30, .getfield 73, 3), (33, .bipush 48, 2), (35, .iconst 3, 1), (36, .iload_n 3, 1), (37, .imul, 1), (38, .iadd, 1), (39, .iaload, 1), (40, .iload_n 2, 1), (41, .if_icmp .ne 15, 3), (44, .aload_n 0, 1), (45, .getfield 73, 3), (48, .bipush 49, 2), (50, .iconst 3, 1), (51, .iload_n 3, 1), (52, .imul, 1), (53, .iadd, 1), (54, .iaload, 1), (55, .ireturn, 1), (56, .iinc 3 (-1), 3), (59, .goto (-49), 3), (62, .iconst (-1), 1), (63, .ireturn, 1)]
def m_R_latest : AM := (12, ⟨"HeathForksModel", "latest", "(II)I"⟩, prog_14_method_96_code, tb_R_latest, 4, some .int, 0)
theorem tk_R_latest : tabOk prog_14_method_96_code tb_R_latest := by unfold tabOk; decide +kernel
set_option maxRecDepth 20000 in
theorem bb0_R_latest : cB m_R_latest 2 := ⟨(gwt1 13 rfl rfl), (gwt8 221 rfl rfl), ⟨by decide, by decide⟩, by decide +kernel, by decide⟩
theorem bb_R_latest : cB m_R_latest 2 := bb0_R_latest
set_option maxRecDepth 20000 in
theorem vv_R_latest : cV m_R_latest := ⟨(gwt8 220 rfl rfl), (gw_p 101 rfl rfl)⟩
def tb_R_chance : List (Nat × Instr × Nat) := [(0, .aload_n 0, 1), (1, .iconst 0, 1), (2, .putfield 102, 3), (5, .aload_n 0, 1), (6, .iload_n 1, 1), (7, .invokevirtual 372, 3), (10, .ifCond .ne 5, 3), (13, .iconst (-1), 1), (14, .ireturn, 1), (15, .lconst 1, 1), (16, .lstore_n 2, 1), (17, .lconst 1, 1), (18, .lstore 4, 2), (20, .iconst 0, 1), (21, .istore 6, 2), (23, .iload 6, 2), (25, .aload_n 0, 1), (26, .getfield 328, 3), (29, .if_icmp .ge 78, 3), (32, .aload_n 0, 1), (33, .iload 6, 2), (35, .iload_n 1, 1), (36, .invokevirtual 471, 3), (39, .istore 7, 2), (41, .iload 7, 2), (43, .iconst (-1), 1), (44, .if_icmp .ne 6, 3), (47, .goto 54, 3), (50, .aload_n 0, 1), (51, .iload 6, 2), (53, .iconst 4, 1), (54, .invokevirtual 338, 3), (57, .istore 8, 2), (59, .lload_n 2, 1), (60, .iload 7, 2), (62, .ifCond .le 12, 3), (65, .bipush 10, 2), (67, .iload 8, 2), (69, .isub, 1), (70, .i2l, 1), (71, .goto 6, 3), (74, .iload 8, 2), (76, .i2l, 1), (77, .lmul, 1), (78, .lstore_n 2, 1), (79, .lload 4, 2), (81, .iload 7, 2), (83, .ifCond .le 9, 3), (86, .iload 8, 2), (88, .i2l, 1), (89, .goto 9, 3), (92, .bipush 10, 2), (94, .iload 8, 2), (96, .isub, 1), (97, .i2l, 1), (98, .lmul, 1), (99, .lstore 4, 2), (101, .iinc 6 1, 3), (104, .goto (-81), 3), (107, .lload_n 2, 1), (108, .lload 4, 2), (110, .ladd, 1), (111, .lconst 0, 1), (112, .lcmp, 1), (113, .ifCond .ne 7, 3), (116, .iconst (-1), 1), (117, .goto 14, 3), (120, .ldc2_w 149, 3), (123, .lload_n 2, 1), (124, .lmul, 1), (125, .lload_n 2, 1), (126, .lload 4, 2), (128, .ladd, 1), (129, .ldiv, 1), (130, .l2i, 1), (131, .ireturn, 1)]
def m_R_chance : AM := (12, ⟨"HeathForksModel", "chance", "(I)I"⟩, prog_14_method_97_code, tb_R_chance, 9, some .int, 1)
theorem tk_R_chance : tabOk prog_14_method_97_code tb_R_chance := by unfold tabOk; decide +kernel
set_option maxRecDepth 20000 in
theorem bb0_R_chance : cB m_R_chance 1 := ⟨(gwt1 13 rfl rfl), (gwt8 217 rfl rfl), ⟨by decide, by decide⟩, by decide +kernel, by decide⟩
theorem bb_R_chance : cB m_R_chance 1 := bb0_R_chance
set_option maxRecDepth 20000 in
theorem vv_R_chance : cV m_R_chance := ⟨(gwt8 215 rfl rfl), (gwt8 216 rfl rfl)⟩
def tb_R_hasWater : List (Nat × Instr × Nat) := [(0, .iconst 0, 1), (1, .istore_n 2, 1), (2, .iload_n 2, 1), (3, .aload_n 0, 1), (4, .getfield 319, 3), (7, .if_icmp .ge 21, 3), (10, .aload_n 0, 1), (11, .iload_n 2, 1), (12, .iload_n 1, 1), (13, .invokevirtual 353, 3), (16, .iconst (-1), 1), (17, .if_icmp .eq 5, 3), (20, .iconst 1, 1), (21, .ireturn, 1), (22, .iinc 2 1, 3), (25, .goto (-23), 3), (28, .iconst 0, 1), (29, .ireturn, 1)]
def m_R_hasWater : AM := (12, ⟨"HeathForksModel", "hasWater", "(I)Z"⟩, prog_14_method_50_code, tb_R_hasWater, 3, some .boolean, 3)
theorem tk_R_hasWater : tabOk prog_14_method_50_code tb_R_hasWater := by unfold tabOk; decide +kernel
set_option maxRecDepth 20000 in
theorem bb0_R_hasWater : cB m_R_hasWater 1 := ⟨(gwt1 13 rfl rfl), (gwt8 229 rfl rfl), ⟨by decide, by decide⟩, by decide +kernel, by decide⟩
theorem bb_R_hasWater : cB m_R_hasWater 1 := bb0_R_hasWater
set_option maxRecDepth 20000 in
theorem vv_R_hasWater : cV m_R_hasWater := ⟨(gwt8 228 rfl rfl), (gw_p 102 rfl rfl)⟩
def tb_R_wishers : List (Nat × Instr × Nat) := [(0, .aload_n 0, 1), (1, .iconst 0, 1), (2, .putfield 102, 3), (5, .aload_n 0, 1), (6, .iload_n 1, 1), (7, .invokevirtual 372, 3), (10, .ifCond .eq 20, 3), (13, .aload_n 0, 1), (14, .iload_n 1, 1), (15, .invokevirtual 474, 3), (18, .ifCond .ne 12, 3), (21, .aload_n 0, 1), (22, .iload_n 1, 1), (23, .invokevirtual 365, 3), (26, .iconst (-1), 1), (27, .if_icmp .eq 5, 3), (30, .iconst (-1), 1), (31, .ireturn, 1), (32, .iconst 0, 1), (33, .istore_n 2, 1), (34, .iconst 0, 1), (35, .istore_n 3, 1), (36, .iload_n 3, 1), (37, .aload_n 0, 1), (38, .getfield 328, 3), (41, .if_icmp .ge 32, 3), (44, .iload_n 2, 1), (45, .aload_n 0, 1), (46, .aload_n 0, 1), (47, .getfield 73, 3), (50, .iload_n 3, 1), (51, .iload_n 1, 1), (52, .invokevirtual 382, 3), (55, .ifCond .le 9, 3), (58, .iconst 1, 1), (59, .iload_n 3, 1), (60, .ishl, 1), (61, .goto 4, 3), (64, .iconst 0, 1), (65, .ior, 1), (66, .istore_n 2, 1), (67, .iinc 3 1, 3), (70, .goto (-34), 3), (73, .iload_n 2, 1), (74, .ireturn, 1)]
def m_R_wishers : AM := (12, ⟨"HeathForksModel", "wishers", "(I)I"⟩, prog_14_method_98_code, tb_R_wishers, 4, some .int, 92)
theorem tk_R_wishers : tabOk prog_14_method_98_code tb_R_wishers := by unfold tabOk; decide +kernel
set_option maxRecDepth 20000 in
theorem bb0_R_wishers : cB m_R_wishers 1 := ⟨(gwt1 13 rfl rfl), (gwt8 225 rfl rfl), ⟨by decide, by decide⟩, by decide +kernel, by decide⟩
theorem bb_R_wishers : cB m_R_wishers 1 := bb0_R_wishers
set_option maxRecDepth 20000 in
theorem vv_R_wishers : cV m_R_wishers := ⟨(gwt8 223 rfl rfl), (gwt8 224 rfl rfl)⟩
def tb_R_rightOf : List (Nat × Instr × Nat) := [(0, .iconst 0, 1), (1, .istore_n 2, 1), (2, .iconst 0, 1), (3, .istore_n 3, 1), (4, .iload_n 3, 1), (5, .aload_n 0, 1), (6, .getfield 73, 3), (9, .bipush 46, 2), (11, .iaload, 1), (12, .if_icmp .ge 90, 3), (15, .bipush 47, 2), (17, .iconst 3, 1), (18, .iload_n 3, 1), (19, .imul, 1), (20, .iadd, 1), (21, .istore 4, 2), (23, .aload_n 0, 1), (24, .getfield 73, 3), (27, .iload 4, 2), (29, .iaload, 1), (30, .iload_n 1, 1), (31, .if_icmp .ne 65, 3), (34, .aload_n 0, 1), (35, .getfield 73, 3), (38, .iload 4, 2), (40, .iconst 2, 1), (41, .iadd, 1), (42, .iaload, 1), (43, .ifCond .ne 6, 3), (46, .goto 50, 3), (49, .aload_n 0, 1), (50, .aload_n 0, 1), (51, .getfield 73, 3), (54, .iload 4, 2), (56, .iconst 1, 1), (57, .iadd, 1), (58, .iaload, 1), (59, .aload_n 0, 1), (60, .getfield 73, 3), (63, .bipush 45, 2), (65, .iaload, 1), (66, .invokevirtual 362, 3), (69, .istore 5, 2), (71, .iload_n 2, 1), (72, .iload 5, 2), (74, .iconst (-1), 1), (75, .if_icmp .eq 18, 3), (78, .iload 5, 2), (80, .aload_n 0, 1), (81, .iload_n 1, 1), (82, .iconst 1, 1), (83, .invokevirtual 338, 3), (86, .if_icmp .gt 7, 3), (89, .iconst 1, 1), (90, .goto 4, 3), (93, .iconst (-1), 1), (94, .iadd, 1), (95, .istore_n 2, 1), (96, .iinc 3 1, 3), (99, .goto (-95), 3), (102, .iload_n 2, 1), (103, .ireturn, 1)]
def m_R_rightOf : AM := (12, ⟨"HeathForksModel", "rightOf", "(I)I"⟩, prog_14_method_99_code, tb_R_rightOf, 6, some .int, 4)
theorem tk_R_rightOf : tabOk prog_14_method_99_code tb_R_rightOf := by unfold tabOk; decide +kernel
set_option maxRecDepth 20000 in
theorem bb0_R_rightOf : cB m_R_rightOf 1 := ⟨(gwt1 13 rfl rfl), (gwt8 237 rfl rfl), ⟨by decide, by decide⟩, by decide +kernel, by decide⟩
theorem bb_R_rightOf : cB m_R_rightOf 1 := bb0_R_rightOf
set_option maxRecDepth 20000 in
theorem vv_R_rightOf : cV m_R_rightOf := ⟨(gwt8 236 rfl rfl), (gw_p 103 rfl rfl)⟩
def tb_R_right : List (Nat × Instr × Nat) := [(0, .aload_n 0, 1), (1, .iconst 0, 1), (2, .putfield 102, 3), (5, .aload_n 0, 1), (6, .iload_n 1, 1), (7, .invokevirtual 377, 3), (10, .ifCond .eq 11, 3), (13, .aload_n 0, 1), (14, .iload_n 1, 1), (15, .invokevirtual 477, 3), (18, .goto 6, 3), (21, .ldc_w 426, 3), (24, .ireturn, 1)]
def m_R_right : AM := (12, ⟨"HeathForksModel", "right", "(I)I"⟩, prog_14_method_100_code, tb_R_right, 2, some .int, 5)
theorem tk_R_right : tabOk prog_14_method_100_code tb_R_right := by unfold tabOk; decide +kernel
set_option maxRecDepth 20000 in
theorem bb0_R_right : cB m_R_right 1 := ⟨(gwt1 13 rfl rfl), (gwt8 233 rfl rfl), ⟨by decide, by decide⟩, by decide +kernel, by decide⟩
theorem bb_R_right : cB m_R_right 1 := bb0_R_right
set_option maxRecDepth 20000 in
theorem vv_R_right : cV m_R_right := ⟨(gwt8 231 rfl rfl), (gwt8 232 rfl rfl)⟩
def tb_R_best : List (Nat × Instr × Nat) := [(0, .aload_n 0, 1), (1, .iconst 0, 1), (2, .putfield 102, 3), (5, .aload_n 0, 1), (6, .getfield 335, 3), (9, .ifCond .ne 5, 3), (12, .iconst (-1), 1), (13, .ireturn, 1), (14, .iconst 0, 1), (15, .istore_n 1, 1), (16, .iconst 1, 1), (17, .istore_n 2, 1), (18, .iload_n 2, 1), (19, .aload_n 0, 1), (20, .getfield 328, 3), (23, .if_icmp .ge 28, 3), (26, .aload_n 0, 1), (27, .iload_n 2, 1), (28, .invokevirtual 477, 3), (31, .aload_n 0, 1), (32, .iload_n 1, 1), (33, .invokevirtual 477, 3), (36, .if_icmp .le 7, 3), (39, .iload_n 2, 1), (40, .goto 4, 3), (43, .iload_n 1, 1), (44, .istore_n 1, 1), (45, .iinc 2 1, 3), (48, .goto (-30), 3), (51, .iload_n 1, 1), (52, .ireturn, 1)]
def m_R_best : AM := (12, ⟨"HeathForksModel", "best", "()I"⟩, prog_14_method_101_code, tb_R_best, 3, some .int, 5)
theorem tk_R_best : tabOk prog_14_method_101_code tb_R_best := by unfold tabOk; decide +kernel
set_option maxRecDepth 20000 in
theorem bb0_R_best : cB m_R_best 0 := ⟨(gwt1 13 rfl rfl), (gwt9 1 rfl rfl), ⟨by decide, by decide⟩, by decide +kernel, by decide⟩
theorem bb_R_best : cB m_R_best 0 := bb0_R_best
set_option maxRecDepth 20000 in
theorem vv_R_best : cV m_R_best := ⟨(gwt8 239 rfl rfl), (gwt9 0 rfl rfl)⟩
def tb_R_nearest : List (Nat × Instr × Nat) := [(0, .aload_n 0, 1), (1, .iconst 0, 1), (2, .putfield 102, 3), (5, .aload_n 0, 1), (6, .iload_n 1, 1), (7, .invokevirtual 377, 3), (10, .ifCond .ne 5, 3), (13, .iconst (-1), 1), (14, .ireturn, 1), (15, .aload_n 0, 1), (16, .getfield 73, 3), (19, .iconst 2, 1), (20, .iload_n 1, 1), (21, .imul, 1), (22, .iaload, 1), (23, .istore_n 2, 1), (24, .iconst (-1), 1), (25, .istore_n 3, 1), (26, .iconst 0, 1), (27, .istore 4, 2), (29, .iload 4, 2), (31, .aload_n 0, 1), (32, .getfield 335, 3), (35, .if_icmp .ge 83, 3), (38, .aload_n 0, 1), (39, .iload 4, 2), (41, .invokevirtual 474, 3), (44, .ifCond .ne 6, 3), (47, .goto 65, 3), (50, .iload 4, 2), (52, .aload_n 0, 1), (53, .getfield 37, 3), (56, .iconst 0, 1), (57, .iaload, 1), (58, .irem, 1), (59, .iload_n 2, 1), (60, .aload_n 0, 1), (61, .getfield 37, 3), (64, .iconst 0, 1), (65, .iaload, 1), (66, .irem, 1), (67, .isub, 1), (68, .invokestatic 468, 3), (71, .iload 4, 2), (73, .aload_n 0, 1), (74, .getfield 37, 3), (77, .iconst 0, 1), (78, .iaload, 1), (79, .idiv, 1), (80, .iload_n 2, 1), (81, .aload_n 0, 1), (82, .getfield 37, 3), (85, .iconst 0, 1), (86, .iaload, 1), (87, .idiv, 1), (88, .isub, 1), (89, .invokestatic 468, 3), (92, .iadd, 1), (93, .istore 5, 2), (95, .iload_n 3, 1), (96, .iconst (-1), 1), (97, .if_icmp .ne 8, 3), (100, .iload 5, 2), (102, .goto 9, 3), (105, .iload_n 3, 1), (106, .iload 5, 2), (108, .invokestatic 356, 3), (111, .istore_n 3, 1), (112, .iinc 4 1, 3), (115, .goto (-86), 3), (118, .iload_n 3, 1), (119, .ireturn, 1)]
def m_R_nearest : AM := (12, ⟨"HeathForksModel", "nearest", "(I)I"⟩, prog_14_method_102_code, tb_R_nearest, 6, some .int, 4)
theorem tk_R_nearest : tabOk prog_14_method_102_code tb_R_nearest := by unfold tabOk; decide +kernel
set_option maxRecDepth 20000 in
theorem bb0_R_nearest : cB m_R_nearest 1 := ⟨(gwt1 13 rfl rfl), (gwt9 5 rfl rfl), ⟨by decide, by decide⟩, by decide +kernel, by decide⟩
theorem bb_R_nearest : cB m_R_nearest 1 := bb0_R_nearest
set_option maxRecDepth 20000 in
theorem vv_R_nearest : cV m_R_nearest := ⟨(gwt9 3 rfl rfl), (gwt9 4 rfl rfl)⟩
def tb_R_meets : List (Nat × Instr × Nat) := [(0, .aload_n 0, 1), (1, .iconst 0, 1), (2, .putfield 102, 3), (5, .aload_n 0, 1), (6, .getfield 335, 3), (9, .ifCond .ne 5, 3), (12, .iconst (-1), 1), (13, .ireturn, 1), (14, .iconst 0, 1), (15, .istore_n 1, 1), (16, .iconst 0, 1), (17, .istore_n 2, 1), (18, .iload_n 2, 1), (19, .aload_n 0, 1), (20, .getfield 335, 3), (23, .if_icmp .ge 63, 3), (26, .iconst 0, 1), (27, .istore_n 3, 1), (28, .iconst 0, 1), (29, .istore 4, 2), (31, .iload 4, 2), (33, .aload_n 0, 1), (34, .getfield 319, 3), (37, .if_icmp .ge 28, 3), (40, .iload_n 3, 1), (41, .aload_n 0, 1), (42, .iload 4, 2), (44, .iload_n 2, 1), (45, .invokevirtual 353, 3), (48, .iconst (-1), 1), (49, .if_icmp .ne 7, 3), (52, .iconst 0, 1), (53, .goto 4, 3), (56, .iconst 1, 1), (57, .iadd, 1), (58, .istore_n 3, 1), (59, .iinc 4 1, 3), (62, .goto (-31), 3), (65, .iload_n 1, 1), (66, .iload_n 3, 1), (67, .iconst 1, 1), (68, .if_icmp .le 9, 3), (71, .iconst 1, 1), (72, .iload_n 2, 1), (73, .ishl, 1), (74, .goto 4, 3), (77, .iconst 0, 1), (78, .ior, 1), (79, .istore_n 1, 1), (80, .iinc 2 1, 3), (83, .goto (-65), 3), (86, .iload_n 1, 1), (87, .ireturn, 1)]
def m_R_meets : AM := (12, ⟨"HeathForksModel", "meets", "()I"⟩, prog_14_method_103_code, tb_R_meets, 5, some .int, 3)
theorem tk_R_meets : tabOk prog_14_method_103_code tb_R_meets := by unfold tabOk; decide +kernel
set_option maxRecDepth 20000 in
theorem bb0_R_meets : cB m_R_meets 0 := ⟨(gwt1 13 rfl rfl), (gwt9 9 rfl rfl), ⟨by decide, by decide⟩, by decide +kernel, by decide⟩
theorem bb_R_meets : cB m_R_meets 0 := bb0_R_meets
set_option maxRecDepth 20000 in
theorem vv_R_meets : cV m_R_meets := ⟨(gwt9 7 rfl rfl), (gwt9 8 rfl rfl)⟩
def tb_R_shallow : List (Nat × Instr × Nat) := [(0, .aload_n 0, 1), (1, .iconst 0, 1), (2, .putfield 102, 3), (5, .iconst (-1), 1), (6, .istore_n 1, 1), (7, .iconst 0, 1), (8, .istore_n 2, 1), (9, .iload_n 2, 1), (10, .aload_n 0, 1), (11, .getfield 335, 3), (14, .if_icmp .ge 50, 3), (17, .aload_n 0, 1), (18, .iload_n 2, 1), (19, .aload_n 0, 1), (20, .getfield 73, 3), (23, .bipush 45, 2), (25, .iaload, 1), (26, .invokevirtual 362, 3), (29, .istore_n 3, 1), (30, .iload_n 3, 1), (31, .iconst (-1), 1), (32, .if_icmp .eq 26, 3), (35, .iload_n 1, 1), (36, .iconst (-1), 1), (37, .if_icmp .eq 19, 3), (40, .iload_n 3, 1), (41, .aload_n 0, 1), (42, .iload_n 1, 1), (43, .aload_n 0, 1), (44, .getfield 73, 3), (47, .bipush 45, 2), (49, .iaload, 1), (50, .invokevirtual 362, 3), (53, .if_icmp .ge 5, 3), (56, .iload_n 2, 1), (57, .istore_n 1, 1), (58, .iinc 2 1, 3), (61, .goto (-52), 3), (64, .iload_n 1, 1), (65, .ireturn, 1)]
def m_R_shallow : AM := (12, ⟨"HeathForksModel", "shallow", "()I"⟩, prog_14_method_104_code, tb_R_shallow, 4, some .int, 4)
theorem tk_R_shallow : tabOk prog_14_method_104_code tb_R_shallow := by unfold tabOk; decide +kernel
set_option maxRecDepth 20000 in
theorem bb0_R_shallow : cB m_R_shallow 0 := ⟨(gwt1 13 rfl rfl), (gwt9 13 rfl rfl), ⟨by decide, by decide⟩, by decide +kernel, by decide⟩
theorem bb_R_shallow : cB m_R_shallow 0 := bb0_R_shallow
set_option maxRecDepth 20000 in
theorem vv_R_shallow : cV m_R_shallow := ⟨(gwt9 11 rfl rfl), (gwt9 12 rfl rfl)⟩
def tb_R_heap : List (Nat × Instr × Nat) := [(0, .aload_n 0, 1), (1, .iconst 0, 1), (2, .putfield 102, 3), (5, .iconst (-1), 1), (6, .istore_n 1, 1), (7, .iconst 0, 1), (8, .istore_n 2, 1), (9, .iconst 0, 1), (10, .istore_n 3, 1), (11, .iload_n 3, 1), (12, .aload_n 0, 1), (13, .getfield 335, 3), (16, .if_icmp .ge 88, 3), (19, .iconst 0, 1), (20, .istore 4, 2), (22, .iconst 0, 1), (23, .istore 5, 2), (25, .iload 5, 2), (27, .aload_n 0, 1), (28, .getfield 73, 3), (31, .bipush 46, 2), (33, .iaload, 1), (34, .if_icmp .ge 50, 3), (37, .iload 4, 2), (39, .aload_n 0, 1), (40, .getfield 73, 3), (43, .bipush 48, 2), (45, .iconst 3, 1), (46, .iload 5, 2), (48, .imul, 1), (49, .iadd, 1), (50, .iaload, 1), (51, .iload_n 3, 1), (52, .if_icmp .ne 22, 3), (55, .aload_n 0, 1), (56, .getfield 73, 3), (59, .bipush 49, 2), (61, .iconst 3, 1), (62, .iload 5, 2), (64, .imul, 1), (65, .iadd, 1), (66, .iaload, 1), (67, .ifCond .le 7, 3), (70, .iconst 1, 1), (71, .goto 4, 3), (74, .iconst 0, 1), (75, .iadd, 1), (76, .istore 4, 2), (78, .iinc 5 1, 3), (81, .goto (-56), 3), (84, .iload 4, 2), (86, .iload_n 2, 1), (87, .if_icmp .gt 6, 3), (90, .goto 8, 3), (93, .iload_n 3, 1), (94, .istore_n 1, 1), (95, .iload 4, 2), (97, .istore_n 2, 1), (98, .iinc 3 1, 3), (101, .goto (-90), 3), (104, .iload_n 1, 1), (105, .ireturn, 1)]
def m_R_heap : AM := (12, ⟨"HeathForksModel", "heap", "()I"⟩, prog_14_method_105_code, tb_R_heap, 6, some .int, 0)
theorem tk_R_heap : tabOk prog_14_method_105_code tb_R_heap := by unfold tabOk; decide +kernel
set_option maxRecDepth 20000 in
theorem bb0_R_heap : cB m_R_heap 0 := ⟨(gwt1 13 rfl rfl), (gwt9 17 rfl rfl), ⟨by decide, by decide⟩, by decide +kernel, by decide⟩
theorem bb_R_heap : cB m_R_heap 0 := bb0_R_heap
set_option maxRecDepth 20000 in
theorem vv_R_heap : cV m_R_heap := ⟨(gwt9 15 rfl rfl), (gwt9 16 rfl rfl)⟩
def tb_R_costs : List (Nat × Instr × Nat) := [(0, .aload_n 0, 1), (1, .iconst 0, 1), (2, .putfield 102, 3), (5, .aload_n 0, 1), (6, .iload_n 1, 1), (7, .invokevirtual 372, 3), (10, .ifCond .eq 30, 3), (13, .aload_n 0, 1), (14, .getfield 73, 3), (17, .bipush 14, 2), (19, .iload_n 1, 1), (20, .iadd, 1), (21, .iaload, 1), (22, .ifCond .ne 18, 3), (25, .aload_n 0, 1), (26, .iload_n 1, 1), (27, .aload_n 0, 1), (28, .getfield 73, 3), (31, .bipush 45, 2), (33, .iaload, 1), (34, .invokevirtual 404, 3), (37, .goto 4, 3), (40, .iconst (-1), 1), (41, .ireturn, 1)]
def m_R_costs : AM := (12, ⟨"HeathForksModel", "costs", "(I)I"⟩, prog_14_method_106_code, tb_R_costs, 2, some .int, 6)
theorem tk_R_costs : tabOk prog_14_method_106_code tb_R_costs := by unfold tabOk; decide +kernel
set_option maxRecDepth 20000 in
theorem bb0_R_costs : cB m_R_costs 1 := ⟨(gwt1 13 rfl rfl), (gwt9 21 rfl rfl), ⟨by decide, by decide⟩, by decide +kernel, by decide⟩
theorem bb_R_costs : cB m_R_costs 1 := bb0_R_costs
set_option maxRecDepth 20000 in
theorem vv_R_costs : cV m_R_costs := ⟨(gwt9 19 rfl rfl), (gwt9 20 rfl rfl)⟩
def tb_R_loses : List (Nat × Instr × Nat) := [(0, .aload_n 0, 1), (1, .iconst 0, 1), (2, .putfield 102, 3), (5, .aload_n 0, 1), (6, .iload_n 1, 1), (7, .invokevirtual 372, 3), (10, .ifCond .eq 15, 3), (13, .aload_n 0, 1), (14, .getfield 73, 3), (17, .bipush 14, 2), (19, .iload_n 1, 1), (20, .iadd, 1), (21, .iaload, 1), (22, .ifCond .le 5, 3), (25, .iconst (-1), 1), (26, .ireturn, 1), (27, .aload_n 0, 1), (28, .getfield 73, 3), (31, .aload_n 0, 1), (32, .getfield 76, 3), (35, .invokestatic 331, 3), (38, .aload_n 0, 1), (39, .getfield 76, 3), (42, .bipush 14, 2), (44, .iload_n 1, 1), (45, .iadd, 1), (46, .aload_n 0, 1), (47, .iload_n 1, 1), (48, .aload_n 0, 1), (49, .getfield 73, 3), (52, .bipush 45, 2), (54, .iaload, 1), (55, .invokevirtual 398, 3), (58, .iastore, 1), (59, .aload_n 0, 1), (60, .aload_n 0, 1), (61, .getfield 73, 3), (64, .aload_n 0, 1), (65, .getfield 73, 3), (68, .bipush 45, 2), (70, .iaload, 1), (71, .invokevirtual 430, 3), (74, .aload_n 0, 1), (75, .aload_n 0, 1), (76, .getfield 76, 3), (79, .aload_n 0, 1), (80, .getfield 73, 3), (83, .bipush 45, 2), (85, .iaload, 1), (86, .invokevirtual 430, 3), (89, .isub, 1), (90, .aload_n 0, 1), (91, .aload_n 0, 1), (92, .getfield 76, 3), (95, .iload_n 1, 1), (96, .aload_n 0, 1), (97, .getfield 73, 3), (100, .bipush 45, 2), (102, .iaload, 1), (103, .invokevirtual 427, 3), (106, .iadd, 1), (107, .ireturn, 1)]
def m_R_loses : AM := (12, ⟨"HeathForksModel", "loses", "(I)I"⟩, prog_14_method_107_code, tb_R_loses, 2, some .int, 6)
theorem tk_R_loses : tabOk prog_14_method_107_code tb_R_loses := by unfold tabOk; decide +kernel
set_option maxRecDepth 20000 in
theorem bb0_R_loses : cB m_R_loses 1 := ⟨(gwt1 13 rfl rfl), (gwt9 25 rfl rfl), ⟨by decide, by decide⟩, by decide +kernel, by decide⟩
theorem bb_R_loses : cB m_R_loses 1 := bb0_R_loses
set_option maxRecDepth 20000 in
theorem vv_R_loses : cV m_R_loses := ⟨(gwt9 23 rfl rfl), (gwt9 24 rfl rfl)⟩
def tb_R_richest : List (Nat × Instr × Nat) := [(0, .aload_n 0, 1), (1, .iconst 0, 1), (2, .putfield 102, 3), (5, .iconst (-1), 1), (6, .istore_n 1, 1), (7, .iconst 0, 1), (8, .istore_n 2, 1), (9, .iload_n 2, 1), (10, .aload_n 0, 1), (11, .getfield 328, 3), (14, .if_icmp .ge 43, 3), (17, .aload_n 0, 1), (18, .getfield 73, 3), (21, .iconst 2, 1), (22, .iload_n 2, 1), (23, .imul, 1), (24, .iconst 1, 1), (25, .iadd, 1), (26, .iaload, 1), (27, .iload_n 1, 1), (28, .iconst (-1), 1), (29, .if_icmp .ne 7, 3), (32, .iconst 0, 1), (33, .goto 13, 3), (36, .aload_n 0, 1), (37, .getfield 73, 3), (40, .iconst 2, 1), (41, .iload_n 1, 1), (42, .imul, 1), (43, .iconst 1, 1), (44, .iadd, 1), (45, .iaload, 1), (46, .if_icmp .le 5, 3), (49, .iload_n 2, 1), (50, .istore_n 1, 1), (51, .iinc 2 1, 3), (54, .goto (-45), 3), (57, .iload_n 1, 1), (58, .ireturn, 1)]
def m_R_richest : AM := (12, ⟨"HeathForksModel", "richest", "()I"⟩, prog_14_method_108_code, tb_R_richest, 3, some .int, 0)
theorem tk_R_richest : tabOk prog_14_method_108_code tb_R_richest := by unfold tabOk; decide +kernel
set_option maxRecDepth 20000 in
theorem bb0_R_richest : cB m_R_richest 0 := ⟨(gwt1 13 rfl rfl), (gwt9 29 rfl rfl), ⟨by decide, by decide⟩, by decide +kernel, by decide⟩
theorem bb_R_richest : cB m_R_richest 0 := bb0_R_richest
set_option maxRecDepth 20000 in
theorem vv_R_richest : cV m_R_richest := ⟨(gwt9 27 rfl rfl), (gwt9 28 rfl rfl)⟩
def tb_R_driest : List (Nat × Instr × Nat) := [(0, .aload_n 0, 1), (1, .iconst 0, 1), (2, .putfield 102, 3), (5, .aload_n 0, 1), (6, .getfield 335, 3), (9, .ifCond .ne 5, 3), (12, .iconst (-1), 1), (13, .ireturn, 1), (14, .iconst 0, 1), (15, .istore_n 1, 1), (16, .iconst 1, 1), (17, .istore_n 2, 1), (18, .iload_n 2, 1), (19, .iconst 4, 1), (20, .if_icmp .ge 36, 3), (23, .aload_n 0, 1), (24, .aload_n 0, 1), (25, .getfield 73, 3), (28, .iload_n 2, 1), (29, .invokevirtual 430, 3), (32, .aload_n 0, 1), (33, .aload_n 0, 1), (34, .getfield 73, 3), (37, .iload_n 1, 1), (38, .invokevirtual 430, 3), (41, .if_icmp .ge 7, 3), (44, .iload_n 2, 1), (45, .goto 4, 3), (48, .iload_n 1, 1), (49, .istore_n 1, 1), (50, .iinc 2 1, 3), (53, .goto (-35), 3), (56, .iload_n 1, 1), (57, .ireturn, 1)]
def m_R_driest : AM := (12, ⟨"HeathForksModel", "driest", "()I"⟩, prog_14_method_109_code, tb_R_driest, 3, some .int, 6)
theorem tk_R_driest : tabOk prog_14_method_109_code tb_R_driest := by unfold tabOk; decide +kernel
set_option maxRecDepth 20000 in
theorem bb0_R_driest : cB m_R_driest 0 := ⟨(gwt1 13 rfl rfl), (gwt9 33 rfl rfl), ⟨by decide, by decide⟩, by decide +kernel, by decide⟩
theorem bb_R_driest : cB m_R_driest 0 := bb0_R_driest
set_option maxRecDepth 20000 in
theorem vv_R_driest : cV m_R_driest := ⟨(gwt9 31 rfl rfl), (gwt9 32 rfl rfl)⟩
def tb_R_image : List (Nat × Instr × Nat) := [(0, .aload_n 0, 1), (1, .iconst 0, 1), (2, .putfield 102, 3), (5, .aload_n 0, 1), (6, .getfield 335, 3), (9, .ifCond .ne 5, 3), (12, .iconst (-1), 1), (13, .ireturn, 1), (14, .aload_n 0, 1), (15, .getfield 73, 3), (18, .aload_n 0, 1), (19, .getfield 99, 3), (22, .invokestatic 331, 3), (25, .aload_n 0, 1), (26, .iconst 1, 1), (27, .putfield 347, 3), (30, .aload_n 0, 1), (31, .getfield 73, 3), (34, .bipush 45, 2), (36, .iaload, 1), (37, .ireturn, 1)]
def m_R_image : AM := (12, ⟨"HeathForksModel", "image", "()I"⟩, prog_14_method_110_code, tb_R_image, 1, some .int, 1)
theorem tk_R_image : tabOk prog_14_method_110_code tb_R_image := by unfold tabOk; decide +kernel
set_option maxRecDepth 20000 in
theorem bb0_R_image : cB m_R_image 0 := ⟨(gwt1 13 rfl rfl), (gwt9 37 rfl rfl), ⟨by decide, by decide⟩, by decide +kernel, by decide⟩
theorem bb_R_image : cB m_R_image 0 := bb0_R_image
set_option maxRecDepth 20000 in
theorem vv_R_image : cV m_R_image := ⟨(gwt9 35 rfl rfl), (gwt9 36 rfl rfl)⟩
def tb_R_back : List (Nat × Instr × Nat) := [(0, .aload_n 0, 1), (1, .iconst 0, 1), (2, .putfield 102, 3), (5, .aload_n 0, 1), (6, .getfield 347, 3), (9, .ifCond .ne 5, 3), (12, .iconst (-1), 1), (13, .ireturn, 1), (14, .aload_n 0, 1), (15, .getfield 99, 3), (18, .aload_n 0, 1), (19, .getfield 73, 3), (22, .invokestatic 331, 3), (25, .aload_n 0, 1), (26, .iconst 0, 1), (27, .putfield 344, 3), (30, .aload_n 0, 1), (31, .getfield 73, 3), (34, .bipush 45, 2), (36, .iaload, 1), (37, .ireturn, 1)]
def m_R_back : AM := (12, ⟨"HeathForksModel", "back", "()I"⟩, prog_14_method_111_code, tb_R_back, 1, some .int, 1)
theorem tk_R_back : tabOk prog_14_method_111_code tb_R_back := by unfold tabOk; decide +kernel
set_option maxRecDepth 20000 in
theorem bb0_R_back : cB m_R_back 0 := ⟨(gwt1 13 rfl rfl), (gwt9 41 rfl rfl), ⟨by decide, by decide⟩, by decide +kernel, by decide⟩
theorem bb_R_back : cB m_R_back 0 := bb0_R_back
set_option maxRecDepth 20000 in
theorem vv_R_back : cV m_R_back := ⟨(gwt9 39 rfl rfl), (gwt9 40 rfl rfl)⟩
def tb_R_count : List (Nat × Instr × Nat) := [(0, .aload_n 0, 1), (1, .iconst 0, 1), (2, .putfield 102, 3), (5, .iload_n 1, 1), (6, .tableswitch 217 0 13 #[70, 75, 80, 85, 90, 95, 100, 105, 113, 155, 191, 199, 204, 212], 70), (76, .aload_n 0, 1), (77, .getfield 335, 3), (80, .ireturn, 1), (81, .aload_n 0, 1), (82, .getfield 319, 3), (85, .ireturn, 1), (86, .aload_n 0, 1), (87, .getfield 328, 3), (90, .ireturn, 1), (91, .aload_n 0, 1), (92, .getfield 311, 3), (95, .ireturn, 1), (96, .aload_n 0, 1), (97, .getfield 314, 3), (100, .ireturn, 1), (101, .aload_n 0, 1), (102, .getfield 115, 3), (105, .ireturn, 1), (106, .aload_n 0, 1), (107, .getfield 79, 3), (110, .ireturn, 1), (111, .aload_n 0, 1), (112, .getfield 73, 3), (115, .bipush 45, 2), (117, .iaload, 1), (118, .ireturn, 1), (119, .iconst 0, 1), (120, .istore_n 2, 1), (121, .iconst 0, 1), (122, .istore_n 3, 1), (123, .iload_n 3, 1), (124, .aload_n 0, 1), (125, .getfield 335, 3), (128, .if_icmp .ge 31, 3), (131, .iload_n 2, 1), (132, .aload_n 0, 1), (133, .getfield 73, 3), (136, .bipush 14, 2), (138, .iload_n 3, 1), (139, .iadd, 1), (140, .iaload, 1), (141, .ifCond .le 9, 3), (144, .iconst 1, 1), (145, .iload_n 3, 1), (146, .ishl, 1), (147, .goto 4, 3), (150, .iconst 0, 1), (151, .ior, 1), (152, .istore_n 2, 1), (153, .iinc 3 1, 3), (156, .goto (-33), 3), (159, .iload_n 2, 1), (160, .ireturn, 1), (161, .iconst 0, 1), (162, .istore_n 3, 1), (163, .iconst 0, 1), (164, .istore 4, 2), (166, .iload 4, 2), (168, .aload_n 0, 1), (169, .getfield 328, 3), (172, .if_icmp .ge 23, 3), (175, .iload_n 3, 1), (176, .aload_n 0, 1), (177, .getfield 73, 3), (180, .iconst 2, 1), (181, .iload 4, 2), (183, .imul, 1), (184, .iconst 1, 1), (185, .iadd, 1), (186, .iaload, 1), (187, .iadd, 1), (188, .istore_n 3, 1), (189, .iinc 4 1, 3), (192, .goto (-26), 3), (195, .iload_n 3, 1), (196, .ireturn, 1), (197, .aload_n 0, 1), (198, .getfield 73, 3), (201, .bipush 44, 2), (203, .iaload, 1), (204, .ireturn, 1), (205, .aload_n 0, 1), (206, .getfield 341, 3), (209, .ireturn, 1), (210, .aload_n 0, 1), (211, .getfield 73, 3), (214, .bipush 46, 2), (216, .iaload, 1), (217, .ireturn, 1), (218, .aload_n 0, 1), (219, .getfield 344, 3), (222, .ireturn, 1), (223, .ldc_w 426, 3), (226, .ireturn, 1)]
def m_R_count : AM := (12, ⟨"HeathForksModel", "count", "(I)I"⟩, prog_14_method_112_code, tb_R_count, 5, some .int, 0)
theorem tk_R_count : tabOk prog_14_method_112_code tb_R_count := by unfold tabOk; decide +kernel
set_option maxRecDepth 20000 in
theorem bb0_R_count : cB m_R_count 1 := ⟨(gwt1 13 rfl rfl), (gwt9 45 rfl rfl), ⟨by decide, by decide⟩, by decide +kernel, by decide⟩
theorem bb_R_count : cB m_R_count 1 := bb0_R_count
set_option maxRecDepth 20000 in
theorem vv_R_count : cV m_R_count := ⟨(gwt9 43 rfl rfl), (gwt9 44 rfl rfl)⟩
set_option maxRecDepth 20000 in
theorem lk_0_110 : Cond.methodLink (am_own.getD 0 "") 110 ⟨"HeathForks$Tape", "bytesIn", "(I)I"⟩ ∈ gw := (gwt2 160 rfl rfl)
set_option maxRecDepth 20000 in
theorem lk_0_117 : Cond.methodLink (am_own.getD 0 "") 117 ⟨"HeathForks$Tape", "append", "(I)V"⟩ ∈ gw := (gwt2 163 rfl rfl)
set_option maxRecDepth 20000 in
theorem lk_2_112 : Cond.methodLink (am_own.getD 2 "") 112 ⟨"HeathForks$HeathReader", "setItem", "(IIII)V"⟩ ∈ gw := (gwt2 185 rfl rfl)
set_option maxRecDepth 20000 in
theorem lk_13_335 : Cond.methodLink (am_own.getD 13 "") 335 ⟨"java/lang/String", "coder", "()B"⟩ ∈ gw := (gwt2 219 rfl rfl)
set_option maxRecDepth 20000 in
theorem lk_14_88 : Cond.methodLink (am_own.getD 14 "") 88 ⟨"java/lang/StringLatin1", "canEncode", "(I)Z"⟩ ∈ gw := (gwt2 226 rfl rfl)
set_option maxRecDepth 20000 in
theorem lk_14_92 : Cond.methodLink (am_own.getD 14 "") 92 ⟨"java/lang/Math", "max", "(II)I"⟩ ∈ gw := (gwt2 229 rfl rfl)
set_option maxRecDepth 20000 in
theorem lk_14_38 : Cond.methodLink (am_own.getD 14 "") 38 ⟨"java/lang/Math", "min", "(II)I"⟩ ∈ gw := (gwt2 232 rfl rfl)
set_option maxRecDepth 20000 in
theorem lk_14_95 : Cond.methodLink (am_own.getD 14 "") 95 ⟨"java/lang/StringLatin1", "indexOfChar", "([BIII)I"⟩ ∈ gw := (gwt2 235 rfl rfl)
set_option maxRecDepth 20000 in
theorem lk_13_492 : Cond.methodLink (am_own.getD 13 "") 492 ⟨"java/lang/String", "isLatin1", "()Z"⟩ ∈ gw := (gwt2 209 rfl rfl)
set_option maxRecDepth 20000 in
theorem lk_13_505 : Cond.methodLink (am_own.getD 13 "") 505 ⟨"java/lang/String", "length", "()I"⟩ ∈ gw := (gwt2 215 rfl rfl)
set_option maxRecDepth 20000 in
theorem lk_13_637 : Cond.methodLink (am_own.getD 13 "") 637 ⟨"java/lang/StringLatin1", "indexOf", "([BIII)I"⟩ ∈ gw := (gwt2 223 rfl rfl)
set_option maxRecDepth 20000 in
theorem lk_13_633 : Cond.methodLink (am_own.getD 13 "") 633 ⟨"java/lang/String", "indexOf", "(II)I"⟩ ∈ gw := (gwt2 205 rfl rfl)
set_option maxRecDepth 20000 in
theorem lk_0_414 : Cond.methodLink (am_own.getD 0 "") 414 ⟨"java/lang/String", "indexOf", "(I)I"⟩ ∈ gw := (gwt2 201 rfl rfl)
set_option maxRecDepth 20000 in
theorem lk_2_45 : Cond.methodLink (am_own.getD 2 "") 45 ⟨"HeathForks$Tape", "peek", "()I"⟩ ∈ gw := (gwt2 194 rfl rfl)
set_option maxRecDepth 20000 in
theorem lk_2_103 : Cond.methodLink (am_own.getD 2 "") 103 ⟨"HeathForks$Tape", "number", "(I)I"⟩ ∈ gw := (gwt3 71 rfl rfl)
set_option maxRecDepth 20000 in
theorem lk_2_87 : Cond.methodLink (am_own.getD 2 "") 87 ⟨"HeathForks$HeathReader", "lettersOf", "(I)Ljava/lang/String;"⟩ ∈ gw := (gwt3 53 rfl rfl)
set_option maxRecDepth 20000 in
theorem lk_2_62 : Cond.methodLinkNest (am_own.getD 2 "") 62 ⟨"HeathForks", "placeIn", "(Ljava/lang/String;I)I"⟩ "HeathForks" ∈ nw := nwt2 198 rfl rfl
set_option maxRecDepth 20000 in
theorem lk_2_91 : Cond.methodLinkNest (am_own.getD 2 "") 91 ⟨"HeathForks", "holds", "(II)Z"⟩ "HeathForks" ∈ nw := nwt3 61 rfl rfl
set_option maxRecDepth 20000 in
theorem lk_2_95 : Cond.methodLinkNest (am_own.getD 2 "") 95 ⟨"HeathForks", "bit", "(I)I"⟩ "HeathForks" ∈ nw := nwt3 64 rfl rfl
set_option maxRecDepth 20000 in
theorem lk_2_99 : Cond.methodLink (am_own.getD 2 "") 99 ⟨"HeathForks$HeathReader", "readNumber", "(LHeathForks$Tape;III)Z"⟩ ∈ gw := (gwt3 67 rfl rfl)
set_option maxRecDepth 20000 in
theorem lk_1_22 : Cond.methodLink (am_own.getD 1 "") 22 ⟨"HeathForks$Tape", "peek", "()I"⟩ ∈ gw := (gwt3 87 rfl rfl)
set_option maxRecDepth 20000 in
theorem lk_2_49 : Cond.methodLink (am_own.getD 2 "") 49 ⟨"HeathForks$Tape", "take", "(I)Z"⟩ ∈ gw := (gwt3 83 rfl rfl)
set_option maxRecDepth 20000 in
theorem lk_2_37 : Cond.methodLink (am_own.getD 2 "") 37 ⟨"HeathForks$HeathReader", "fillWithout", "(II)V"⟩ ∈ gw := (gwt2 179 rfl rfl)
set_option maxRecDepth 20000 in
theorem lk_2_69 : Cond.methodLink (am_own.getD 2 "") 69 ⟨"HeathForks$HeathReader", "readItems", "(LHeathForks$Tape;II)Z"⟩ ∈ gw := (gwt3 49 rfl rfl)
set_option maxRecDepth 20000 in
theorem lk_2_73 : Cond.methodLink (am_own.getD 2 "") 73 ⟨"HeathForks$HeathReader", "readCourse", "(LHeathForks$Tape;I)Z"⟩ ∈ gw := (gwt3 79 rfl rfl)
set_option maxRecDepth 20000 in
theorem lk_3_71 : Cond.methodLink (am_own.getD 3 "") 71 ⟨"HeathForks$Heath", "isCell", "(I)Z"⟩ ∈ gw := (gwt3 110 rfl rfl)
set_option maxRecDepth 20000 in
theorem lk_3_75 : Cond.methodLink (am_own.getD 3 "") 75 ⟨"HeathForks$Heath", "columnOf", "(I)I"⟩ ∈ gw := (gwt3 114 rfl rfl)
set_option maxRecDepth 20000 in
theorem lk_3_78 : Cond.methodLink (am_own.getD 3 "") 78 ⟨"HeathForks$Heath", "rowOf", "(I)I"⟩ ∈ gw := (gwt3 118 rfl rfl)
set_option maxRecDepth 20000 in
theorem lk_3_65 : Cond.methodLink (am_own.getD 3 "") 65 ⟨"HeathForks$Heath", "beyond", "(II)I"⟩ ∈ gw := (gwt3 106 rfl rfl)
set_option maxRecDepth 20000 in
theorem lk_3_68 : Cond.methodLinkNest (am_own.getD 3 "") 68 ⟨"HeathForks", "bit", "(I)I"⟩ "HeathForks" ∈ nw := nwt3 122 rfl rfl
set_option maxRecDepth 20000 in
theorem lk_3_55 : Cond.methodLink (am_own.getD 3 "") 55 ⟨"java/lang/Math", "min", "(II)I"⟩ ∈ gw := (gwt3 101 rfl rfl)
set_option maxRecDepth 20000 in
theorem lk_3_61 : Cond.methodLink (am_own.getD 3 "") 61 ⟨"HeathForks$Heath", "besideBits", "(I)I"⟩ ∈ gw := (gwt3 102 rfl rfl)
set_option maxRecDepth 20000 in
theorem lk_2_121 : Cond.methodLink (am_own.getD 2 "") 121 ⟨"HeathForks$HeathReader", "itemOf", "(III)I"⟩ ∈ gw := (gwt3 93 rfl rfl)
set_option maxRecDepth 20000 in
theorem lk_2_143 : Cond.methodLink (am_own.getD 2 "") 143 ⟨"HeathForks$Heath", "isCell", "(I)Z"⟩ ∈ gw := (gwt3 127 rfl rfl)
set_option maxRecDepth 20000 in
theorem lk_2_146 : Cond.methodLink (am_own.getD 2 "") 146 ⟨"HeathForks$Heath", "moisten", "(II)V"⟩ ∈ gw := (gwt3 128 rfl rfl)
set_option maxRecDepth 20000 in
theorem lk_2_149 : Cond.methodLink (am_own.getD 2 "") 149 ⟨"HeathForks$Heath", "beyond", "(II)I"⟩ ∈ gw := (gwt3 132 rfl rfl)
set_option maxRecDepth 20000 in
theorem lk_2_153 : Cond.methodLink (am_own.getD 2 "") 153 ⟨"HeathForks$Heath", "addVein", "(I)V"⟩ ∈ gw := (gwt3 133 rfl rfl)
set_option maxRecDepth 20000 in
theorem lk_3_94 : Cond.methodLink (am_own.getD 3 "") 94 ⟨"HeathForks$Heath", "isFork", "(I)Z"⟩ ∈ gw := (gwt3 153 rfl rfl)
set_option maxRecDepth 20000 in
theorem lk_2_157 : Cond.methodLink (am_own.getD 2 "") 157 ⟨"HeathForks$Heath", "setTrait", "(III)V"⟩ ∈ gw := (gwt3 149 rfl rfl)
set_option maxRecDepth 20000 in
theorem lk_2_125 : Cond.methodLink (am_own.getD 2 "") 125 ⟨"HeathForks$Heath", "lay", "(IIII)V"⟩ ∈ gw := (gwt3 97 rfl rfl)
set_option maxRecDepth 20000 in
theorem lk_2_128 : Cond.methodLink (am_own.getD 2 "") 128 ⟨"HeathForks$HeathReader", "settleVein", "(I)Z"⟩ ∈ gw := (gwt3 123 rfl rfl)
set_option maxRecDepth 20000 in
theorem lk_2_131 : Cond.methodLink (am_own.getD 2 "") 131 ⟨"HeathForks$Heath", "addIron", "(II)Z"⟩ ∈ gw := (gwt3 137 rfl rfl)
set_option maxRecDepth 20000 in
theorem lk_2_134 : Cond.methodLink (am_own.getD 2 "") 134 ⟨"HeathForks$Heath", "addRock", "(II)Z"⟩ ∈ gw := (gwt3 141 rfl rfl)
set_option maxRecDepth 20000 in
theorem lk_2_140 : Cond.methodLink (am_own.getD 2 "") 140 ⟨"HeathForks$HeathReader", "settleFork", "(I)Z"⟩ ∈ gw := (gwt3 145 rfl rfl)
set_option maxRecDepth 20000 in
theorem lk_2_41 : Cond.methodLink (am_own.getD 2 "") 41 ⟨"HeathForks$HeathReader", "readClause", "(LHeathForks$Tape;)Z"⟩ ∈ gw := (gwt2 189 rfl rfl)
set_option maxRecDepth 20000 in
theorem lk_2_53 : Cond.methodLink (am_own.getD 2 "") 53 ⟨"HeathForks$HeathReader", "settle", "()Z"⟩ ∈ gw := (gwt3 89 rfl rfl)
set_option maxRecDepth 20000 in
theorem lk_4_35 : Cond.methodLink (am_own.getD 4 "") 35 ⟨"HeathForks$Tape", "peek", "()I"⟩ ∈ gw := (gwt3 166 rfl rfl)
set_option maxRecDepth 20000 in
theorem lk_4_43 : Cond.methodLink (am_own.getD 4 "") 43 ⟨"HeathForks$LawReader", "readSum", "(LHeathForks$Tape;I)Z"⟩ ∈ gw := (gwt3 167 rfl rfl)
set_option maxRecDepth 20000 in
theorem lk_4_70 : Cond.methodLinkNest (am_own.getD 4 "") 70 ⟨"HeathForks", "placeIn", "(Ljava/lang/String;I)I"⟩ "HeathForks" ∈ nw := nwt3 176 rfl rfl
set_option maxRecDepth 20000 in
theorem lk_4_31 : Cond.methodLink (am_own.getD 4 "") 31 ⟨"HeathForks$Law", "emit", "(I)V"⟩ ∈ gw := (gwt3 177 rfl rfl)
set_option maxRecDepth 20000 in
theorem lk_4_74 : Cond.methodLink (am_own.getD 4 "") 74 ⟨"HeathForks$Tape", "number", "(I)I"⟩ ∈ gw := (gwt3 181 rfl rfl)
set_option maxRecDepth 20000 in
theorem lk_4_62 : Cond.methodLink (am_own.getD 4 "") 62 ⟨"HeathForks$LawReader", "readAtom", "(LHeathForks$Tape;I)Z"⟩ ∈ gw := (gwt3 171 rfl rfl)
set_option maxRecDepth 20000 in
theorem lk_4_65 : Cond.methodLink (am_own.getD 4 "") 65 ⟨"HeathForks$LawReader", "reckoning", "(I)I"⟩ ∈ gw := (gwt3 182 rfl rfl)
set_option maxRecDepth 20000 in
theorem lk_4_51 : Cond.methodLink (am_own.getD 4 "") 51 ⟨"HeathForks$LawReader", "readCondition", "(LHeathForks$Tape;IZ)Z"⟩ ∈ gw := (gwt3 188 rfl rfl)
set_option maxRecDepth 20000 in
theorem lk_4_39 : Cond.methodLink (am_own.getD 4 "") 39 ⟨"HeathForks$Tape", "take", "(I)Z"⟩ ∈ gw := (gwt3 165 rfl rfl)
set_option maxRecDepth 20000 in
theorem lk_4_55 : Cond.methodLink (am_own.getD 4 "") 55 ⟨"HeathForks$LawReader", "readUnit", "(LHeathForks$Tape;IZ)Z"⟩ ∈ gw := (gwt3 192 rfl rfl)
set_option maxRecDepth 20000 in
theorem lk_4_58 : Cond.methodLink (am_own.getD 4 "") 58 ⟨"HeathForks$LawReader", "readNested", "(LHeathForks$Tape;II)Z"⟩ ∈ gw := (gwt3 196 rfl rfl)
set_option maxRecDepth 20000 in
theorem lk_4_47 : Cond.methodLink (am_own.getD 4 "") 47 ⟨"HeathForks$LawReader", "comparing", "(I)I"⟩ ∈ gw := (gwt3 185 rfl rfl)
set_option maxRecDepth 20000 in
theorem lk_4_27 : Cond.methodLink (am_own.getD 4 "") 27 ⟨"HeathForks$LawReader", "readClause", "(LHeathForks$Tape;)Z"⟩ ∈ gw := (gwt3 161 rfl rfl)
set_option maxRecDepth 20000 in
theorem lk_6_38 : Cond.methodLink (am_own.getD 6 "") 38 ⟨"HeathForks$Tape", "peek", "()I"⟩ ∈ gw := (gwt3 213 rfl rfl)
set_option maxRecDepth 20000 in
theorem lk_6_44 : Cond.methodLinkNest (am_own.getD 6 "") 44 ⟨"HeathForks", "placeIn", "(Ljava/lang/String;I)I"⟩ "HeathForks" ∈ nw := nwt3 215 rfl rfl
set_option maxRecDepth 20000 in
theorem lk_6_48 : Cond.methodLink (am_own.getD 6 "") 48 ⟨"HeathForks$Walks", "add", "(II)V"⟩ ∈ gw := (gwt3 216 rfl rfl)
set_option maxRecDepth 20000 in
theorem lk_6_31 : Cond.methodLink (am_own.getD 6 "") 31 ⟨"HeathForks$Tape", "take", "(I)Z"⟩ ∈ gw := (gwt3 208 rfl rfl)
set_option maxRecDepth 20000 in
theorem lk_6_35 : Cond.methodLink (am_own.getD 6 "") 35 ⟨"HeathForks$WalksReader", "readStretch", "(LHeathForks$Tape;)Z"⟩ ∈ gw := (gwt3 209 rfl rfl)
set_option maxRecDepth 20000 in
theorem lk_6_27 : Cond.methodLink (am_own.getD 6 "") 27 ⟨"HeathForks$WalksReader", "readStretches", "(LHeathForks$Tape;)Z"⟩ ∈ gw := (gwt3 204 rfl rfl)
set_option maxRecDepth 20000 in
theorem lk_0_121 : Cond.methodLink (am_own.getD 0 "") 121 ⟨"HeathForks$HeathReader", "faultOf", "(LHeathForks$Tape;)I"⟩ ∈ gw := (gwt2 175 rfl rfl)
set_option maxRecDepth 20000 in
theorem lk_0_125 : Cond.methodLink (am_own.getD 0 "") 125 ⟨"HeathForks$LawReader", "faultOf", "(LHeathForks$Tape;)I"⟩ ∈ gw := (gwt3 157 rfl rfl)
set_option maxRecDepth 20000 in
theorem lk_0_126 : Cond.methodLink (am_own.getD 0 "") 126 ⟨"HeathForks$WalksReader", "faultOf", "(LHeathForks$Tape;)I"⟩ ∈ gw := (gwt3 200 rfl rfl)
set_option maxRecDepth 20000 in
theorem lk_8_64 : Cond.methodLinkNest (am_own.getD 8 "") 64 ⟨"HeathForks", "bit", "(I)I"⟩ "HeathForks" ∈ nw := nwt4 6 rfl rfl
set_option maxRecDepth 20000 in
theorem lk_8_40 : Cond.methodLink (am_own.getD 8 "") 40 ⟨"HeathForks$Heath", "isFork", "(I)Z"⟩ ∈ gw := (gwt3 237 rfl rfl)
set_option maxRecDepth 20000 in
theorem lk_8_46 : Cond.methodLink (am_own.getD 8 "") 46 ⟨"HeathForks$Heath", "trait", "(II)I"⟩ ∈ gw := (gwt3 238 rfl rfl)
set_option maxRecDepth 20000 in
theorem lk_8_50 : Cond.methodLink (am_own.getD 8 "") 50 ⟨"HeathForks$Moor", "move", "(III)V"⟩ ∈ gw := (gwt4 2 rfl rfl)
set_option maxRecDepth 20000 in
theorem lk_0_400 : Cond.methodLink (am_own.getD 0 "") 400 ⟨"HeathForks$HeathReader", "exchange", "(LHeathForks$Heath;)LHeathForks$Heath;"⟩ ∈ gw := (gwt3 229 rfl rfl)
set_option maxRecDepth 20000 in
theorem lk_0_404 : Cond.methodLink (am_own.getD 0 "") 404 ⟨"HeathForks$Moor", "begin", "(LHeathForks$Heath;)V"⟩ ∈ gw := (gwt3 233 rfl rfl)
set_option maxRecDepth 20000 in
theorem lk_0_385 : Cond.methodLink (am_own.getD 0 "") 385 ⟨"HeathForks$Acts", "clear", "()V"⟩ ∈ gw := (gwt4 7 rfl rfl)
set_option maxRecDepth 20000 in
theorem lk_0_408 : Cond.methodLink (am_own.getD 0 "") 408 ⟨"HeathForks$LawReader", "exchange", "(LHeathForks$Law;)LHeathForks$Law;"⟩ ∈ gw := (gwt4 15 rfl rfl)
set_option maxRecDepth 20000 in
theorem lk_0_411 : Cond.methodLink (am_own.getD 0 "") 411 ⟨"HeathForks$WalksReader", "exchange", "(LHeathForks$Walks;)LHeathForks$Walks;"⟩ ∈ gw := (gwt4 23 rfl rfl)
set_option maxRecDepth 20000 in
theorem lk_0_127 : Cond.methodLink (am_own.getD 0 "") 127 ⟨"HeathForks", "takeHeath", "()I"⟩ ∈ gw := (gwt3 225 rfl rfl)
set_option maxRecDepth 20000 in
theorem lk_0_131 : Cond.methodLink (am_own.getD 0 "") 131 ⟨"HeathForks", "takeLaw", "()I"⟩ ∈ gw := (gwt4 11 rfl rfl)
set_option maxRecDepth 20000 in
theorem lk_0_134 : Cond.methodLink (am_own.getD 0 "") 134 ⟨"HeathForks", "takeWalks", "()I"⟩ ∈ gw := (gwt4 19 rfl rfl)
set_option maxRecDepth 20000 in
theorem lk_0_137 : Cond.methodLink (am_own.getD 0 "") 137 ⟨"HeathForks", "hasHeath", "()Z"⟩ ∈ gw := (gwt4 31 rfl rfl)
set_option maxRecDepth 20000 in
theorem lk_3_91 : Cond.methodLink (am_own.getD 3 "") 91 ⟨"HeathForks$Heath", "hasWater", "(I)Z"⟩ ∈ gw := (gwt4 44 rfl rfl)
set_option maxRecDepth 20000 in
theorem lk_0_153 : Cond.methodLink (am_own.getD 0 "") 153 ⟨"HeathForks$Heath", "isCell", "(I)Z"⟩ ∈ gw := (gwt4 39 rfl rfl)
set_option maxRecDepth 20000 in
theorem lk_0_160 : Cond.methodLink (am_own.getD 0 "") 160 ⟨"HeathForks$Heath", "waterIn", "(II)I"⟩ ∈ gw := (gwt4 40 rfl rfl)
set_option maxRecDepth 20000 in
theorem lk_0_164 : Cond.methodLink (am_own.getD 0 "") 164 ⟨"HeathForks$Heath", "ironIn", "(I)I"⟩ ∈ gw := (gwt4 48 rfl rfl)
set_option maxRecDepth 20000 in
theorem lk_0_167 : Cond.methodLink (am_own.getD 0 "") 167 ⟨"HeathForks$Heath", "rockIn", "(I)I"⟩ ∈ gw := (gwt4 52 rfl rfl)
set_option maxRecDepth 20000 in
theorem lk_0_173 : Cond.methodLink (am_own.getD 0 "") 173 ⟨"HeathForks", "holds", "(II)Z"⟩ ∈ gw := (gwt4 56 rfl rfl)
set_option maxRecDepth 20000 in
theorem lk_0_177 : Cond.methodLink (am_own.getD 0 "") 177 ⟨"HeathForks$Moor", "sunkTo", "(I)I"⟩ ∈ gw := (gwt4 57 rfl rfl)
set_option maxRecDepth 20000 in
theorem lk_0_196 : Cond.methodLink (am_own.getD 0 "") 196 ⟨"HeathForks$Heath", "trait", "(II)I"⟩ ∈ gw := (gwt4 78 rfl rfl)
set_option maxRecDepth 20000 in
theorem lk_0_447 : Cond.methodLink (am_own.getD 0 "") 447 ⟨"java/lang/Math", "max", "(II)I"⟩ ∈ gw := (gwt4 79 rfl rfl)
set_option maxRecDepth 20000 in
theorem lk_8_60 : Cond.methodLink (am_own.getD 8 "") 60 ⟨"HeathForks$Moor", "placeOf", "(I)I"⟩ ∈ gw := (gwt4 88 rfl rfl)
set_option maxRecDepth 20000 in
theorem lk_0_452 : Cond.methodLink (am_own.getD 0 "") 452 ⟨"HeathForks$Moor", "othersIn", "(III)I"⟩ ∈ gw := (gwt4 84 rfl rfl)
set_option maxRecDepth 20000 in
theorem lk_5_43 : Cond.methodLinkNest (am_own.getD 5 "") 43 ⟨"HeathForks", "within", "(JII)I"⟩ "HeathForks" ∈ nw := nwt4 113 rfl rfl
set_option maxRecDepth 20000 in
theorem lk_5_33 : Cond.methodLink (am_own.getD 5 "") 33 ⟨"HeathForks$Law", "push", "(I)V"⟩ ∈ gw := (gwt4 104 rfl rfl)
set_option maxRecDepth 20000 in
theorem lk_5_25 : Cond.methodLink (am_own.getD 5 "") 25 ⟨"HeathForks$Law", "pop", "()I"⟩ ∈ gw := (gwt4 96 rfl rfl)
set_option maxRecDepth 20000 in
theorem lk_5_37 : Cond.methodLink (am_own.getD 5 "") 37 ⟨"HeathForks$Law", "joined", "(III)I"⟩ ∈ gw := (gwt4 108 rfl rfl)
set_option maxRecDepth 20000 in
theorem lk_5_29 : Cond.methodLink (am_own.getD 5 "") 29 ⟨"HeathForks$Law", "obey", "(I[I)V"⟩ ∈ gw := (gwt4 100 rfl rfl)
set_option maxRecDepth 20000 in
theorem lk_0_432 : Cond.methodLink (am_own.getD 0 "") 432 ⟨"HeathForks", "plainTwitch", "(LHeathForks$Moor;II)I"⟩ ∈ gw := (gwt4 74 rfl rfl)
set_option maxRecDepth 20000 in
theorem lk_0_435 : Cond.methodLink (am_own.getD 0 "") 435 ⟨"HeathForks", "tellLetters", "(LHeathForks$Moor;II)V"⟩ ∈ gw := (gwt4 80 rfl rfl)
set_option maxRecDepth 20000 in
theorem lk_0_439 : Cond.methodLink (am_own.getD 0 "") 439 ⟨"HeathForks$Law", "worth", "([I)I"⟩ ∈ gw := (gwt4 92 rfl rfl)
set_option maxRecDepth 20000 in
theorem lk_0_443 : Cond.methodLink (am_own.getD 0 "") 443 ⟨"HeathForks", "within", "(JII)I"⟩ ∈ gw := (gwt4 116 rfl rfl)
set_option maxRecDepth 20000 in
theorem lk_0_180 : Cond.methodLink (am_own.getD 0 "") 180 ⟨"HeathForks$Heath", "isFork", "(I)Z"⟩ ∈ gw := (gwt4 69 rfl rfl)
set_option maxRecDepth 20000 in
theorem lk_0_199 : Cond.methodLink (am_own.getD 0 "") 199 ⟨"HeathForks", "twitchIn", "(LHeathForks$Moor;II)I"⟩ ∈ gw := (gwt4 70 rfl rfl)
set_option maxRecDepth 20000 in
theorem lk_0_190 : Cond.methodLink (am_own.getD 0 "") 190 ⟨"HeathForks$Moor", "placeOf", "(I)I"⟩ ∈ gw := (gwt4 125 rfl rfl)
set_option maxRecDepth 20000 in
theorem lk_0_423 : Cond.methodLink (am_own.getD 0 "") 423 ⟨"HeathForks$Heath", "beyond", "(II)I"⟩ ∈ gw := (gwt4 126 rfl rfl)
set_option maxRecDepth 20000 in
theorem lk_0_336 : Cond.methodLink (am_own.getD 0 "") 336 ⟨"HeathForks$Moor", "trailOf", "(I)I"⟩ ∈ gw := (gwt4 127 rfl rfl)
set_option maxRecDepth 20000 in
theorem lk_9_22 : Cond.methodLink (am_own.getD 9 "") 22 ⟨"java/lang/Math", "min", "(II)I"⟩ ∈ gw := (gwt4 139 rfl rfl)
set_option maxRecDepth 20000 in
theorem lk_0_227 : Cond.methodLink (am_own.getD 0 "") 227 ⟨"HeathForks$Acts", "add", "(IIII)V"⟩ ∈ gw := (gwt4 135 rfl rfl)
set_option maxRecDepth 20000 in
theorem lk_0_298 : Cond.methodLink (am_own.getD 0 "") 298 ⟨"HeathForks$Moor", "move", "(III)V"⟩ ∈ gw := (gwt4 140 rfl rfl)
set_option maxRecDepth 20000 in
theorem lk_0_426 : Cond.methodLink (am_own.getD 0 "") 426 ⟨"HeathForks$Moor", "write", "(III)V"⟩ ∈ gw := (gwt4 141 rfl rfl)
set_option maxRecDepth 20000 in
theorem lk_0_203 : Cond.methodLink (am_own.getD 0 "") 203 ⟨"HeathForks", "goal", "(LHeathForks$Moor;II)I"⟩ ∈ gw := (gwt4 121 rfl rfl)
set_option maxRecDepth 20000 in
theorem lk_0_206 : Cond.methodLink (am_own.getD 0 "") 206 ⟨"HeathForks", "stepTo", "(IIZ)I"⟩ ∈ gw := (gwt4 131 rfl rfl)
set_option maxRecDepth 20000 in
theorem lk_0_216 : Cond.methodLink (am_own.getD 0 "") 216 ⟨"HeathForks", "isWet", "(I)Z"⟩ ∈ gw := (gwt4 161 rfl rfl)
set_option maxRecDepth 20000 in
theorem lk_0_231 : Cond.methodLink (am_own.getD 0 "") 231 ⟨"HeathForks", "wellDepth", "(I)I"⟩ ∈ gw := (gwt4 157 rfl rfl)
set_option maxRecDepth 20000 in
theorem lk_0_265 : Cond.methodLink (am_own.getD 0 "") 265 ⟨"HeathForks", "footPrice", "(I)I"⟩ ∈ gw := (gwt4 165 rfl rfl)
set_option maxRecDepth 20000 in
theorem lk_8_72 : Cond.methodLink (am_own.getD 8 "") 72 ⟨"java/lang/Math", "min", "(II)I"⟩ ∈ gw := (gwt4 177 rfl rfl)
set_option maxRecDepth 20000 in
theorem lk_8_75 : Cond.methodLink (am_own.getD 8 "") 75 ⟨"HeathForks$Moor", "pageAt", "(I)I"⟩ ∈ gw := (gwt4 182 rfl rfl)
set_option maxRecDepth 20000 in
theorem lk_8_78 : Cond.methodLink (am_own.getD 8 "") 78 ⟨"HeathForks$Moor", "bookLength", "()I"⟩ ∈ gw := (gwt4 173 rfl rfl)
set_option maxRecDepth 20000 in
theorem lk_8_82 : Cond.methodLink (am_own.getD 8 "") 82 ⟨"HeathForks$Moor", "cellOn", "(I)I"⟩ ∈ gw := (gwt4 178 rfl rfl)
set_option maxRecDepth 20000 in
theorem lk_8_85 : Cond.methodLink (am_own.getD 8 "") 85 ⟨"HeathForks$Moor", "twitchOn", "(I)I"⟩ ∈ gw := (gwt4 186 rfl rfl)
set_option maxRecDepth 20000 in
theorem lk_8_88 : Cond.methodLink (am_own.getD 8 "") 88 ⟨"HeathForks$Moor", "forkOn", "(I)I"⟩ ∈ gw := (gwt4 190 rfl rfl)
set_option maxRecDepth 20000 in
theorem lk_8_91 : Cond.methodLinkNest (am_own.getD 8 "") 91 ⟨"HeathForks", "holds", "(II)Z"⟩ "HeathForks" ∈ nw := nwt4 208 rfl rfl
set_option maxRecDepth 20000 in
theorem lk_0_210 : Cond.methodLink (am_own.getD 0 "") 210 ⟨"HeathForks", "canSink", "(I)Z"⟩ ∈ gw := (gwt4 149 rfl rfl)
set_option maxRecDepth 20000 in
theorem lk_0_213 : Cond.methodLink (am_own.getD 0 "") 213 ⟨"HeathForks", "priceNow", "(I)I"⟩ ∈ gw := (gwt4 153 rfl rfl)
set_option maxRecDepth 20000 in
theorem lk_0_219 : Cond.methodLink (am_own.getD 0 "") 219 ⟨"HeathForks$Moor", "twitchersIn", "(I)I"⟩ ∈ gw := (gwt4 169 rfl rfl)
set_option maxRecDepth 20000 in
theorem lk_0_222 : Cond.methodLink (am_own.getD 0 "") 222 ⟨"java/lang/Integer", "bitCount", "(I)I"⟩ ∈ gw := (gwt4 194 rfl rfl)
set_option maxRecDepth 20000 in
theorem lk_0_234 : Cond.methodLink (am_own.getD 0 "") 234 ⟨"HeathForks$Moor", "addWell", "(III)V"⟩ ∈ gw := (gwt4 200 rfl rfl)
set_option maxRecDepth 20000 in
theorem lk_0_238 : Cond.methodLink (am_own.getD 0 "") 238 ⟨"HeathForks$Moor", "addPay", "(II)V"⟩ ∈ gw := (gwt4 204 rfl rfl)
set_option maxRecDepth 20000 in
theorem lk_0_242 : Cond.methodLink (am_own.getD 0 "") 242 ⟨"HeathForks", "turned", "(J)J"⟩ ∈ gw := (gwt4 217 rfl rfl)
set_option maxRecDepth 20000 in
theorem lk_0_249 : Cond.methodLink (am_own.getD 0 "") 249 ⟨"HeathForks", "drawn", "(JI)I"⟩ ∈ gw := (gwt4 222 rfl rfl)
set_option maxRecDepth 20000 in
theorem lk_9_28 : Cond.methodLink (am_own.getD 9 "") 28 ⟨"java/lang/Math", "max", "(II)I"⟩ ∈ gw := (gwt4 237 rfl rfl)
set_option maxRecDepth 20000 in
theorem lk_8_67 : Cond.methodLink (am_own.getD 8 "") 67 ⟨"java/lang/Math", "max", "(II)I"⟩ ∈ gw := (gwt5 2 rfl rfl)
set_option maxRecDepth 20000 in
theorem lk_0_256 : Cond.methodLink (am_own.getD 0 "") 256 ⟨"HeathForks$Acts", "latest", "(I)I"⟩ ∈ gw := (gwt4 229 rfl rfl)
set_option maxRecDepth 20000 in
theorem lk_0_259 : Cond.methodLink (am_own.getD 0 "") 259 ⟨"HeathForks$Acts", "drop", "()V"⟩ ∈ gw := (gwt4 233 rfl rfl)
set_option maxRecDepth 20000 in
theorem lk_0_262 : Cond.methodLink (am_own.getD 0 "") 262 ⟨"HeathForks$Moor", "unstep", "(IIII)V"⟩ ∈ gw := (gwt4 238 rfl rfl)
set_option maxRecDepth 20000 in
theorem lk_0_268 : Cond.methodLink (am_own.getD 0 "") 268 ⟨"HeathForks$Moor", "dropWell", "(II)V"⟩ ∈ gw := (gwt5 3 rfl rfl)
set_option maxRecDepth 20000 in
theorem lk_0_271 : Cond.methodLink (am_own.getD 0 "") 271 ⟨"HeathForks$Moor", "bookLength", "()I"⟩ ∈ gw := (gwt5 11 rfl rfl)
set_option maxRecDepth 20000 in
theorem lk_0_274 : Cond.methodLink (am_own.getD 0 "") 274 ⟨"HeathForks$Moor", "forkOn", "(I)I"⟩ ∈ gw := (gwt5 12 rfl rfl)
set_option maxRecDepth 20000 in
theorem lk_0_277 : Cond.methodLink (am_own.getD 0 "") 277 ⟨"HeathForks$Moor", "cellOn", "(I)I"⟩ ∈ gw := (gwt5 13 rfl rfl)
set_option maxRecDepth 20000 in
theorem lk_0_280 : Cond.methodLink (am_own.getD 0 "") 280 ⟨"HeathForks$Moor", "twitchOn", "(I)I"⟩ ∈ gw := (gwt5 14 rfl rfl)
set_option maxRecDepth 20000 in
theorem lk_0_283 : Cond.methodLink (am_own.getD 0 "") 283 ⟨"HeathForks", "hasWalks", "(I)Z"⟩ ∈ gw := (gwt5 19 rfl rfl)
set_option maxRecDepth 20000 in
theorem lk_0_287 : Cond.methodLink (am_own.getD 0 "") 287 ⟨"HeathForks$Walks", "forkAt", "(I)I"⟩ ∈ gw := (gwt5 23 rfl rfl)
set_option maxRecDepth 20000 in
theorem lk_0_290 : Cond.methodLink (am_own.getD 0 "") 290 ⟨"HeathForks$Walks", "wayAt", "(I)I"⟩ ∈ gw := (gwt5 27 rfl rfl)
set_option maxRecDepth 20000 in
theorem lk_8_54 : Cond.methodLink (am_own.getD 8 "") 54 ⟨"java/lang/System", "arraycopy", "(Ljava/lang/Object;ILjava/lang/Object;II)V"⟩ ∈ gw := (gwt5 40 rfl rfl)
set_option maxRecDepth 20000 in
theorem lk_0_294 : Cond.methodLink (am_own.getD 0 "") 294 ⟨"HeathForks$Moor", "copy", "(LHeathForks$Moor;)V"⟩ ∈ gw := (gwt5 36 rfl rfl)
set_option maxRecDepth 20000 in
theorem lk_0_333 : Cond.methodLink (am_own.getD 0 "") 333 ⟨"HeathForks$Heath", "besideOf", "(I)I"⟩ ∈ gw := (gwt5 59 rfl rfl)
set_option maxRecDepth 20000 in
theorem lk_0_304 : Cond.methodLink (am_own.getD 0 "") 304 ⟨"HeathForks", "wellBrings", "(III)I"⟩ ∈ gw := (gwt5 55 rfl rfl)
set_option maxRecDepth 20000 in
theorem lk_0_301 : Cond.methodLink (am_own.getD 0 "") 301 ⟨"HeathForks", "allBring", "(II)I"⟩ ∈ gw := (gwt5 51 rfl rfl)
set_option maxRecDepth 20000 in
theorem lk_11_50 : Cond.methodLink (am_own.getD 11 "") 50 ⟨"java/lang/Math", "min", "(II)I"⟩ ∈ gw := (gwt5 71 rfl rfl)
set_option maxRecDepth 20000 in
theorem lk_11_59 : Cond.methodLink (am_own.getD 11 "") 59 ⟨"HeathForks$Heath", "waterIn", "(II)I"⟩ ∈ gw := (gwt5 72 rfl rfl)
set_option maxRecDepth 20000 in
theorem lk_11_62 : Cond.methodLinkNest (am_own.getD 11 "") 62 ⟨"HeathForks", "holds", "(II)Z"⟩ "HeathForks" ∈ nw := nwt5 73 rfl rfl
set_option maxRecDepth 20000 in
theorem lk_11_66 : Cond.methodLink (am_own.getD 11 "") 66 ⟨"HeathForks$Moor", "sunkTo", "(I)I"⟩ ∈ gw := (gwt5 74 rfl rfl)
set_option maxRecDepth 20000 in
theorem lk_11_73 : Cond.methodLink (am_own.getD 11 "") 73 ⟨"HeathForks$Heath", "rockIn", "(I)I"⟩ ∈ gw := (gwt5 75 rfl rfl)
set_option maxRecDepth 20000 in
theorem lk_11_76 : Cond.methodLink (am_own.getD 11 "") 76 ⟨"HeathForks$Heath", "besideOf", "(I)I"⟩ ∈ gw := (gwt5 76 rfl rfl)
set_option maxRecDepth 20000 in
theorem lk_11_79 : Cond.methodLinkNest (am_own.getD 11 "") 79 ⟨"HeathForks", "bit", "(I)I"⟩ "HeathForks" ∈ nw := nwt5 77 rfl rfl
set_option maxRecDepth 20000 in
theorem lk_11_97 : Cond.methodLink (am_own.getD 11 "") 97 ⟨"java/lang/Integer", "bitCount", "(I)I"⟩ ∈ gw := (gwt5 94 rfl rfl)
set_option maxRecDepth 20000 in
theorem lk_11_102 : Cond.methodLink (am_own.getD 11 "") 102 ⟨"java/lang/Math", "max", "(II)I"⟩ ∈ gw := (gwt5 95 rfl rfl)
set_option maxRecDepth 20000 in
theorem lk_11_90 : Cond.methodLink (am_own.getD 11 "") 90 ⟨"HeathForks$WellPlan", "isBetter", "(III)Z"⟩ ∈ gw := (gwt5 86 rfl rfl)
set_option maxRecDepth 20000 in
theorem lk_11_94 : Cond.methodLink (am_own.getD 11 "") 94 ⟨"HeathForks$WellPlan", "yieldOf", "(I)I"⟩ ∈ gw := (gwt5 90 rfl rfl)
set_option maxRecDepth 20000 in
theorem lk_11_82 : Cond.methodLink (am_own.getD 11 "") 82 ⟨"HeathForks$WellPlan", "consider", "(III)V"⟩ ∈ gw := (gwt5 82 rfl rfl)
set_option maxRecDepth 20000 in
theorem lk_11_86 : Cond.methodLink (am_own.getD 11 "") 86 ⟨"HeathForks$WellPlan", "searchBeyond", "(I)V"⟩ ∈ gw := (gwt5 96 rfl rfl)
set_option maxRecDepth 20000 in
theorem lk_0_308 : Cond.methodLink (am_own.getD 0 "") 308 ⟨"HeathForks$WellPlan", "prepare", "(LHeathForks$Heath;LHeathForks$Moor;I)V"⟩ ∈ gw := (gwt5 67 rfl rfl)
set_option maxRecDepth 20000 in
theorem lk_0_312 : Cond.methodLink (am_own.getD 0 "") 312 ⟨"HeathForks$WellPlan", "search", "()V"⟩ ∈ gw := (gwt5 78 rfl rfl)
set_option maxRecDepth 20000 in
theorem lk_0_429 : Cond.methodLink (am_own.getD 0 "") 429 ⟨"HeathForks$Heath", "allCells", "()I"⟩ ∈ gw := (gwt5 108 rfl rfl)
set_option maxRecDepth 20000 in
theorem lk_3_81 : Cond.methodLinkNest (am_own.getD 3 "") 81 ⟨"HeathForks", "holds", "(II)Z"⟩ "HeathForks" ∈ nw := nwt5 117 rfl rfl
set_option maxRecDepth 20000 in
theorem lk_3_85 : Cond.methodLink (am_own.getD 3 "") 85 ⟨"HeathForks$Heath", "besideOf", "(I)I"⟩ ∈ gw := (gwt5 118 rfl rfl)
set_option maxRecDepth 20000 in
theorem lk_0_324 : Cond.methodLink (am_own.getD 0 "") 324 ⟨"HeathForks", "freeOf", "(I)I"⟩ ∈ gw := (gwt5 104 rfl rfl)
set_option maxRecDepth 20000 in
theorem lk_0_327 : Cond.methodLink (am_own.getD 0 "") 327 ⟨"HeathForks", "bit", "(I)I"⟩ ∈ gw := (gwt5 112 rfl rfl)
set_option maxRecDepth 20000 in
theorem lk_0_330 : Cond.methodLink (am_own.getD 0 "") 330 ⟨"HeathForks$Heath", "besideAll", "(I)I"⟩ ∈ gw := (gwt5 113 rfl rfl)
set_option maxRecDepth 20000 in
theorem lk_0_340 : Cond.methodLink (am_own.getD 0 "") 340 ⟨"HeathForks$Heard", "add", "(IIZ)V"⟩ ∈ gw := (gwt5 131 rfl rfl)
set_option maxRecDepth 20000 in
theorem lk_10_56 : Cond.methodLinkNest (am_own.getD 10 "") 56 ⟨"HeathForks", "bit", "(I)I"⟩ "HeathForks" ∈ nw := nwt5 151 rfl rfl
set_option maxRecDepth 20000 in
theorem lk_10_68 : Cond.methodLink (am_own.getD 10 "") 68 ⟨"HeathForks$Heath", "beyond", "(II)I"⟩ ∈ gw := (gwt5 156 rfl rfl)
set_option maxRecDepth 20000 in
theorem lk_10_44 : Cond.methodLink (am_own.getD 10 "") 44 ⟨"HeathForks$Heard", "gather", "(I)V"⟩ ∈ gw := (gwt5 147 rfl rfl)
set_option maxRecDepth 20000 in
theorem lk_10_48 : Cond.methodLink (am_own.getD 10 "") 48 ⟨"HeathForks$Heath", "allCells", "()I"⟩ ∈ gw := (gwt5 152 rfl rfl)
set_option maxRecDepth 20000 in
theorem lk_10_60 : Cond.methodLink (am_own.getD 10 "") 60 ⟨"HeathForks$Heard", "veinBits", "(LHeathForks$Heath;III)I"⟩ ∈ gw := (gwt5 153 rfl rfl)
set_option maxRecDepth 20000 in
theorem lk_10_64 : Cond.methodLink (am_own.getD 10 "") 64 ⟨"HeathForks$Heard", "addFit", "(II)V"⟩ ∈ gw := (gwt5 157 rfl rfl)
set_option maxRecDepth 20000 in
theorem lk_0_343 : Cond.methodLink (am_own.getD 0 "") 343 ⟨"HeathForks", "canScan", "(I)Z"⟩ ∈ gw := (gwt5 139 rfl rfl)
set_option maxRecDepth 20000 in
theorem lk_0_346 : Cond.methodLink (am_own.getD 0 "") 346 ⟨"HeathForks$Heard", "scan", "(LHeathForks$Heath;II)V"⟩ ∈ gw := (gwt5 143 rfl rfl)
set_option maxRecDepth 20000 in
theorem lk_0_353 : Cond.methodLink (am_own.getD 0 "") 353 ⟨"HeathForks$Heard", "codeAt", "(I)I"⟩ ∈ gw := (gwt5 161 rfl rfl)
set_option maxRecDepth 20000 in
theorem lk_10_72 : Cond.methodLink (am_own.getD 10 "") 72 ⟨"java/lang/Math", "abs", "(I)I"⟩ ∈ gw := (gwt5 177 rfl rfl)
set_option maxRecDepth 20000 in
theorem lk_0_362 : Cond.methodLink (am_own.getD 0 "") 362 ⟨"HeathForks$Heard", "mostTelling", "(I)I"⟩ ∈ gw := (gwt5 173 rfl rfl)
set_option maxRecDepth 20000 in
theorem lk_0_365 : Cond.methodLink (am_own.getD 0 "") 365 ⟨"HeathForks$Moor", "latestTwitch", "(II)I"⟩ ∈ gw := (gwt5 188 rfl rfl)
set_option maxRecDepth 20000 in
theorem lk_0_370 : Cond.methodLink (am_own.getD 0 "") 370 ⟨"HeathForks$Heath", "hasWater", "(I)Z"⟩ ∈ gw := (gwt5 197 rfl rfl)
set_option maxRecDepth 20000 in
theorem lk_0_373 : Cond.methodLink (am_own.getD 0 "") 373 ⟨"HeathForks", "truthOf", "(I)I"⟩ ∈ gw := (gwt5 202 rfl rfl)
set_option maxRecDepth 20000 in
theorem lk_3_88 : Cond.methodLink (am_own.getD 3 "") 88 ⟨"java/lang/Math", "abs", "(I)I"⟩ ∈ gw := (gwt5 218 rfl rfl)
set_option maxRecDepth 20000 in
theorem lk_0_376 : Cond.methodLink (am_own.getD 0 "") 376 ⟨"HeathForks$Heath", "stepsBetween", "(II)I"⟩ ∈ gw := (gwt5 214 rfl rfl)
set_option maxRecDepth 20000 in
theorem lk_0_382 : Cond.methodLink (am_own.getD 0 "") 382 ⟨"HeathForks$Moor", "twitchesIn", "(I)I"⟩ ∈ gw := (gwt5 231 rfl rfl)
set_option maxRecDepth 20000 in
theorem lk_0_193 : Cond.methodLink (am_own.getD 0 "") 193 ⟨"HeathForks$Moor", "payOf", "(I)I"⟩ ∈ gw := (gwt6 7 rfl rfl)
set_option maxRecDepth 20000 in
theorem lk_0_394 : Cond.methodLink (am_own.getD 0 "") 394 ⟨"HeathForks$Moor", "payOfAll", "()I"⟩ ∈ gw := (gwt6 31 rfl rfl)
set_option maxRecDepth 20000 in
theorem lk_0_391 : Cond.methodLink (am_own.getD 0 "") 391 ⟨"HeathForks", "countOfMoor", "(I)I"⟩ ∈ gw := (gwt6 27 rfl rfl)
set_option maxRecDepth 20000 in
theorem lk_12_117 : Cond.methodLink (am_own.getD 12 "") 117 ⟨"HeathForksModel", "bytesIn", "(I)I"⟩ ∈ gw := (gwt7 53 rfl rfl)
set_option maxRecDepth 20000 in
theorem lk_12_121 : Cond.methodLink (am_own.getD 12 "") 121 ⟨"HeathForksModel", "put", "(I)V"⟩ ∈ gw := (gwt7 56 rfl rfl)
set_option maxRecDepth 20000 in
theorem lk_14_9 : Cond.methodLink (am_own.getD 14 "") 9 ⟨"java/lang/String", "checkIndex", "(II)V"⟩ ∈ gw := (gwt7 111 rfl rfl)
set_option maxRecDepth 20000 in
theorem lk_13_495 : Cond.methodLink (am_own.getD 13 "") 495 ⟨"java/lang/StringLatin1", "charAt", "([BI)C"⟩ ∈ gw := (gwt7 108 rfl rfl)
set_option maxRecDepth 20000 in
theorem lk_12_105 : Cond.methodLink (am_own.getD 12 "") 105 ⟨"java/lang/String", "length", "()I"⟩ ∈ gw := (gwt7 100 rfl rfl)
set_option maxRecDepth 20000 in
theorem lk_12_111 : Cond.methodLink (am_own.getD 12 "") 111 ⟨"java/lang/String", "charAt", "(I)C"⟩ ∈ gw := (gwt7 104 rfl rfl)
set_option maxRecDepth 20000 in
theorem lk_12_144 : Cond.methodLink (am_own.getD 12 "") 144 ⟨"HeathForksModel", "look", "()I"⟩ ∈ gw := (gwt7 87 rfl rfl)
set_option maxRecDepth 20000 in
theorem lk_12_174 : Cond.methodLink (am_own.getD 12 "") 174 ⟨"HeathForksModel", "isDigit", "()Z"⟩ ∈ gw := (gwt7 137 rfl rfl)
set_option maxRecDepth 20000 in
theorem lk_12_140 : Cond.methodLink (am_own.getD 12 "") 140 ⟨"HeathForksModel", "fails", "()Z"⟩ ∈ gw := (gwt7 91 rfl rfl)
set_option maxRecDepth 20000 in
theorem lk_12_220 : Cond.methodLink (am_own.getD 12 "") 220 ⟨"HeathForksModel", "here", "()I"⟩ ∈ gw := (gwt7 141 rfl rfl)
set_option maxRecDepth 20000 in
theorem lk_12_223 : Cond.methodLink (am_own.getD 12 "") 223 ⟨"HeathForksModel", "isIn", "(JJJ)Z"⟩ ∈ gw := (gwt7 69 rfl rfl)
set_option maxRecDepth 20000 in
theorem lk_12_227 : Cond.methodLink (am_own.getD 12 "") 227 ⟨"HeathForksModel", "usual", "(II)I"⟩ ∈ gw := (gwt7 80 rfl rfl)
set_option maxRecDepth 20000 in
theorem lk_12_231 : Cond.methodLink (am_own.getD 12 "") 231 ⟨"HeathForksModel", "spotOf", "(Ljava/lang/String;I)I"⟩ ∈ gw := (gwt7 101 rfl rfl)
set_option maxRecDepth 20000 in
theorem lk_12_235 : Cond.methodLink (am_own.getD 12 "") 235 ⟨"HeathForksModel", "has", "(II)Z"⟩ ∈ gw := (gwt7 124 rfl rfl)
set_option maxRecDepth 20000 in
theorem lk_12_239 : Cond.methodLink (am_own.getD 12 "") 239 ⟨"HeathForksModel", "leastOf", "(II)I"⟩ ∈ gw := (gwt7 127 rfl rfl)
set_option maxRecDepth 20000 in
theorem lk_12_242 : Cond.methodLink (am_own.getD 12 "") 242 ⟨"HeathForksModel", "mostOf", "(II)I"⟩ ∈ gw := (gwt7 130 rfl rfl)
set_option maxRecDepth 20000 in
theorem lk_12_245 : Cond.methodLink (am_own.getD 12 "") 245 ⟨"HeathForksModel", "number", "(II)I"⟩ ∈ gw := (gwt7 133 rfl rfl)
set_option maxRecDepth 20000 in
theorem lk_12_255 : Cond.methodLink (am_own.getD 12 "") 255 ⟨"HeathForksModel", "readItems", "(I[IILjava/lang/String;)V"⟩ ∈ gw := (gwt7 96 rfl rfl)
set_option maxRecDepth 20000 in
theorem lk_12_259 : Cond.methodLink (am_own.getD 12 "") 259 ⟨"HeathForksModel", "readWays", "([III)I"⟩ ∈ gw := (gwt7 150 rfl rfl)
set_option maxRecDepth 20000 in
theorem lk_12_277 : Cond.methodLink (am_own.getD 12 "") 277 ⟨"HeathForksModel", "readVein", "()V"⟩ ∈ gw := (gwt7 145 rfl rfl)
set_option maxRecDepth 20000 in
theorem lk_12_286 : Cond.methodLink (am_own.getD 12 "") 286 ⟨"HeathForksModel", "beside", "(IIII)I"⟩ ∈ gw := (gwt7 162 rfl rfl)
set_option maxRecDepth 20000 in
theorem lk_12_290 : Cond.methodLink (am_own.getD 12 "") 290 ⟨"HeathForksModel", "areApart", "([III)Z"⟩ ∈ gw := (gwt7 165 rfl rfl)
set_option maxRecDepth 20000 in
theorem lk_12_213 : Cond.methodLink (am_own.getD 12 "") 213 ⟨"HeathForksModel", "starts", "([BII)V"⟩ ∈ gw := (gwt7 76 rfl rfl)
set_option maxRecDepth 20000 in
theorem lk_12_294 : Cond.methodLink (am_own.getD 12 "") 294 ⟨"HeathForksModel", "readClause", "()V"⟩ ∈ gw := (gwt7 83 rfl rfl)
set_option maxRecDepth 20000 in
theorem lk_12_297 : Cond.methodLink (am_own.getD 12 "") 297 ⟨"HeathForksModel", "isWhole", "()Z"⟩ ∈ gw := (gwt7 158 rfl rfl)
set_option maxRecDepth 20000 in
theorem lk_12_160 : Cond.methodLink (am_own.getD 12 "") 160 ⟨"HeathForksModel", "isAmong", "(Ljava/lang/String;I)Z"⟩ ∈ gw := (gwt7 177 rfl rfl)
set_option maxRecDepth 20000 in
theorem lk_12_164 : Cond.methodLink (am_own.getD 12 "") 164 ⟨"HeathForksModel", "goesIn", "()Z"⟩ ∈ gw := (gwt7 208 rfl rfl)
set_option maxRecDepth 20000 in
theorem lk_12_167 : Cond.methodLink (am_own.getD 12 "") 167 ⟨"HeathForksModel", "sum", "()I"⟩ ∈ gw := (gwt7 196 rfl rfl)
set_option maxRecDepth 20000 in
theorem lk_12_170 : Cond.methodLink (am_own.getD 12 "") 170 ⟨"HeathForksModel", "takes", "(I)Z"⟩ ∈ gw := (gwt7 180 rfl rfl)
set_option maxRecDepth 20000 in
theorem lk_12_151 : Cond.methodLink (am_own.getD 12 "") 151 ⟨"java/lang/Math", "min", "(JJ)J"⟩ ∈ gw := (gwt7 217 rfl rfl)
set_option maxRecDepth 20000 in
theorem lk_12_157 : Cond.methodLink (am_own.getD 12 "") 157 ⟨"java/lang/Math", "max", "(JJ)J"⟩ ∈ gw := (gwt7 220 rfl rfl)
set_option maxRecDepth 20000 in
theorem lk_12_177 : Cond.methodLink (am_own.getD 12 "") 177 ⟨"HeathForksModel", "atom", "()I"⟩ ∈ gw := (gwt7 204 rfl rfl)
set_option maxRecDepth 20000 in
theorem lk_12_180 : Cond.methodLink (am_own.getD 12 "") 180 ⟨"HeathForksModel", "within", "(J)I"⟩ ∈ gw := (gwt7 212 rfl rfl)
set_option maxRecDepth 20000 in
theorem lk_12_184 : Cond.methodLink (am_own.getD 12 "") 184 ⟨"HeathForksModel", "term", "()I"⟩ ∈ gw := (gwt7 200 rfl rfl)
set_option maxRecDepth 20000 in
theorem lk_12_187 : Cond.methodLink (am_own.getD 12 "") 187 ⟨"HeathForksModel", "isSign", "(I)Z"⟩ ∈ gw := (gwt7 223 rfl rfl)
set_option maxRecDepth 20000 in
theorem lk_12_190 : Cond.methodLink (am_own.getD 12 "") 190 ⟨"HeathForksModel", "unit", "()Z"⟩ ∈ gw := (gwt7 226 rfl rfl)
set_option maxRecDepth 20000 in
theorem lk_12_193 : Cond.methodLink (am_own.getD 12 "") 193 ⟨"HeathForksModel", "condition", "(ZI)Z"⟩ ∈ gw := (gwt7 184 rfl rfl)
set_option maxRecDepth 20000 in
theorem lk_12_197 : Cond.methodLink (am_own.getD 12 "") 197 ⟨"HeathForksModel", "compares", "(ZI)Z"⟩ ∈ gw := (gwt7 192 rfl rfl)
set_option maxRecDepth 20000 in
theorem lk_12_200 : Cond.methodLink (am_own.getD 12 "") 200 ⟨"HeathForksModel", "part", "(ZI)Z"⟩ ∈ gw := (gwt7 188 rfl rfl)
set_option maxRecDepth 20000 in
theorem lk_12_217 : Cond.methodLink (am_own.getD 12 "") 217 ⟨"HeathForksModel", "clause", "()V"⟩ ∈ gw := (gwt7 173 rfl rfl)
set_option maxRecDepth 20000 in
theorem lk_12_302 : Cond.methodLink (am_own.getD 12 "") 302 ⟨"HeathForksModel", "readHeath", "()V"⟩ ∈ gw := (gwt7 72 rfl rfl)
set_option maxRecDepth 20000 in
theorem lk_12_305 : Cond.methodLink (am_own.getD 12 "") 305 ⟨"HeathForksModel", "goThrough", "([BII)V"⟩ ∈ gw := (gwt7 169 rfl rfl)
set_option maxRecDepth 20000 in
theorem lk_12_308 : Cond.methodLink (am_own.getD 12 "") 308 ⟨"HeathForksModel", "readWalks", "()V"⟩ ∈ gw := (gwt7 230 rfl rfl)
set_option maxRecDepth 20000 in
theorem lk_12_317 : Cond.methodLink (am_own.getD 12 "") 317 ⟨"HeathForksModel", "fault", "(I)I"⟩ ∈ gw := (gwt7 238 rfl rfl)
set_option maxRecDepth 20000 in
theorem lk_12_331 : Cond.methodLink (am_own.getD 12 "") 331 ⟨"HeathForksModel", "copy", "([I[I)V"⟩ ∈ gw := (gwt7 239 rfl rfl)
set_option maxRecDepth 20000 in
theorem lk_12_338 : Cond.methodLink (am_own.getD 12 "") 338 ⟨"HeathForksModel", "told", "(II)I"⟩ ∈ gw := (gwt8 2 rfl rfl)
set_option maxRecDepth 20000 in
theorem lk_12_350 : Cond.methodLink (am_own.getD 12 "") 350 ⟨"HeathForksModel", "stepTo", "(II)I"⟩ ∈ gw := (gwt8 28 rfl rfl)
set_option maxRecDepth 20000 in
theorem lk_12_353 : Cond.methodLink (am_own.getD 12 "") 353 ⟨"HeathForksModel", "veinAt", "(II)I"⟩ ∈ gw := (gwt8 24 rfl rfl)
set_option maxRecDepth 20000 in
theorem lk_12_356 : Cond.methodLink (am_own.getD 12 "") 356 ⟨"java/lang/Math", "min", "(II)I"⟩ ∈ gw := (gwt8 32 rfl rfl)
set_option maxRecDepth 20000 in
theorem lk_12_358 : Cond.methodLink (am_own.getD 12 "") 358 ⟨"HeathForksModel", "numberAt", "([IIII)I"⟩ ∈ gw := (gwt8 37 rfl rfl)
set_option maxRecDepth 20000 in
theorem lk_12_372 : Cond.methodLink (am_own.getD 12 "") 372 ⟨"HeathForksModel", "isCell", "(I)Z"⟩ ∈ gw := (gwt8 15 rfl rfl)
set_option maxRecDepth 20000 in
theorem lk_12_362 : Cond.methodLink (am_own.getD 12 "") 362 ⟨"HeathForksModel", "depthOf", "(II)I"⟩ ∈ gw := (gwt8 20 rfl rfl)
set_option maxRecDepth 20000 in
theorem lk_12_365 : Cond.methodLink (am_own.getD 12 "") 365 ⟨"HeathForksModel", "ironAt", "(I)I"⟩ ∈ gw := (gwt8 33 rfl rfl)
set_option maxRecDepth 20000 in
theorem lk_12_377 : Cond.methodLink (am_own.getD 12 "") 377 ⟨"HeathForksModel", "isFork", "(I)Z"⟩ ∈ gw := (gwt8 44 rfl rfl)
set_option maxRecDepth 20000 in
theorem lk_12_368 : Cond.methodLink (am_own.getD 12 "") 368 ⟨"java/lang/Math", "max", "(II)I"⟩ ∈ gw := (gwt8 61 rfl rfl)
set_option maxRecDepth 20000 in
theorem lk_12_382 : Cond.methodLink (am_own.getD 12 "") 382 ⟨"HeathForksModel", "twitchOf", "([III)I"⟩ ∈ gw := (gwt8 57 rfl rfl)
set_option maxRecDepth 20000 in
theorem lk_12_385 : Cond.methodLink (am_own.getD 12 "") 385 ⟨"HeathForksModel", "whereTo", "([III)I"⟩ ∈ gw := (gwt8 66 rfl rfl)
set_option maxRecDepth 20000 in
theorem lk_12_388 : Cond.methodLink (am_own.getD 12 "") 388 ⟨"HeathForksModel", "writes", "([IIII)V"⟩ ∈ gw := (gwt8 78 rfl rfl)
set_option maxRecDepth 20000 in
theorem lk_12_392 : Cond.methodLink (am_own.getD 12 "") 392 ⟨"HeathForksModel", "remember", "()V"⟩ ∈ gw := (gwt8 70 rfl rfl)
set_option maxRecDepth 20000 in
theorem lk_12_395 : Cond.methodLink (am_own.getD 12 "") 395 ⟨"HeathForksModel", "goes", "([III)I"⟩ ∈ gw := (gwt8 74 rfl rfl)
set_option maxRecDepth 20000 in
theorem lk_12_398 : Cond.methodLink (am_own.getD 12 "") 398 ⟨"HeathForksModel", "sunkTo", "(II)I"⟩ ∈ gw := (gwt8 89 rfl rfl)
set_option maxRecDepth 20000 in
theorem lk_12_401 : Cond.methodLink (am_own.getD 12 "") 401 ⟨"HeathForksModel", "footAt", "(I)I"⟩ ∈ gw := (gwt8 93 rfl rfl)
set_option maxRecDepth 20000 in
theorem lk_12_404 : Cond.methodLink (am_own.getD 12 "") 404 ⟨"HeathForksModel", "costOf", "(II)I"⟩ ∈ gw := (gwt8 85 rfl rfl)
set_option maxRecDepth 20000 in
theorem lk_12_407 : Cond.methodLink (am_own.getD 12 "") 407 ⟨"HeathForksModel", "hasTwitched", "(II)Z"⟩ ∈ gw := (gwt8 97 rfl rfl)
set_option maxRecDepth 20000 in
theorem lk_12_420 : Cond.methodLink (am_own.getD 12 "") 420 ⟨"HeathForksModel", "draw", "(I)I"⟩ ∈ gw := (gwt8 110 rfl rfl)
set_option maxRecDepth 20000 in
theorem lk_12_423 : Cond.methodLink (am_own.getD 12 "") 423 ⟨"HeathForksModel", "isWalk", "(I)Z"⟩ ∈ gw := (gwt8 128 rfl rfl)
set_option maxRecDepth 20000 in
theorem lk_12_427 : Cond.methodLink (am_own.getD 12 "") 427 ⟨"HeathForksModel", "bringsOf", "([III)I"⟩ ∈ gw := (gwt8 149 rfl rfl)
set_option maxRecDepth 20000 in
theorem lk_12_430 : Cond.methodLink (am_own.getD 12 "") 430 ⟨"HeathForksModel", "bringsAll", "([II)I"⟩ ∈ gw := (gwt8 145 rfl rfl)
set_option maxRecDepth 20000 in
theorem lk_12_434 : Cond.methodLink (am_own.getD 12 "") 434 ⟨"java/lang/Integer", "bitCount", "(I)I"⟩ ∈ gw := (gwt8 162 rfl rfl)
set_option maxRecDepth 20000 in
theorem lk_12_445 : Cond.methodLink (am_own.getD 12 "") 445 ⟨"HeathForksModel", "goCheapest", "(IIII)V"⟩ ∈ gw := (gwt8 158 rfl rfl)
set_option maxRecDepth 20000 in
theorem lk_12_455 : Cond.methodLink (am_own.getD 12 "") 455 ⟨"HeathForksModel", "lineOf", "(III)I"⟩ ∈ gw := (gwt8 193 rfl rfl)
set_option maxRecDepth 20000 in
theorem lk_12_459 : Cond.methodLink (am_own.getD 12 "") 459 ⟨"HeathForksModel", "isSo", "(II)Z"⟩ ∈ gw := (gwt8 197 rfl rfl)
set_option maxRecDepth 20000 in
theorem lk_12_462 : Cond.methodLink (am_own.getD 12 "") 462 ⟨"HeathForksModel", "isLong", "(I)Z"⟩ ∈ gw := (gwt8 184 rfl rfl)
set_option maxRecDepth 20000 in
theorem lk_12_465 : Cond.methodLink (am_own.getD 12 "") 465 ⟨"HeathForksModel", "fitsBy", "(III)I"⟩ ∈ gw := (gwt8 189 rfl rfl)
set_option maxRecDepth 20000 in
theorem lk_12_468 : Cond.methodLink (am_own.getD 12 "") 468 ⟨"java/lang/Math", "abs", "(I)I"⟩ ∈ gw := (gwt8 209 rfl rfl)
set_option maxRecDepth 20000 in
theorem lk_12_471 : Cond.methodLink (am_own.getD 12 "") 471 ⟨"HeathForksModel", "latest", "(II)I"⟩ ∈ gw := (gwt8 218 rfl rfl)
set_option maxRecDepth 20000 in
theorem lk_12_474 : Cond.methodLink (am_own.getD 12 "") 474 ⟨"HeathForksModel", "hasWater", "(I)Z"⟩ ∈ gw := (gwt8 226 rfl rfl)
set_option maxRecDepth 20000 in
theorem lk_12_477 : Cond.methodLink (am_own.getD 12 "") 477 ⟨"HeathForksModel", "rightOf", "(I)I"⟩ ∈ gw := (gwt8 234 rfl rfl)
theorem lk_ac1 : Cond.native arraycopyName ∈ gw := (gwt5 42 rfl rfl)
theorem lk_ac2 : Cond.static arraycopyName ∈ gw := (gwt5 41 rfl rfl)
theorem lk_ac3 : Cond.initialized "java/lang/System" ∈ gw := (gwt1 25 rfl rfl)
