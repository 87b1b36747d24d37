/-! printed by wip/gen/gen_all.py: names and words of the leaves -/
abbrev m_Bytes_put : AM := (RX0, ⟨RX0, "put", "(I)V"⟩, prog_2_method_2_code, 2, none)
set_option maxRecDepth 20000 in
theorem d_Bytes_put : aDec prog_2_method_2_code [(0, .aload_n 0, 1), (1, .getfield 9, 3), (4, .ifCond .lt 39, 3), (7, .aload_n 0, 1), (8, .getfield 9, 3), (11, .aload_n 0, 1), (12, .getfield 21, 3), (15, .arraylength, 1), (16, .if_icmp .ge 27, 3), (19, .aload_n 0, 1), (20, .getfield 21, 3), (23, .aload_n 0, 1), (24, .getfield 9, 3), (27, .iload_n 1, 1), (28, .sipush 255, 3), (31, .iand, 1), (32, .iastore, 1), (33, .aload_n 0, 1), (34, .dup, 1), (35, .getfield 9, 3), (38, .iconst 1, 1), (39, .iadd, 1), (40, .putfield 9, 3), (43, .return_, 1)] := aDec_of (by decide +kernel)
theorem mok_Bytes_put : mokV m_Bytes_put 1 := ⟨rfl, tk3 126 rfl rfl, tk3 124 rfl rfl, tk3 125 rfl rfl, tk1 2 rfl rfl, by decide +kernel, by decide⟩
abbrev m_Bytes_putFour : AM := (RX0, ⟨RX0, "putFour", "(I)V"⟩, prog_2_method_3_code, 3, none)
set_option maxRecDepth 20000 in
theorem d_Bytes_putFour : aDec prog_2_method_3_code [(0, .bipush 24, 2), (2, .istore_n 2, 1), (3, .iload_n 2, 1), (4, .ifCond .lt 16, 3), (7, .aload_n 0, 1), (8, .iload_n 1, 1), (9, .iload_n 2, 1), (10, .iushr, 1), (11, .invokevirtual 25, 3), (14, .iinc 2 (-8), 3), (17, .goto (-14), 3), (20, .return_, 1)] := aDec_of (by decide +kernel)
theorem mok_Bytes_putFour : mokV m_Bytes_putFour 1 := ⟨rfl, tk3 122 rfl rfl, tk3 120 rfl rfl, tk3 121 rfl rfl, tk1 2 rfl rfl, by decide +kernel, by decide⟩
abbrev m_Bytes_at : AM := (RX0, ⟨RX0, "at", "(I)I"⟩, prog_2_method_4_code, 2, (some .int))
set_option maxRecDepth 20000 in
theorem d_Bytes_at : aDec prog_2_method_4_code [(0, .iload_n 1, 1), (1, .ifCond .lt 29, 3), (4, .iload_n 1, 1), (5, .aload_n 0, 1), (6, .getfield 9, 3), (9, .if_icmp .ge 21, 3), (12, .iload_n 1, 1), (13, .aload_n 0, 1), (14, .getfield 21, 3), (17, .arraylength, 1), (18, .if_icmp .ge 12, 3), (21, .aload_n 0, 1), (22, .getfield 21, 3), (25, .iload_n 1, 1), (26, .iaload, 1), (27, .goto 4, 3), (30, .iconst (-1), 1), (31, .ireturn, 1)] := aDec_of (by decide +kernel)
theorem mok_Bytes_at : mokV m_Bytes_at 1 := ⟨rfl, tk3 154 rfl rfl, tk3 152 rfl rfl, tk3 153 rfl rfl, tk1 2 rfl rfl, by decide +kernel, by decide⟩
abbrev m_Bytes_checkOfFirst : AM := (RX0, ⟨RX0, "checkOfFirst", "(I)I"⟩, prog_2_method_5_code, 4, (some .int))
set_option maxRecDepth 20000 in
theorem d_Bytes_checkOfFirst : aDec prog_2_method_5_code [(0, .bipush 37, 2), (2, .istore_n 2, 1), (3, .iconst 0, 1), (4, .istore_n 3, 1), (5, .iload_n 3, 1), (6, .iload_n 1, 1), (7, .if_icmp .ge 34, 3), (10, .iload_n 3, 1), (11, .aload_n 0, 1), (12, .getfield 21, 3), (15, .arraylength, 1), (16, .if_icmp .ge 25, 3), (19, .bipush 7, 2), (21, .iload_n 2, 1), (22, .imul, 1), (23, .aload_n 0, 1), (24, .getfield 21, 3), (27, .iload_n 3, 1), (28, .iaload, 1), (29, .iadd, 1), (30, .sipush 223, 3), (33, .irem, 1), (34, .istore_n 2, 1), (35, .iinc 3 1, 3), (38, .goto (-33), 3), (41, .iload_n 2, 1), (42, .ireturn, 1)] := aDec_of (by decide +kernel)
theorem mok_Bytes_checkOfFirst : mokV m_Bytes_checkOfFirst 1 := ⟨rfl, tk6 131 rfl rfl, tk6 129 rfl rfl, tk6 130 rfl rfl, tk1 2 rfl rfl, by decide +kernel, by decide⟩
abbrev m_Tests_clear : AM := (RX8, ⟨RX8, "clear", "()V"⟩, prog_10_method_2_code, 1, none)
set_option maxRecDepth 20000 in
theorem d_Tests_clear : aDec prog_10_method_2_code [(0, .aload_n 0, 1), (1, .iconst 0, 1), (2, .putfield 18, 3), (5, .aload_n 0, 1), (6, .iconst 0, 1), (7, .putfield 22, 3), (10, .return_, 1)] := aDec_of (by decide +kernel)
theorem mok_Tests_clear : mokV m_Tests_clear 0 := ⟨rfl, tk3 146 rfl rfl, tk3 144 rfl rfl, tk3 145 rfl rfl, tk1 5 rfl rfl, by decide +kernel, by decide⟩
abbrev m_Game_clear : AM := (RX1, ⟨RX1, "clear", "()V"⟩, prog_3_method_2_code, 1, none)
set_option maxRecDepth 20000 in
theorem d_Game_clear : aDec prog_3_method_2_code [(0, .aload_n 0, 1), (1, .iconst 0, 1), (2, .putfield 9, 3), (5, .aload_n 0, 1), (6, .iconst 0, 1), (7, .putfield 15, 3), (10, .aload_n 0, 1), (11, .iconst 0, 1), (12, .putfield 18, 3), (15, .aload_n 0, 1), (16, .iconst 0, 1), (17, .putfield 21, 3), (20, .aload_n 0, 1), (21, .iconst 0, 1), (22, .putfield 24, 3), (25, .aload_n 0, 1), (26, .getfield 30, 3), (29, .invokevirtual 69, 3), (32, .return_, 1)] := aDec_of (by decide +kernel)
theorem mok_Game_clear : mokV m_Game_clear 0 := ⟨rfl, tk3 142 rfl rfl, tk3 140 rfl rfl, tk3 141 rfl rfl, tk1 4 rfl rfl, by decide +kernel, by decide⟩
abbrev m_Game_addPiece : AM := (RX1, ⟨RX1, "addPiece", "(III)V"⟩, prog_3_method_3_code, 4, none)
set_option maxRecDepth 20000 in
theorem d_Game_addPiece : aDec prog_3_method_3_code [(0, .aload_n 0, 1), (1, .getfield 15, 3), (4, .iconst 2, 1), (5, .if_icmp .ge 43, 3), (8, .aload_n 0, 1), (9, .getfield 34, 3), (12, .aload_n 0, 1), (13, .getfield 15, 3), (16, .iload_n 1, 1), (17, .iastore, 1), (18, .aload_n 0, 1), (19, .getfield 38, 3), (22, .aload_n 0, 1), (23, .getfield 15, 3), (26, .iload_n 2, 1), (27, .iastore, 1), (28, .aload_n 0, 1), (29, .getfield 41, 3), (32, .aload_n 0, 1), (33, .getfield 15, 3), (36, .iload_n 3, 1), (37, .iastore, 1), (38, .aload_n 0, 1), (39, .dup, 1), (40, .getfield 15, 3), (43, .iconst 1, 1), (44, .iadd, 1), (45, .putfield 15, 3), (48, .return_, 1)] := aDec_of (by decide +kernel)
theorem mok_Game_addPiece : mokV m_Game_addPiece 3 := ⟨rfl, tk4 53 rfl rfl, tk4 51 rfl rfl, tk4 52 rfl rfl, tk1 4 rfl rfl, by decide +kernel, by decide⟩
abbrev m_Game_addRule : AM := (RX1, ⟨RX1, "addRule", "(IZ)V"⟩, prog_3_method_4_code, 3, none)
set_option maxRecDepth 20000 in
theorem d_Game_addRule : aDec prog_3_method_4_code [(0, .aload_n 0, 1), (1, .getfield 18, 3), (4, .bipush 12, 2), (6, .if_icmp .ge 63, 3), (9, .aload_n 0, 1), (10, .getfield 44, 3), (13, .aload_n 0, 1), (14, .getfield 18, 3), (17, .iload_n 1, 1), (18, .iastore, 1), (19, .aload_n 0, 1), (20, .getfield 56, 3), (23, .aload_n 0, 1), (24, .getfield 18, 3), (27, .iload_n 2, 1), (28, .bastore, 1), (29, .aload_n 0, 1), (30, .getfield 47, 3), (33, .aload_n 0, 1), (34, .getfield 18, 3), (37, .iconst (-1), 1), (38, .iastore, 1), (39, .aload_n 0, 1), (40, .getfield 50, 3), (43, .aload_n 0, 1), (44, .getfield 18, 3), (47, .iconst (-1), 1), (48, .iastore, 1), (49, .aload_n 0, 1), (50, .getfield 53, 3), (53, .aload_n 0, 1), (54, .getfield 18, 3), (57, .iconst 0, 1), (58, .iastore, 1), (59, .aload_n 0, 1), (60, .dup, 1), (61, .getfield 18, 3), (64, .iconst 1, 1), (65, .iadd, 1), (66, .putfield 18, 3), (69, .return_, 1)] := aDec_of (by decide +kernel)
theorem mok_Game_addRule : mokV m_Game_addRule 2 := ⟨rfl, tk4 69 rfl rfl, tk4 67 rfl rfl, tk4 68 rfl rfl, tk1 4 rfl rfl, by decide +kernel, by decide⟩
abbrev m_Game_setMoveOfLatest : AM := (RX1, ⟨RX1, "setMoveOfLatest", "(III)V"⟩, prog_3_method_5_code, 4, none)
set_option maxRecDepth 20000 in
theorem d_Game_setMoveOfLatest : aDec prog_3_method_5_code [(0, .aload_n 0, 1), (1, .getfield 18, 3), (4, .ifCond .le 39, 3), (7, .aload_n 0, 1), (8, .getfield 47, 3), (11, .aload_n 0, 1), (12, .getfield 18, 3), (15, .iconst 1, 1), (16, .isub, 1), (17, .iload_n 1, 1), (18, .iastore, 1), (19, .aload_n 0, 1), (20, .getfield 50, 3), (23, .aload_n 0, 1), (24, .getfield 18, 3), (27, .iconst 1, 1), (28, .isub, 1), (29, .iload_n 2, 1), (30, .iastore, 1), (31, .aload_n 0, 1), (32, .getfield 53, 3), (35, .aload_n 0, 1), (36, .getfield 18, 3), (39, .iconst 1, 1), (40, .isub, 1), (41, .iload_n 3, 1), (42, .iastore, 1), (43, .return_, 1)] := aDec_of (by decide +kernel)
theorem mok_Game_setMoveOfLatest : mokV m_Game_setMoveOfLatest 3 := ⟨rfl, tk4 85 rfl rfl, tk4 83 rfl rfl, tk4 84 rfl rfl, tk1 4 rfl rfl, by decide +kernel, by decide⟩
abbrev m_Arrays_fill : AM := ("java/util/Arrays", ⟨"java/util/Arrays", "fill", "([II)V"⟩, prog_22_method_103_code, 4, none)
set_option maxRecDepth 20000 in
theorem d_Arrays_fill : aDec prog_22_method_103_code [(0, .iconst 0, 1), (1, .istore_n 2, 1), (2, .aload_n 0, 1), (3, .arraylength, 1), (4, .istore_n 3, 1), (5, .iload_n 2, 1), (6, .iload_n 3, 1), (7, .if_icmp .ge 13, 3), (10, .aload_n 0, 1), (11, .iload_n 2, 1), (12, .iload_n 1, 1), (13, .iastore, 1), (14, .iinc 2 1, 3), (17, .goto (-12), 3), (20, .return_, 1)] := aDec_of (by decide +kernel)
theorem mok_Arrays_fill : mokS m_Arrays_fill 2 := ⟨rfl, tk2 229 rfl rfl, tk2 228 rfl rfl, tk1 19 rfl rfl, by decide +kernel, by decide⟩
abbrev m_Game_numberPositions : AM := (RX1, ⟨RX1, "numberPositions", "()V"⟩, prog_3_method_6_code, 6, none)
set_option maxRecDepth 20000 in
theorem d_Game_numberPositions : aDec prog_3_method_6_code [(0, .aload_n 0, 1), (1, .getfield 66, 3), (4, .iconst 0, 1), (5, .invokestatic 72, 3), (8, .aload_n 0, 1), (9, .getfield 15, 3), (12, .ifCond .le 12, 3), (15, .aload_n 0, 1), (16, .getfield 9, 3), (19, .iconst 1, 1), (20, .iadd, 1), (21, .goto 4, 3), (24, .iconst 1, 1), (25, .istore_n 1, 1), (26, .aload_n 0, 1), (27, .getfield 15, 3), (30, .iconst 1, 1), (31, .if_icmp .le 12, 3), (34, .aload_n 0, 1), (35, .getfield 9, 3), (38, .iconst 1, 1), (39, .iadd, 1), (40, .goto 4, 3), (43, .iconst 1, 1), (44, .istore_n 2, 1), (45, .aload_n 0, 1), (46, .getfield 60, 3), (49, .iconst 0, 1), (50, .iconst 2, 1), (51, .iload_n 2, 1), (52, .imul, 1), (53, .iastore, 1), (54, .aload_n 0, 1), (55, .getfield 60, 3), (58, .iconst 1, 1), (59, .iconst 2, 1), (60, .iastore, 1), (61, .aload_n 0, 1), (62, .iconst 0, 1), (63, .putfield 21, 3), (66, .iconst 0, 1), (67, .istore_n 3, 1), (68, .iload_n 3, 1), (69, .iload_n 1, 1), (70, .if_icmp .ge 86, 3), (73, .iconst 0, 1), (74, .istore 4, 2), (76, .iload 4, 2), (78, .iload_n 2, 1), (79, .if_icmp .ge 71, 3), (82, .iconst 0, 1), (83, .istore 5, 2), (85, .iload 5, 2), (87, .iconst 2, 1), (88, .if_icmp .ge 56, 3), (91, .aload_n 0, 1), (92, .getfield 21, 3), (95, .sipush 200, 3), (98, .if_icmp .ge 46, 3), (101, .aload_n 0, 1), (102, .getfield 63, 3), (105, .aload_n 0, 1), (106, .getfield 21, 3), (109, .iconst 2, 1), (110, .imul, 1), (111, .iload_n 3, 1), (112, .iastore, 1), (113, .aload_n 0, 1), (114, .getfield 63, 3), (117, .aload_n 0, 1), (118, .getfield 21, 3), (121, .iconst 2, 1), (122, .imul, 1), (123, .iconst 1, 1), (124, .iadd, 1), (125, .iload 4, 2), (127, .iastore, 1), (128, .aload_n 0, 1), (129, .dup, 1), (130, .getfield 21, 3), (133, .iconst 1, 1), (134, .iadd, 1), (135, .putfield 21, 3), (138, .iinc 5 1, 3), (141, .goto (-56), 3), (144, .iinc 4 1, 3), (147, .goto (-71), 3), (150, .iinc 3 1, 3), (153, .goto (-85), 3), (156, .return_, 1)] := aDec_of (by decide +kernel)
theorem mok_Game_numberPositions : mokV m_Game_numberPositions 0 := ⟨rfl, tk4 145 rfl rfl, tk4 143 rfl rfl, tk4 144 rfl rfl, tk1 4 rfl rfl, by decide +kernel, by decide⟩
abbrev m_Game_isPosition : AM := (RX1, ⟨RX1, "isPosition", "(I)Z"⟩, prog_3_method_7_code, 2, (some .boolean))
set_option maxRecDepth 20000 in
theorem d_Game_isPosition : aDec prog_3_method_7_code [(0, .iload_n 1, 1), (1, .ifCond .lt 15, 3), (4, .iload_n 1, 1), (5, .aload_n 0, 1), (6, .getfield 21, 3), (9, .if_icmp .ge 7, 3), (12, .iconst 1, 1), (13, .goto 4, 3), (16, .iconst 0, 1), (17, .ireturn, 1)] := aDec_of (by decide +kernel)
theorem mok_Game_isPosition : mokV m_Game_isPosition 1 := ⟨rfl, tk4 214 rfl rfl, tk4 212 rfl rfl, tk4 213 rfl rfl, tk1 4 rfl rfl, by decide +kernel, by decide⟩
abbrev m_Game_isRule : AM := (RX1, ⟨RX1, "isRule", "(I)Z"⟩, prog_3_method_8_code, 2, (some .boolean))
set_option maxRecDepth 20000 in
theorem d_Game_isRule : aDec prog_3_method_8_code [(0, .iload_n 1, 1), (1, .ifCond .lt 15, 3), (4, .iload_n 1, 1), (5, .aload_n 0, 1), (6, .getfield 18, 3), (9, .if_icmp .ge 7, 3), (12, .iconst 1, 1), (13, .goto 4, 3), (16, .iconst 0, 1), (17, .ireturn, 1)] := aDec_of (by decide +kernel)
theorem mok_Game_isRule : mokV m_Game_isRule 1 := ⟨rfl, tk3 17 rfl rfl, tk3 15 rfl rfl, tk3 16 rfl rfl, tk1 4 rfl rfl, by decide +kernel, by decide⟩
abbrev m_Game_kindOf : AM := (RX1, ⟨RX1, "kindOf", "(I)I"⟩, prog_3_method_9_code, 2, (some .int))
set_option maxRecDepth 20000 in
theorem d_Game_kindOf : aDec prog_3_method_9_code [(0, .aload_n 0, 1), (1, .iload_n 1, 1), (2, .invokevirtual 78, 3), (5, .ifCond .eq 12, 3), (8, .aload_n 0, 1), (9, .getfield 44, 3), (12, .iload_n 1, 1), (13, .iaload, 1), (14, .goto 4, 3), (17, .iconst (-1), 1), (18, .ireturn, 1)] := aDec_of (by decide +kernel)
theorem mok_Game_kindOf : mokV m_Game_kindOf 1 := ⟨rfl, tk3 13 rfl rfl, tk3 11 rfl rfl, tk3 12 rfl rfl, tk1 4 rfl rfl, by decide +kernel, by decide⟩
abbrev m_Game_pieceOf : AM := (RX1, ⟨RX1, "pieceOf", "(I)I"⟩, prog_3_method_10_code, 2, (some .int))
set_option maxRecDepth 20000 in
theorem d_Game_pieceOf : aDec prog_3_method_10_code [(0, .aload_n 0, 1), (1, .iload_n 1, 1), (2, .invokevirtual 78, 3), (5, .ifCond .eq 12, 3), (8, .aload_n 0, 1), (9, .getfield 47, 3), (12, .iload_n 1, 1), (13, .iaload, 1), (14, .goto 4, 3), (17, .iconst (-1), 1), (18, .ireturn, 1)] := aDec_of (by decide +kernel)
theorem mok_Game_pieceOf : mokV m_Game_pieceOf 1 := ⟨rfl, tk3 29 rfl rfl, tk3 27 rfl rfl, tk3 28 rfl rfl, tk1 4 rfl rfl, by decide +kernel, by decide⟩
abbrev m_Game_wayOf : AM := (RX1, ⟨RX1, "wayOf", "(I)I"⟩, prog_3_method_11_code, 2, (some .int))
set_option maxRecDepth 20000 in
theorem d_Game_wayOf : aDec prog_3_method_11_code [(0, .aload_n 0, 1), (1, .iload_n 1, 1), (2, .invokevirtual 78, 3), (5, .ifCond .eq 12, 3), (8, .aload_n 0, 1), (9, .getfield 50, 3), (12, .iload_n 1, 1), (13, .iaload, 1), (14, .goto 4, 3), (17, .iconst (-1), 1), (18, .ireturn, 1)] := aDec_of (by decide +kernel)
theorem mok_Game_wayOf : mokV m_Game_wayOf 1 := ⟨rfl, tk3 33 rfl rfl, tk3 31 rfl rfl, tk3 32 rfl rfl, tk1 4 rfl rfl, by decide +kernel, by decide⟩
abbrev m_Game_stepOf : AM := (RX1, ⟨RX1, "stepOf", "(I)I"⟩, prog_3_method_12_code, 2, (some .int))
set_option maxRecDepth 20000 in
theorem d_Game_stepOf : aDec prog_3_method_12_code [(0, .aload_n 0, 1), (1, .iload_n 1, 1), (2, .invokevirtual 78, 3), (5, .ifCond .eq 12, 3), (8, .aload_n 0, 1), (9, .getfield 53, 3), (12, .iload_n 1, 1), (13, .iaload, 1), (14, .goto 4, 3), (17, .iconst 0, 1), (18, .ireturn, 1)] := aDec_of (by decide +kernel)
theorem mok_Game_stepOf : mokV m_Game_stepOf 1 := ⟨rfl, tk4 154 rfl rfl, tk4 152 rfl rfl, tk4 153 rfl rfl, tk1 4 rfl rfl, by decide +kernel, by decide⟩
abbrev m_Game_isEver : AM := (RX1, ⟨RX1, "isEver", "(I)Z"⟩, prog_3_method_13_code, 2, (some .boolean))
set_option maxRecDepth 20000 in
theorem d_Game_isEver : aDec prog_3_method_13_code [(0, .aload_n 0, 1), (1, .iload_n 1, 1), (2, .invokevirtual 78, 3), (5, .ifCond .eq 16, 3), (8, .aload_n 0, 1), (9, .getfield 56, 3), (12, .iload_n 1, 1), (13, .baload, 1), (14, .ifCond .eq 7, 3), (17, .iconst 1, 1), (18, .goto 4, 3), (21, .iconst 0, 1), (22, .ireturn, 1)] := aDec_of (by decide +kernel)
theorem mok_Game_isEver : mokV m_Game_isEver 1 := ⟨rfl, tk4 206 rfl rfl, tk4 204 rfl rfl, tk4 205 rfl rfl, tk1 4 rfl rfl, by decide +kernel, by decide⟩
abbrev m_Game_pieceNamed : AM := (RX1, ⟨RX1, "pieceNamed", "(I)I"⟩, prog_3_method_14_code, 3, (some .int))
set_option maxRecDepth 20000 in
theorem d_Game_pieceNamed : aDec prog_3_method_14_code [(0, .iconst 0, 1), (1, .istore_n 2, 1), (2, .iload_n 2, 1), (3, .aload_n 0, 1), (4, .getfield 15, 3), (7, .if_icmp .ge 21, 3), (10, .aload_n 0, 1), (11, .getfield 34, 3), (14, .iload_n 2, 1), (15, .iaload, 1), (16, .iload_n 1, 1), (17, .if_icmp .ne 5, 3), (20, .iload_n 2, 1), (21, .ireturn, 1), (22, .iinc 2 1, 3), (25, .goto (-23), 3), (28, .iconst (-1), 1), (29, .ireturn, 1)] := aDec_of (by decide +kernel)
theorem mok_Game_pieceNamed : mokV m_Game_pieceNamed 1 := ⟨rfl, tk4 49 rfl rfl, tk4 47 rfl rfl, tk4 48 rfl rfl, tk1 4 rfl rfl, by decide +kernel, by decide⟩
abbrev m_Tokens_letterOf : AM := (RX9, ⟨RX9, "letterOf", "(II)I"⟩, prog_11_method_12_code, 3, (some .int))
set_option maxRecDepth 20000 in
theorem d_Tokens_letterOf : aDec prog_11_method_12_code [(0, .iload_n 1, 1), (1, .ifCond .lt 22, 3), (4, .iload_n 1, 1), (5, .bipush 6, 2), (7, .if_icmp .ge 16, 3), (10, .iload_n 0, 1), (11, .iconst 5, 1), (12, .iconst 5, 1), (13, .iload_n 1, 1), (14, .isub, 1), (15, .imul, 1), (16, .ishr, 1), (17, .bipush 31, 2), (19, .iand, 1), (20, .goto 4, 3), (23, .iconst 0, 1), (24, .istore_n 2, 1), (25, .iload_n 2, 1), (26, .ifCond .ne 7, 3), (29, .iconst (-1), 1), (30, .goto 9, 3), (33, .iload_n 2, 1), (34, .bipush 97, 2), (36, .iadd, 1), (37, .iconst 1, 1), (38, .isub, 1), (39, .ireturn, 1)] := aDec_of (by decide +kernel)
theorem mok_Tokens_letterOf : mokS m_Tokens_letterOf 2 := ⟨rfl, tk4 191 rfl rfl, tk4 190 rfl rfl, tk1 7 rfl rfl, by decide +kernel, by decide⟩
abbrev m_Game_letterOf : AM := (RX1, ⟨RX1, "letterOf", "(II)I"⟩, prog_3_method_15_code, 3, (some .int))
set_option maxRecDepth 20000 in
theorem d_Game_letterOf : aDec prog_3_method_15_code [(0, .iload_n 1, 1), (1, .ifCond .lt 24, 3), (4, .iload_n 1, 1), (5, .aload_n 0, 1), (6, .getfield 15, 3), (9, .if_icmp .ge 16, 3), (12, .aload_n 0, 1), (13, .getfield 34, 3), (16, .iload_n 1, 1), (17, .iaload, 1), (18, .iload_n 2, 1), (19, .invokestatic 82, 3), (22, .goto 4, 3), (25, .iconst (-1), 1), (26, .ireturn, 1)] := aDec_of (by decide +kernel)
theorem mok_Game_letterOf : mokV m_Game_letterOf 2 := ⟨rfl, tk4 188 rfl rfl, tk4 186 rfl rfl, tk4 187 rfl rfl, tk1 4 rfl rfl, by decide +kernel, by decide⟩
abbrev m_Game_beginningOf : AM := (RX1, ⟨RX1, "beginningOf", "(I)I"⟩, prog_3_method_16_code, 4, (some .int))
set_option maxRecDepth 20000 in
theorem d_Game_beginningOf : aDec prog_3_method_16_code [(0, .iload_n 1, 1), (1, .istore_n 2, 1), (2, .iconst 0, 1), (3, .istore_n 3, 1), (4, .iload_n 3, 1), (5, .aload_n 0, 1), (6, .getfield 15, 3), (9, .if_icmp .ge 25, 3), (12, .iload_n 2, 1), (13, .aload_n 0, 1), (14, .getfield 38, 3), (17, .iload_n 3, 1), (18, .iaload, 1), (19, .aload_n 0, 1), (20, .getfield 60, 3), (23, .iload_n 3, 1), (24, .iaload, 1), (25, .imul, 1), (26, .iadd, 1), (27, .istore_n 2, 1), (28, .iinc 3 1, 3), (31, .goto (-27), 3), (34, .iload_n 2, 1), (35, .ireturn, 1)] := aDec_of (by decide +kernel)
theorem mok_Game_beginningOf : mokV m_Game_beginningOf 1 := ⟨rfl, tk3 45 rfl rfl, tk3 43 rfl rfl, tk3 44 rfl rfl, tk1 4 rfl rfl, by decide +kernel, by decide⟩
abbrev m_Game_spotToLeave : AM := (RX1, ⟨RX1, "spotToLeave", "(II)I"⟩, prog_3_method_17_code, 5, (some .int))
set_option maxRecDepth 20000 in
theorem d_Game_spotToLeave : aDec prog_3_method_17_code [(0, .aload_n 0, 1), (1, .iload_n 1, 1), (2, .invokevirtual 88, 3), (5, .ifCond .eq 15, 3), (8, .iload_n 2, 1), (9, .ifCond .lt 11, 3), (12, .iload_n 2, 1), (13, .aload_n 0, 1), (14, .getfield 15, 3), (17, .if_icmp .lt 5, 3), (20, .iconst (-1), 1), (21, .ireturn, 1), (22, .aload_n 0, 1), (23, .getfield 63, 3), (26, .iload_n 1, 1), (27, .iconst 2, 1), (28, .imul, 1), (29, .iload_n 2, 1), (30, .iadd, 1), (31, .iaload, 1), (32, .istore_n 3, 1), (33, .aload_n 0, 1), (34, .getfield 41, 3), (37, .iload_n 2, 1), (38, .iaload, 1), (39, .iconst 2, 1), (40, .if_icmp .eq 15, 3), (43, .aload_n 0, 1), (44, .getfield 41, 3), (47, .iload_n 2, 1), (48, .iaload, 1), (49, .iload_n 1, 1), (50, .iconst 1, 1), (51, .iand, 1), (52, .if_icmp .ne 7, 3), (55, .iconst 1, 1), (56, .goto 4, 3), (59, .iconst 0, 1), (60, .istore 4, 2), (62, .iload 4, 2), (64, .ifCond .eq 15, 3), (67, .iload_n 3, 1), (68, .aload_n 0, 1), (69, .getfield 9, 3), (72, .if_icmp .ge 7, 3), (75, .iload_n 3, 1), (76, .goto 4, 3), (79, .iconst (-1), 1), (80, .ireturn, 1)] := aDec_of (by decide +kernel)
theorem mok_Game_spotToLeave : mokV m_Game_spotToLeave 2 := ⟨rfl, tk5 3 rfl rfl, tk5 1 rfl rfl, tk5 2 rfl rfl, tk1 4 rfl rfl, by decide +kernel, by decide⟩
abbrev m_Game_fieldOrNone : AM := (RX1, ⟨RX1, "fieldOrNone", "(I)I"⟩, prog_3_method_18_code, 2, (some .int))
set_option maxRecDepth 20000 in
theorem d_Game_fieldOrNone : aDec prog_3_method_18_code [(0, .iload_n 1, 1), (1, .ifCond .lt 15, 3), (4, .iload_n 1, 1), (5, .aload_n 0, 1), (6, .getfield 9, 3), (9, .if_icmp .ge 7, 3), (12, .iload_n 1, 1), (13, .goto 4, 3), (16, .iconst (-1), 1), (17, .ireturn, 1)] := aDec_of (by decide +kernel)
theorem mok_Game_fieldOrNone : mokV m_Game_fieldOrNone 1 := ⟨rfl, tk5 8 rfl rfl, tk5 6 rfl rfl, tk5 7 rfl rfl, tk1 4 rfl rfl, by decide +kernel, by decide⟩
abbrev m_Game_positionBehind : AM := (RX1, ⟨RX1, "positionBehind", "(III)I"⟩, prog_3_method_19_code, 5, (some .int))
set_option maxRecDepth 20000 in
theorem d_Game_positionBehind : aDec prog_3_method_19_code [(0, .aload_n 0, 1), (1, .iload_n 1, 1), (2, .invokevirtual 88, 3), (5, .ifCond .eq 15, 3), (8, .iload_n 2, 1), (9, .ifCond .lt 11, 3), (12, .iload_n 2, 1), (13, .aload_n 0, 1), (14, .getfield 15, 3), (17, .if_icmp .lt 5, 3), (20, .iload_n 1, 1), (21, .ireturn, 1), (22, .aload_n 0, 1), (23, .getfield 63, 3), (26, .iload_n 1, 1), (27, .iconst 2, 1), (28, .imul, 1), (29, .iload_n 2, 1), (30, .iadd, 1), (31, .iaload, 1), (32, .istore 4, 2), (34, .iload_n 1, 1), (35, .iload_n 3, 1), (36, .iload 4, 2), (38, .isub, 1), (39, .aload_n 0, 1), (40, .getfield 60, 3), (43, .iload_n 2, 1), (44, .iaload, 1), (45, .imul, 1), (46, .iadd, 1), (47, .iconst 1, 1), (48, .ixor, 1), (49, .ireturn, 1)] := aDec_of (by decide +kernel)
theorem mok_Game_positionBehind : mokV m_Game_positionBehind 3 := ⟨rfl, tk5 41 rfl rfl, tk5 39 rfl rfl, tk5 40 rfl rfl, tk1 4 rfl rfl, by decide +kernel, by decide⟩
abbrev m_Game_winnerWhenStuck : AM := (RX1, ⟨RX1, "winnerWhenStuck", "(I)I"⟩, prog_3_method_20_code, 2, (some .int))
set_option maxRecDepth 20000 in
theorem d_Game_winnerWhenStuck : aDec prog_3_method_20_code [(0, .aload_n 0, 1), (1, .getfield 24, 3), (4, .iconst 1, 1), (5, .if_icmp .ne 5, 3), (8, .iconst 2, 1), (9, .ireturn, 1), (10, .aload_n 0, 1), (11, .getfield 24, 3), (14, .iconst 2, 1), (15, .if_icmp .ne 7, 3), (18, .iload_n 1, 1), (19, .goto 6, 3), (22, .iconst 1, 1), (23, .iload_n 1, 1), (24, .isub, 1), (25, .ireturn, 1)] := aDec_of (by decide +kernel)
theorem mok_Game_winnerWhenStuck : mokV m_Game_winnerWhenStuck 1 := ⟨rfl, tk5 74 rfl rfl, tk5 72 rfl rfl, tk5 73 rfl rfl, tk1 4 rfl rfl, by decide +kernel, by decide⟩
abbrev m_Math_floorDiv : AM := ("java/lang/Math", ⟨"java/lang/Math", "floorDiv", "(JJ)J"⟩, prog_17_method_49_code, 6, (some .long))
set_option maxRecDepth 20000 in
theorem d_Math_floorDiv : aDec prog_17_method_49_code [(0, .lload_n 0, 1), (1, .lload_n 2, 1), (2, .ldiv, 1), (3, .lstore 4, 2), (5, .lload_n 0, 1), (6, .lload_n 2, 1), (7, .lxor, 1), (8, .lconst 0, 1), (9, .lcmp, 1), (10, .ifCond .ge 17, 3), (13, .lload 4, 2), (15, .lload_n 2, 1), (16, .lmul, 1), (17, .lload_n 0, 1), (18, .lcmp, 1), (19, .ifCond .eq 8, 3), (22, .lload 4, 2), (24, .lconst 1, 1), (25, .lsub, 1), (26, .lreturn, 1), (27, .lload 4, 2), (29, .lreturn, 1)] := aDec_of (by decide +kernel)
theorem mok_Math_floorDiv : mokS m_Math_floorDiv 2 := ⟨rfl, tk5 22 rfl rfl, tk5 21 rfl rfl, tk1 3 rfl rfl, by decide +kernel, by decide⟩
abbrev m_Math_floorMod : AM := ("java/lang/Math", ⟨"java/lang/Math", "floorMod", "(JJ)J"⟩, prog_17_method_52_code, 6, (some .long))
set_option maxRecDepth 20000 in
theorem d_Math_floorMod : aDec prog_17_method_52_code [(0, .lload_n 0, 1), (1, .lload_n 2, 1), (2, .lrem, 1), (3, .lstore 4, 2), (5, .lload_n 0, 1), (6, .lload_n 2, 1), (7, .lxor, 1), (8, .lconst 0, 1), (9, .lcmp, 1), (10, .ifCond .ge 15, 3), (13, .lload 4, 2), (15, .lconst 0, 1), (16, .lcmp, 1), (17, .ifCond .eq 8, 3), (20, .lload 4, 2), (22, .lload_n 2, 1), (23, .ladd, 1), (24, .lreturn, 1), (25, .lload 4, 2), (27, .lreturn, 1)] := aDec_of (by decide +kernel)
theorem mok_Math_floorMod : mokS m_Math_floorMod 2 := ⟨rfl, tk5 25 rfl rfl, tk5 24 rfl rfl, tk1 3 rfl rfl, by decide +kernel, by decide⟩
abbrev m_Math_min_JJ : AM := ("java/lang/Math", ⟨"java/lang/Math", "min", "(JJ)J"⟩, prog_17_method_70_code, 4, (some .long))
set_option maxRecDepth 20000 in
theorem d_Math_min_JJ : aDec prog_17_method_70_code [(0, .lload_n 0, 1), (1, .lload_n 2, 1), (2, .lcmp, 1), (3, .ifCond .gt 7, 3), (6, .lload_n 0, 1), (7, .goto 4, 3), (10, .lload_n 2, 1), (11, .lreturn, 1)] := aDec_of (by decide +kernel)
theorem mok_Math_min_JJ : mokS m_Math_min_JJ 2 := ⟨rfl, tk5 28 rfl rfl, tk5 27 rfl rfl, tk1 3 rfl rfl, by decide +kernel, by decide⟩
abbrev m_Math_max_JJ : AM := ("java/lang/Math", ⟨"java/lang/Math", "max", "(JJ)J"⟩, prog_17_method_66_code, 4, (some .long))
set_option maxRecDepth 20000 in
theorem d_Math_max_JJ : aDec prog_17_method_66_code [(0, .lload_n 0, 1), (1, .lload_n 2, 1), (2, .lcmp, 1), (3, .ifCond .lt 7, 3), (6, .lload_n 0, 1), (7, .goto 4, 3), (10, .lload_n 2, 1), (11, .lreturn, 1)] := aDec_of (by decide +kernel)
theorem mok_Math_max_JJ : mokS m_Math_max_JJ 2 := ⟨rfl, tk5 31 rfl rfl, tk5 30 rfl rfl, tk1 3 rfl rfl, by decide +kernel, by decide⟩
abbrev m_Tests_combine : AM := (RX8, ⟨RX8, "combine", "(IJJ)I"⟩, prog_10_method_6_code, 7, (some .int))
set_option maxRecDepth 20000 in
theorem d_Tests_combine : aDec prog_10_method_6_code [(0, .lconst 0, 1), (1, .lstore 5, 2), (3, .iload_n 0, 1), (4, .tableswitch 200 (-12) (-2) #[192, 176, 160, 144, 134, 124, 104, 84, 76, 68, 60], 60), (64, .lload_n 1, 1), (65, .lload_n 3, 1), (66, .ladd, 1), (67, .lstore 5, 2), (69, .goto 140, 3), (72, .lload_n 1, 1), (73, .lload_n 3, 1), (74, .lsub, 1), (75, .lstore 5, 2), (77, .goto 132, 3), (80, .lload_n 1, 1), (81, .lload_n 3, 1), (82, .lmul, 1), (83, .lstore 5, 2), (85, .goto 124, 3), (88, .lload_n 3, 1), (89, .lconst 0, 1), (90, .lcmp, 1), (91, .ifCond .ne 7, 3), (94, .lconst 0, 1), (95, .goto 8, 3), (98, .lload_n 1, 1), (99, .lload_n 3, 1), (100, .invokestatic 32, 3), (103, .lstore 5, 2), (105, .goto 104, 3), (108, .lload_n 3, 1), (109, .lconst 0, 1), (110, .lcmp, 1), (111, .ifCond .ne 7, 3), (114, .lconst 0, 1), (115, .goto 8, 3), (118, .lload_n 1, 1), (119, .lload_n 3, 1), (120, .invokestatic 38, 3), (123, .lstore 5, 2), (125, .goto 84, 3), (128, .lload_n 1, 1), (129, .lload_n 3, 1), (130, .invokestatic 41, 3), (133, .lstore 5, 2), (135, .goto 74, 3), (138, .lload_n 1, 1), (139, .lload_n 3, 1), (140, .invokestatic 44, 3), (143, .lstore 5, 2), (145, .goto 64, 3), (148, .lload_n 1, 1), (149, .lload_n 3, 1), (150, .lcmp, 1), (151, .ifCond .ge 7, 3), (154, .lconst 1, 1), (155, .goto 4, 3), (158, .lconst 0, 1), (159, .lstore 5, 2), (161, .goto 48, 3), (164, .lload_n 1, 1), (165, .lload_n 3, 1), (166, .lcmp, 1), (167, .ifCond .le 7, 3), (170, .lconst 1, 1), (171, .goto 4, 3), (174, .lconst 0, 1), (175, .lstore 5, 2), (177, .goto 32, 3), (180, .lload_n 1, 1), (181, .lload_n 3, 1), (182, .lcmp, 1), (183, .ifCond .ne 7, 3), (186, .lconst 1, 1), (187, .goto 4, 3), (190, .lconst 0, 1), (191, .lstore 5, 2), (193, .goto 16, 3), (196, .lload_n 1, 1), (197, .lload_n 3, 1), (198, .land, 1), (199, .lstore 5, 2), (201, .goto 8, 3), (204, .lload_n 1, 1), (205, .lload_n 3, 1), (206, .lor, 1), (207, .lstore 5, 2), (209, .ldc2_w 47, 3), (212, .ldc2_w 49, 3), (215, .lload 5, 2), (217, .invokestatic 41, 3), (220, .invokestatic 44, 3), (223, .l2i, 1), (224, .ireturn, 1)] := aDec_of (by decide +kernel)
theorem mok_Tests_combine : mokS m_Tests_combine 3 := ⟨rfl, tk5 19 rfl rfl, tk5 18 rfl rfl, tk1 5 rfl rfl, by decide +kernel, by decide⟩
abbrev m_Tests_evaluate : AM := (RX8, ⟨RX8, "evaluate", "(IIIIII)Z"⟩, prog_10_method_5_code, 10, (some .boolean))
set_option maxRecDepth 20000 in
theorem d_Tests_evaluate : aDec prog_10_method_5_code [(0, .iload_n 1, 1), (1, .ifCond .lt 11, 3), (4, .iload_n 1, 1), (5, .aload_n 0, 1), (6, .getfield 22, 3), (9, .if_icmp .lt 5, 3), (12, .iconst 0, 1), (13, .ireturn, 1), (14, .iconst 0, 1), (15, .istore 7, 2), (17, .aload_n 0, 1), (18, .getfield 15, 3), (21, .iload_n 1, 1), (22, .iaload, 1), (23, .istore 8, 2), (25, .iload 8, 2), (27, .aload_n 0, 1), (28, .getfield 15, 3), (31, .iload_n 1, 1), (32, .iconst 1, 1), (33, .iadd, 1), (34, .iaload, 1), (35, .if_icmp .ge 185, 3), (38, .aload_n 0, 1), (39, .getfield 9, 3), (42, .iload 8, 2), (44, .iaload, 1), (45, .istore 9, 2), (47, .iload 9, 2), (49, .ifCond .ge 10, 3), (52, .iload 9, 2), (54, .bipush (-15), 2), (56, .if_icmp .gt 81, 3), (59, .iload 7, 2), (61, .bipush 64, 2), (63, .if_icmp .ge 151, 3), (66, .aload_n 0, 1), (67, .getfield 25, 3), (70, .iload 7, 2), (72, .iload 9, 2), (74, .ifCond .lt 8, 3), (77, .iload 9, 2), (79, .goto 51, 3), (82, .iload 9, 2), (84, .bipush (-15), 2), (86, .if_icmp .ne 7, 3), (89, .iload_n 2, 1), (90, .goto 40, 3), (93, .iload 9, 2), (95, .bipush (-16), 2), (97, .if_icmp .ne 7, 3), (100, .iload_n 3, 1), (101, .goto 29, 3), (104, .iload 9, 2), (106, .bipush (-17), 2), (108, .if_icmp .ne 8, 3), (111, .iload 4, 2), (113, .goto 17, 3), (116, .iload 9, 2), (118, .bipush (-18), 2), (120, .if_icmp .ne 8, 3), (123, .iload 5, 2), (125, .goto 5, 3), (128, .iload 6, 2), (130, .iastore, 1), (131, .iinc 7 1, 3), (134, .goto 80, 3), (137, .iload 9, 2), (139, .bipush (-14), 2), (141, .if_icmp .ne 32, 3), (144, .iload 7, 2), (146, .iconst 1, 1), (147, .if_icmp .lt 26, 3), (150, .aload_n 0, 1), (151, .getfield 25, 3), (154, .iload 7, 2), (156, .iconst 1, 1), (157, .isub, 1), (158, .iconst 1, 1), (159, .aload_n 0, 1), (160, .getfield 25, 3), (163, .iload 7, 2), (165, .iconst 1, 1), (166, .isub, 1), (167, .iaload, 1), (168, .isub, 1), (169, .iastore, 1), (170, .goto 44, 3), (173, .iload 7, 2), (175, .iconst 2, 1), (176, .if_icmp .lt 38, 3), (179, .iinc 7 (-1), 3), (182, .aload_n 0, 1), (183, .getfield 25, 3), (186, .iload 7, 2), (188, .iconst 1, 1), (189, .isub, 1), (190, .iload 9, 2), (192, .aload_n 0, 1), (193, .getfield 25, 3), (196, .iload 7, 2), (198, .iconst 1, 1), (199, .isub, 1), (200, .iaload, 1), (201, .i2l, 1), (202, .aload_n 0, 1), (203, .getfield 25, 3), (206, .iload 7, 2), (208, .iaload, 1), (209, .i2l, 1), (210, .invokestatic 28, 3), (213, .iastore, 1), (214, .iinc 8 1, 3), (217, .goto (-192), 3), (220, .iload 7, 2), (222, .ifCond .le 16, 3), (225, .aload_n 0, 1), (226, .getfield 25, 3), (229, .iconst 0, 1), (230, .iaload, 1), (231, .ifCond .eq 7, 3), (234, .iconst 1, 1), (235, .goto 4, 3), (238, .iconst 0, 1), (239, .ireturn, 1)] := aDec_of (by decide +kernel)
theorem mok_Tests_evaluate : mokV m_Tests_evaluate 6 := ⟨rfl, tk5 16 rfl rfl, tk5 14 rfl rfl, tk5 15 rfl rfl, tk1 5 rfl rfl, by decide +kernel, by decide⟩
abbrev m_Game_holds : AM := (RX1, ⟨RX1, "holds", "(IIII)Z"⟩, prog_3_method_21_code, 13, (some .boolean))
set_option maxRecDepth 20000 in
theorem d_Game_holds : aDec prog_3_method_21_code [(0, .aload_n 0, 1), (1, .iload_n 1, 1), (2, .invokevirtual 78, 3), (5, .ifCond .eq 15, 3), (8, .aload_n 0, 1), (9, .iload_n 2, 1), (10, .invokevirtual 88, 3), (13, .ifCond .eq 7, 3), (16, .iconst 1, 1), (17, .goto 4, 3), (20, .iconst 0, 1), (21, .istore 5, 2), (23, .iload 5, 2), (25, .ifCond .eq 27, 3), (28, .iload_n 3, 1), (29, .ifCond .lt 23, 3), (32, .iload_n 3, 1), (33, .aload_n 0, 1), (34, .getfield 15, 3), (37, .if_icmp .ge 15, 3), (40, .iload 4, 2), (42, .ifCond .lt 10, 3), (45, .iload 4, 2), (47, .bipush 10, 2), (49, .if_icmp .lt 5, 3), (52, .iconst 0, 1), (53, .ireturn, 1), (54, .iload_n 2, 1), (55, .iconst 2, 1), (56, .imul, 1), (57, .iload_n 3, 1), (58, .iadd, 1), (59, .bipush 10, 2), (61, .imul, 1), (62, .iload 4, 2), (64, .iadd, 1), (65, .istore 6, 2), (67, .iconst 1, 1), (68, .iload_n 1, 1), (69, .ishl, 1), (70, .istore 7, 2), (72, .aload_n 0, 1), (73, .getfield 66, 3), (76, .iload 6, 2), (78, .iaload, 1), (79, .iload 7, 2), (81, .bipush 12, 2), (83, .ishl, 1), (84, .iand, 1), (85, .ifCond .ne 140, 3), (88, .aload_n 0, 1), (89, .getfield 63, 3), (92, .iload_n 2, 1), (93, .iconst 2, 1), (94, .imul, 1), (95, .iaload, 1), (96, .istore 8, 2), (98, .aload_n 0, 1), (99, .getfield 63, 3), (102, .iload_n 2, 1), (103, .iconst 2, 1), (104, .imul, 1), (105, .iconst 1, 1), (106, .iadd, 1), (107, .iaload, 1), (108, .istore 9, 2), (110, .iload_n 3, 1), (111, .ifCond .ne 8, 3), (114, .iload 8, 2), (116, .goto 5, 3), (119, .iload 9, 2), (121, .istore 10, 2), (123, .aload_n 0, 1), (124, .getfield 44, 3), (127, .iload_n 1, 1), (128, .iaload, 1), (129, .iconst 2, 1), (130, .if_icmp .lt 7, 3), (133, .iconst 1, 1), (134, .goto 4, 3), (137, .iconst 0, 1), (138, .istore 11, 2), (140, .iload 11, 2), (142, .ifCond .eq 12, 3), (145, .iload_n 3, 1), (146, .ifCond .ne 8, 3), (149, .iload 4, 2), (151, .goto 5, 3), (154, .iload 8, 2), (156, .istore 8, 2), (158, .iload 11, 2), (160, .ifCond .eq 13, 3), (163, .iload_n 3, 1), (164, .iconst 1, 1), (165, .if_icmp .ne 8, 3), (168, .iload 4, 2), (170, .goto 5, 3), (173, .iload 9, 2), (175, .istore 9, 2), (177, .aload_n 0, 1), (178, .getfield 30, 3), (181, .iload_n 1, 1), (182, .iload 10, 2), (184, .iload 4, 2), (186, .iload_n 2, 1), (187, .iconst 1, 1), (188, .iand, 1), (189, .iload 8, 2), (191, .iload 9, 2), (193, .invokevirtual 91, 3), (196, .istore 12, 2), (198, .aload_n 0, 1), (199, .getfield 66, 3), (202, .iload 6, 2), (204, .dup2, 1), (205, .iaload, 1), (206, .iload 7, 2), (208, .bipush 12, 2), (210, .ishl, 1), (211, .iload 12, 2), (213, .ifCond .eq 8, 3), (216, .iload 7, 2), (218, .goto 4, 3), (221, .iconst 0, 1), (222, .ior, 1), (223, .ior, 1), (224, .iastore, 1), (225, .aload_n 0, 1), (226, .getfield 66, 3), (229, .iload 6, 2), (231, .iaload, 1), (232, .iload 7, 2), (234, .iand, 1), (235, .ifCond .eq 7, 3), (238, .iconst 1, 1), (239, .goto 4, 3), (242, .iconst 0, 1), (243, .ireturn, 1)] := aDec_of (by decide +kernel)
theorem mok_Game_holds : mokV m_Game_holds 4 := ⟨rfl, tk5 12 rfl rfl, tk5 10 rfl rfl, tk5 11 rfl rfl, tk1 4 rfl rfl, by decide +kernel, by decide⟩
abbrev m_Slate_isPlace : AM := (RX6, ⟨RX6, "isPlace", "(I)Z"⟩, prog_8_method_5_code, 2, (some .boolean))
set_option maxRecDepth 20000 in
theorem d_Slate_isPlace : aDec prog_8_method_5_code [(0, .iload_n 1, 1), (1, .ifCond .lt 21, 3), (4, .iload_n 1, 1), (5, .aload_n 0, 1), (6, .getfield 9, 3), (9, .if_icmp .ge 13, 3), (12, .iload_n 1, 1), (13, .bipush 12, 2), (15, .if_icmp .ge 7, 3), (18, .iconst 1, 1), (19, .goto 4, 3), (22, .iconst 0, 1), (23, .ireturn, 1)] := aDec_of (by decide +kernel)
theorem mok_Slate_isPlace : mokV m_Slate_isPlace 1 := ⟨rfl, tk3 1 rfl rfl, tk2 239 rfl rfl, tk3 0 rfl rfl, tk1 12 rfl rfl, by decide +kernel, by decide⟩
abbrev m_Slate_packedAt : AM := (RX6, ⟨RX6, "packedAt", "(I)I"⟩, prog_8_method_8_code, 2, (some .int))
set_option maxRecDepth 20000 in
theorem d_Slate_packedAt : aDec prog_8_method_8_code [(0, .aload_n 0, 1), (1, .iload_n 1, 1), (2, .invokevirtual 42, 3), (5, .ifCond .eq 12, 3), (8, .aload_n 0, 1), (9, .getfield 15, 3), (12, .iload_n 1, 1), (13, .iaload, 1), (14, .goto 4, 3), (17, .iconst 0, 1), (18, .ireturn, 1)] := aDec_of (by decide +kernel)
theorem mok_Slate_packedAt : mokV m_Slate_packedAt 1 := ⟨rfl, tk2 237 rfl rfl, tk2 235 rfl rfl, tk2 236 rfl rfl, tk1 12 rfl rfl, by decide +kernel, by decide⟩
abbrev m_Slate_setPacked : AM := (RX6, ⟨RX6, "setPacked", "(II)V"⟩, prog_8_method_7_code, 3, none)
set_option maxRecDepth 20000 in
theorem d_Slate_setPacked : aDec prog_8_method_7_code [(0, .aload_n 0, 1), (1, .iload_n 1, 1), (2, .invokevirtual 42, 3), (5, .ifCond .eq 10, 3), (8, .aload_n 0, 1), (9, .getfield 15, 3), (12, .iload_n 1, 1), (13, .iload_n 2, 1), (14, .iastore, 1), (15, .return_, 1)] := aDec_of (by decide +kernel)
theorem mok_Slate_setPacked : mokV m_Slate_setPacked 2 := ⟨rfl, tk4 162 rfl rfl, tk4 160 rfl rfl, tk4 161 rfl rfl, tk1 12 rfl rfl, by decide +kernel, by decide⟩
abbrev m_Slate_ruleAt : AM := (RX6, ⟨RX6, "ruleAt", "(I)I"⟩, prog_8_method_9_code, 2, (some .int))
set_option maxRecDepth 20000 in
theorem d_Slate_ruleAt : aDec prog_8_method_9_code [(0, .aload_n 0, 1), (1, .iload_n 1, 1), (2, .invokevirtual 46, 3), (5, .iconst 4, 1), (6, .ishr, 1), (7, .ireturn, 1)] := aDec_of (by decide +kernel)
theorem mok_Slate_ruleAt : mokV m_Slate_ruleAt 1 := ⟨rfl, tk3 5 rfl rfl, tk3 3 rfl rfl, tk3 4 rfl rfl, tk1 12 rfl rfl, by decide +kernel, by decide⟩
abbrev m_Slate_flagsAt : AM := (RX6, ⟨RX6, "flagsAt", "(I)I"⟩, prog_8_method_11_code, 2, (some .int))
set_option maxRecDepth 20000 in
theorem d_Slate_flagsAt : aDec prog_8_method_11_code [(0, .aload_n 0, 1), (1, .iload_n 1, 1), (2, .invokevirtual 46, 3), (5, .iconst 3, 1), (6, .iand, 1), (7, .ireturn, 1)] := aDec_of (by decide +kernel)
theorem mok_Slate_flagsAt : mokV m_Slate_flagsAt 1 := ⟨rfl, tk5 200 rfl rfl, tk5 198 rfl rfl, tk5 199 rfl rfl, tk1 12 rfl rfl, by decide +kernel, by decide⟩
abbrev m_Slate_setPlace : AM := (RX6, ⟨RX6, "setPlace", "(IIII)V"⟩, prog_8_method_6_code, 5, none)
set_option maxRecDepth 20000 in
theorem d_Slate_setPlace : aDec prog_8_method_6_code [(0, .aload_n 0, 1), (1, .iload_n 1, 1), (2, .iload_n 2, 1), (3, .bipush 16, 2), (5, .imul, 1), (6, .iload 4, 2), (8, .iconst 4, 1), (9, .imul, 1), (10, .iadd, 1), (11, .iload_n 3, 1), (12, .iadd, 1), (13, .invokevirtual 38, 3), (16, .return_, 1)] := aDec_of (by decide +kernel)
theorem mok_Slate_setPlace : mokV m_Slate_setPlace 4 := ⟨rfl, tk4 158 rfl rfl, tk4 156 rfl rfl, tk4 157 rfl rfl, tk1 12 rfl rfl, by decide +kernel, by decide⟩
abbrev m_Slate_apply : AM := (RX6, ⟨RX6, "apply", "(I)V"⟩, prog_8_method_17_code, 5, none)
set_option maxRecDepth 20000 in
theorem d_Slate_apply : aDec prog_8_method_17_code [(0, .iload_n 1, 1), (1, .bipush 6, 2), (3, .idiv, 1), (4, .istore_n 2, 1), (5, .iload_n 1, 1), (6, .bipush 6, 2), (8, .irem, 1), (9, .istore_n 3, 1), (10, .aload_n 0, 1), (11, .iload_n 2, 1), (12, .invokevirtual 46, 3), (15, .istore 4, 2), (17, .iload_n 3, 1), (18, .ifCond .ne 15, 3), (21, .aload_n 0, 1), (22, .iload_n 2, 1), (23, .iload 4, 2), (25, .iconst 1, 1), (26, .ixor, 1), (27, .invokevirtual 38, 3), (30, .goto 67, 3), (33, .iload_n 3, 1), (34, .iconst 1, 1), (35, .if_icmp .ne 15, 3), (38, .aload_n 0, 1), (39, .iload_n 2, 1), (40, .iload 4, 2), (42, .iconst 2, 1), (43, .ixor, 1), (44, .invokevirtual 38, 3), (47, .goto 50, 3), (50, .iload_n 3, 1), (51, .iconst 5, 1), (52, .if_icmp .ne 27, 3), (55, .aload_n 0, 1), (56, .iload_n 2, 1), (57, .aload_n 0, 1), (58, .iload_n 2, 1), (59, .iconst 1, 1), (60, .iadd, 1), (61, .invokevirtual 46, 3), (64, .invokevirtual 38, 3), (67, .aload_n 0, 1), (68, .iload_n 2, 1), (69, .iconst 1, 1), (70, .iadd, 1), (71, .iload 4, 2), (73, .invokevirtual 38, 3), (76, .goto 21, 3), (79, .aload_n 0, 1), (80, .iload_n 2, 1), (81, .aload_n 0, 1), (82, .iload_n 2, 1), (83, .invokevirtual 59, 3), (86, .aload_n 0, 1), (87, .iload_n 2, 1), (88, .invokevirtual 68, 3), (91, .iload_n 3, 1), (92, .iconst 1, 1), (93, .isub, 1), (94, .invokevirtual 28, 3), (97, .return_, 1)] := aDec_of (by decide +kernel)
theorem mok_Slate_apply : mokV m_Slate_apply 1 := ⟨rfl, tk5 195 rfl rfl, tk5 193 rfl rfl, tk5 194 rfl rfl, tk1 12 rfl rfl, by decide +kernel, by decide⟩
abbrev m_History_applyTo : AM := (RX2, ⟨RX2, "applyTo", "(LSundayGame$Slate;I)V"⟩, prog_4_method_2_code, 3, none)
set_option maxRecDepth 20000 in
theorem d_History_applyTo : aDec prog_4_method_2_code [(0, .aload_n 0, 1), (1, .getfield 9, 3), (4, .bipush 40, 2), (6, .if_icmp .lt 39, 3), (9, .aload_n 0, 1), (10, .getfield 15, 3), (13, .iconst 1, 1), (14, .aload_n 0, 1), (15, .getfield 15, 3), (18, .iconst 0, 1), (19, .bipush 39, 2), (21, .invokestatic 22, 3), (24, .aload_n 0, 1), (25, .getfield 19, 3), (28, .iconst 1, 1), (29, .aload_n 0, 1), (30, .getfield 19, 3), (33, .iconst 0, 1), (34, .bipush 39, 2), (36, .invokestatic 22, 3), (39, .aload_n 0, 1), (40, .bipush 39, 2), (42, .putfield 9, 3), (45, .aload_n 0, 1), (46, .getfield 15, 3), (49, .aload_n 0, 1), (50, .getfield 9, 3), (53, .iload_n 2, 1), (54, .iastore, 1), (55, .aload_n 0, 1), (56, .getfield 19, 3), (59, .aload_n 0, 1), (60, .getfield 9, 3), (63, .aload_n 1, 1), (64, .iload_n 2, 1), (65, .bipush 6, 2), (67, .idiv, 1), (68, .invokevirtual 28, 3), (71, .iastore, 1), (72, .aload_n 0, 1), (73, .dup, 1), (74, .getfield 9, 3), (77, .iconst 1, 1), (78, .iadd, 1), (79, .putfield 9, 3), (82, .aload_n 1, 1), (83, .iload_n 2, 1), (84, .invokevirtual 34, 3), (87, .return_, 1)] := aDec_of (by decide +kernel)
theorem mok_History_applyTo : mokV m_History_applyTo 2 := ⟨rfl, tk6 50 rfl rfl, tk6 48 rfl rfl, tk6 49 rfl rfl, tk1 14 rfl rfl, by decide +kernel, by decide⟩
abbrev m_History_takeBackFrom : AM := (RX2, ⟨RX2, "takeBackFrom", "(LSundayGame$Slate;)V"⟩, prog_4_method_3_code, 2, none)
set_option maxRecDepth 20000 in
theorem d_History_takeBackFrom : aDec prog_4_method_3_code [(0, .aload_n 0, 1), (1, .getfield 9, 3), (4, .ifCond .le 12, 3), (7, .aload_n 0, 1), (8, .getfield 9, 3), (11, .bipush 40, 2), (13, .if_icmp .le 4, 3), (16, .return_, 1), (17, .aload_n 0, 1), (18, .dup, 1), (19, .getfield 9, 3), (22, .iconst 1, 1), (23, .isub, 1), (24, .putfield 9, 3), (27, .aload_n 0, 1), (28, .getfield 15, 3), (31, .aload_n 0, 1), (32, .getfield 9, 3), (35, .iaload, 1), (36, .bipush 6, 2), (38, .irem, 1), (39, .iconst 5, 1), (40, .if_icmp .ne 19, 3), (43, .aload_n 1, 1), (44, .aload_n 0, 1), (45, .getfield 15, 3), (48, .aload_n 0, 1), (49, .getfield 9, 3), (52, .iaload, 1), (53, .invokevirtual 34, 3), (56, .goto 28, 3), (59, .aload_n 1, 1), (60, .aload_n 0, 1), (61, .getfield 15, 3), (64, .aload_n 0, 1), (65, .getfield 9, 3), (68, .iaload, 1), (69, .bipush 6, 2), (71, .idiv, 1), (72, .aload_n 0, 1), (73, .getfield 19, 3), (76, .aload_n 0, 1), (77, .getfield 9, 3), (80, .iaload, 1), (81, .invokevirtual 38, 3), (84, .return_, 1)] := aDec_of (by decide +kernel)
theorem mok_History_takeBackFrom : mokV m_History_takeBackFrom 1 := ⟨rfl, tk6 61 rfl rfl, tk6 59 rfl rfl, tk6 60 rfl rfl, tk1 14 rfl rfl, by decide +kernel, by decide⟩
abbrev m_Slate_takeAsTold : AM := (RX6, ⟨RX6, "takeAsTold", "(LSundayGame$Game;)V"⟩, prog_8_method_2_code, 3, none)
set_option maxRecDepth 20000 in
theorem d_Slate_takeAsTold : aDec prog_8_method_2_code [(0, .aload_n 0, 1), (1, .aload_n 1, 1), (2, .getfield 19, 3), (5, .putfield 9, 3), (8, .iconst 0, 1), (9, .istore_n 2, 1), (10, .iload_n 2, 1), (11, .aload_n 0, 1), (12, .getfield 9, 3), (15, .if_icmp .ge 27, 3), (18, .iload_n 2, 1), (19, .bipush 12, 2), (21, .if_icmp .ge 21, 3), (24, .aload_n 0, 1), (25, .iload_n 2, 1), (26, .iload_n 2, 1), (27, .iconst 0, 1), (28, .aload_n 1, 1), (29, .iload_n 2, 1), (30, .invokevirtual 24, 3), (33, .invokevirtual 28, 3), (36, .iinc 2 1, 3), (39, .goto (-29), 3), (42, .return_, 1)] := aDec_of (by decide +kernel)
theorem mok_Slate_takeAsTold : mokV m_Slate_takeAsTold 1 := ⟨rfl, tk4 150 rfl rfl, tk4 148 rfl rfl, tk4 149 rfl rfl, tk1 12 rfl rfl, by decide +kernel, by decide⟩
abbrev m_Slate_copyFrom : AM := (RX6, ⟨RX6, "copyFrom", "(LSundayGame$Slate;)V"⟩, prog_8_method_3_code, 2, none)
set_option maxRecDepth 20000 in
theorem d_Slate_copyFrom : aDec prog_8_method_3_code [(0, .aload_n 0, 1), (1, .aload_n 1, 1), (2, .getfield 9, 3), (5, .putfield 9, 3), (8, .aload_n 1, 1), (9, .getfield 15, 3), (12, .iconst 0, 1), (13, .aload_n 0, 1), (14, .getfield 15, 3), (17, .iconst 0, 1), (18, .bipush 12, 2), (20, .invokestatic 32, 3), (23, .return_, 1)] := aDec_of (by decide +kernel)
theorem mok_Slate_copyFrom : mokV m_Slate_copyFrom 1 := ⟨rfl, tk5 176 rfl rfl, tk5 174 rfl rfl, tk5 175 rfl rfl, tk1 12 rfl rfl, by decide +kernel, by decide⟩
abbrev m_Slate_isLike : AM := (RX6, ⟨RX6, "isLike", "(LSundayGame$Slate;)Z"⟩, prog_8_method_4_code, 4, (some .boolean))
set_option maxRecDepth 20000 in
theorem d_Slate_isLike : aDec prog_8_method_4_code [(0, .aload_n 0, 1), (1, .getfield 9, 3), (4, .aload_n 1, 1), (5, .getfield 9, 3), (8, .if_icmp .ne 7, 3), (11, .iconst 1, 1), (12, .goto 4, 3), (15, .iconst 0, 1), (16, .istore_n 2, 1), (17, .iconst 0, 1), (18, .istore_n 3, 1), (19, .iload_n 3, 1), (20, .aload_n 0, 1), (21, .getfield 9, 3), (24, .if_icmp .ge 40, 3), (27, .iload_n 3, 1), (28, .bipush 12, 2), (30, .if_icmp .ge 34, 3), (33, .iload_n 2, 1), (34, .ifCond .eq 30, 3), (37, .aload_n 0, 1), (38, .getfield 15, 3), (41, .iload_n 3, 1), (42, .iaload, 1), (43, .aload_n 1, 1), (44, .getfield 15, 3), (47, .iload_n 3, 1), (48, .iaload, 1), (49, .if_icmp .ne 7, 3), (52, .iconst 1, 1), (53, .goto 4, 3), (56, .iconst 0, 1), (57, .istore_n 2, 1), (58, .iinc 3 1, 3), (61, .goto (-42), 3), (64, .iload_n 2, 1), (65, .ireturn, 1)] := aDec_of (by decide +kernel)
theorem mok_Slate_isLike : mokV m_Slate_isLike 1 := ⟨rfl, tk5 167 rfl rfl, tk5 165 rfl rfl, tk5 166 rfl rfl, tk1 12 rfl rfl, by decide +kernel, by decide⟩
abbrev m_Slate_stepAt : AM := (RX6, ⟨RX6, "stepAt", "(I)I"⟩, prog_8_method_10_code, 2, (some .int))
set_option maxRecDepth 20000 in
theorem d_Slate_stepAt : aDec prog_8_method_10_code [(0, .aload_n 0, 1), (1, .iload_n 1, 1), (2, .invokevirtual 46, 3), (5, .iconst 2, 1), (6, .ishr, 1), (7, .iconst 3, 1), (8, .iand, 1), (9, .ireturn, 1)] := aDec_of (by decide +kernel)
theorem mok_Slate_stepAt : mokV m_Slate_stepAt 1 := ⟨rfl, tk3 21 rfl rfl, tk3 19 rfl rfl, tk3 20 rfl rfl, tk1 12 rfl rfl, by decide +kernel, by decide⟩
abbrev m_Slate_isStruck : AM := (RX6, ⟨RX6, "isStruck", "(I)Z"⟩, prog_8_method_12_code, 2, (some .boolean))
set_option maxRecDepth 20000 in
theorem d_Slate_isStruck : aDec prog_8_method_12_code [(0, .aload_n 0, 1), (1, .iload_n 1, 1), (2, .invokevirtual 46, 3), (5, .iconst 1, 1), (6, .iand, 1), (7, .ifCond .eq 7, 3), (10, .iconst 1, 1), (11, .goto 4, 3), (14, .iconst 0, 1), (15, .ireturn, 1)] := aDec_of (by decide +kernel)
theorem mok_Slate_isStruck : mokV m_Slate_isStruck 1 := ⟨rfl, tk2 233 rfl rfl, tk2 231 rfl rfl, tk2 232 rfl rfl, tk1 12 rfl rfl, by decide +kernel, by decide⟩
abbrev m_Slate_kindAt : AM := (RX6, ⟨RX6, "kindAt", "(ILSundayGame$Game;)I"⟩, prog_8_method_13_code, 5, (some .int))
set_option maxRecDepth 20000 in
theorem d_Slate_kindAt : aDec prog_8_method_13_code [(0, .aload_n 0, 1), (1, .iload_n 1, 1), (2, .invokevirtual 46, 3), (5, .istore_n 3, 1), (6, .aload_n 2, 1), (7, .iload_n 3, 1), (8, .iconst 4, 1), (9, .ishr, 1), (10, .invokevirtual 49, 3), (13, .istore 4, 2), (15, .iload_n 3, 1), (16, .iconst 2, 1), (17, .iand, 1), (18, .ifCond .eq 10, 3), (21, .iload 4, 2), (23, .iconst 1, 1), (24, .ixor, 1), (25, .goto 5, 3), (28, .iload 4, 2), (30, .ireturn, 1)] := aDec_of (by decide +kernel)
theorem mok_Slate_kindAt : mokV m_Slate_kindAt 2 := ⟨rfl, tk3 9 rfl rfl, tk3 7 rfl rfl, tk3 8 rfl rfl, tk1 12 rfl rfl, by decide +kernel, by decide⟩
abbrev m_Slate_countStruck : AM := (RX6, ⟨RX6, "countStruck", "()I"⟩, prog_8_method_14_code, 3, (some .int))
set_option maxRecDepth 20000 in
theorem d_Slate_countStruck : aDec prog_8_method_14_code [(0, .iconst 0, 1), (1, .istore_n 1, 1), (2, .iconst 0, 1), (3, .istore_n 2, 1), (4, .iload_n 2, 1), (5, .aload_n 0, 1), (6, .getfield 9, 3), (9, .if_icmp .ge 25, 3), (12, .iload_n 1, 1), (13, .aload_n 0, 1), (14, .iload_n 2, 1), (15, .invokevirtual 52, 3), (18, .ifCond .eq 7, 3), (21, .iconst 1, 1), (22, .goto 4, 3), (25, .iconst 0, 1), (26, .iadd, 1), (27, .istore_n 1, 1), (28, .iinc 2 1, 3), (31, .goto (-27), 3), (34, .iload_n 1, 1), (35, .ireturn, 1)] := aDec_of (by decide +kernel)
theorem mok_Slate_countStruck : mokV m_Slate_countStruck 0 := ⟨rfl, tk4 179 rfl rfl, tk4 177 rfl rfl, tk4 178 rfl rfl, tk1 12 rfl rfl, by decide +kernel, by decide⟩
abbrev m_Slate_codeCount : AM := (RX6, ⟨RX6, "codeCount", "()I"⟩, prog_8_method_15_code, 1, (some .int))
set_option maxRecDepth 20000 in
theorem d_Slate_codeCount : aDec prog_8_method_15_code [(0, .aload_n 0, 1), (1, .getfield 9, 3), (4, .bipush 6, 2), (6, .imul, 1), (7, .ireturn, 1)] := aDec_of (by decide +kernel)
theorem mok_Slate_codeCount : mokV m_Slate_codeCount 0 := ⟨rfl, tk6 24 rfl rfl, tk6 22 rfl rfl, tk6 23 rfl rfl, tk1 12 rfl rfl, by decide +kernel, by decide⟩
abbrev m_Slate_allows : AM := (RX6, ⟨RX6, "allows", "(LSundayGame$Game;I)Z"⟩, prog_8_method_16_code, 6, (some .boolean))
set_option maxRecDepth 20000 in
theorem d_Slate_allows : aDec prog_8_method_16_code [(0, .iload_n 2, 1), (1, .ifCond .lt 11, 3), (4, .iload_n 2, 1), (5, .aload_n 0, 1), (6, .invokevirtual 55, 3), (9, .if_icmp .lt 5, 3), (12, .iconst 0, 1), (13, .ireturn, 1), (14, .iload_n 2, 1), (15, .bipush 6, 2), (17, .idiv, 1), (18, .istore_n 3, 1), (19, .iload_n 2, 1), (20, .bipush 6, 2), (22, .irem, 1), (23, .istore 4, 2), (25, .aload_n 1, 1), (26, .aload_n 0, 1), (27, .iload_n 3, 1), (28, .invokevirtual 59, 3), (31, .invokevirtual 62, 3), (34, .ifCond .eq 5, 3), (37, .iconst 0, 1), (38, .ireturn, 1), (39, .iload 4, 2), (41, .iconst 5, 1), (42, .if_icmp .ne 33, 3), (45, .iload_n 3, 1), (46, .iconst 1, 1), (47, .iadd, 1), (48, .aload_n 0, 1), (49, .getfield 9, 3), (52, .if_icmp .ge 21, 3), (55, .aload_n 1, 1), (56, .aload_n 0, 1), (57, .iload_n 3, 1), (58, .iconst 1, 1), (59, .iadd, 1), (60, .invokevirtual 59, 3), (63, .invokevirtual 62, 3), (66, .ifCond .ne 7, 3), (69, .iconst 1, 1), (70, .goto 4, 3), (73, .iconst 0, 1), (74, .ireturn, 1), (75, .aload_n 0, 1), (76, .iload_n 3, 1), (77, .invokevirtual 65, 3), (80, .istore 5, 2), (82, .iload 4, 2), (84, .ifCond .eq 23, 3), (87, .iload 4, 2), (89, .iconst 1, 1), (90, .if_icmp .eq 17, 3), (93, .iload 5, 2), (95, .ifCond .eq 16, 3), (98, .iload 5, 2), (100, .iload 4, 2), (102, .iconst 1, 1), (103, .isub, 1), (104, .if_icmp .eq 7, 3), (107, .iconst 1, 1), (108, .goto 4, 3), (111, .iconst 0, 1), (112, .ireturn, 1)] := aDec_of (by decide +kernel)
theorem mok_Slate_allows : mokV m_Slate_allows 2 := ⟨rfl, tk6 28 rfl rfl, tk6 26 rfl rfl, tk6 27 rfl rfl, tk1 12 rfl rfl, by decide +kernel, by decide⟩
abbrev m_Tests_emit : AM := (RX8, ⟨RX8, "emit", "(I)V"⟩, prog_10_method_3_code, 2, none)
set_option maxRecDepth 20000 in
theorem d_Tests_emit : aDec prog_10_method_3_code [(0, .aload_n 0, 1), (1, .getfield 18, 3), (4, .sipush 1800, 3), (7, .if_icmp .ge 23, 3), (10, .aload_n 0, 1), (11, .getfield 9, 3), (14, .aload_n 0, 1), (15, .getfield 18, 3), (18, .iload_n 1, 1), (19, .iastore, 1), (20, .aload_n 0, 1), (21, .dup, 1), (22, .getfield 18, 3), (25, .iconst 1, 1), (26, .iadd, 1), (27, .putfield 18, 3), (30, .return_, 1)] := aDec_of (by decide +kernel)
theorem mok_Tests_emit : mokV m_Tests_emit 1 := ⟨rfl, tk4 109 rfl rfl, tk4 107 rfl rfl, tk4 108 rfl rfl, tk1 5 rfl rfl, by decide +kernel, by decide⟩
abbrev m_Tests_close : AM := (RX8, ⟨RX8, "close", "()V"⟩, prog_10_method_4_code, 1, none)
set_option maxRecDepth 20000 in
theorem d_Tests_close : aDec prog_10_method_4_code [(0, .aload_n 0, 1), (1, .getfield 22, 3), (4, .bipush 12, 2), (6, .if_icmp .ge 26, 3), (9, .aload_n 0, 1), (10, .dup, 1), (11, .getfield 22, 3), (14, .iconst 1, 1), (15, .iadd, 1), (16, .putfield 22, 3), (19, .aload_n 0, 1), (20, .getfield 15, 3), (23, .aload_n 0, 1), (24, .getfield 22, 3), (27, .aload_n 0, 1), (28, .getfield 18, 3), (31, .iastore, 1), (32, .return_, 1)] := aDec_of (by decide +kernel)
theorem mok_Tests_close : mokV m_Tests_close 0 := ⟨rfl, tk4 141 rfl rfl, tk4 139 rfl rfl, tk4 140 rfl rfl, tk1 5 rfl rfl, by decide +kernel, by decide⟩
abbrev m_Tokens_typeOf : AM := (RX9, ⟨RX9, "typeOf", "(I)I"⟩, prog_11_method_2_code, 2, (some .int))
set_option maxRecDepth 20000 in
theorem d_Tokens_typeOf : aDec prog_11_method_2_code [(0, .iload_n 1, 1), (1, .ifCond .lt 20, 3), (4, .iload_n 1, 1), (5, .aload_n 0, 1), (6, .getfield 24, 3), (9, .if_icmp .ge 12, 3), (12, .aload_n 0, 1), (13, .getfield 15, 3), (16, .iload_n 1, 1), (17, .iaload, 1), (18, .goto 4, 3), (21, .iconst 1, 1), (22, .ireturn, 1)] := aDec_of (by decide +kernel)
theorem mok_Tokens_typeOf : mokV m_Tokens_typeOf 1 := ⟨rfl, tk4 13 rfl rfl, tk4 11 rfl rfl, tk4 12 rfl rfl, tk1 7 rfl rfl, by decide +kernel, by decide⟩
abbrev m_Tokens_placeOf : AM := (RX9, ⟨RX9, "placeOf", "(I)I"⟩, prog_11_method_3_code, 2, (some .int))
set_option maxRecDepth 20000 in
theorem d_Tokens_placeOf : aDec prog_11_method_3_code [(0, .iload_n 1, 1), (1, .ifCond .lt 20, 3), (4, .iload_n 1, 1), (5, .aload_n 0, 1), (6, .getfield 24, 3), (9, .if_icmp .ge 12, 3), (12, .aload_n 0, 1), (13, .getfield 18, 3), (16, .iload_n 1, 1), (17, .iaload, 1), (18, .goto 4, 3), (21, .iconst (-1), 1), (22, .ireturn, 1)] := aDec_of (by decide +kernel)
theorem mok_Tokens_placeOf : mokV m_Tokens_placeOf 1 := ⟨rfl, tk4 29 rfl rfl, tk4 27 rfl rfl, tk4 28 rfl rfl, tk1 7 rfl rfl, by decide +kernel, by decide⟩
abbrev m_Tokens_contentOf : AM := (RX9, ⟨RX9, "contentOf", "(I)I"⟩, prog_11_method_4_code, 2, (some .int))
set_option maxRecDepth 20000 in
theorem d_Tokens_contentOf : aDec prog_11_method_4_code [(0, .iload_n 1, 1), (1, .ifCond .lt 20, 3), (4, .iload_n 1, 1), (5, .aload_n 0, 1), (6, .getfield 24, 3), (9, .if_icmp .ge 12, 3), (12, .aload_n 0, 1), (13, .getfield 21, 3), (16, .iload_n 1, 1), (17, .iaload, 1), (18, .goto 4, 3), (21, .iconst 0, 1), (22, .ireturn, 1)] := aDec_of (by decide +kernel)
theorem mok_Tokens_contentOf : mokV m_Tokens_contentOf 1 := ⟨rfl, tk4 37 rfl rfl, tk4 35 rfl rfl, tk4 36 rfl rfl, tk1 7 rfl rfl, by decide +kernel, by decide⟩
abbrev m_Tokens_last : AM := (RX9, ⟨RX9, "last", "()I"⟩, prog_11_method_5_code, 1, (some .int))
set_option maxRecDepth 20000 in
theorem d_Tokens_last : aDec prog_11_method_5_code [(0, .aload_n 0, 1), (1, .getfield 24, 3), (4, .iconst 1, 1), (5, .isub, 1), (6, .ireturn, 1)] := aDec_of (by decide +kernel)
theorem mok_Tokens_last : mokV m_Tokens_last 0 := ⟨rfl, tk4 21 rfl rfl, tk4 19 rfl rfl, tk4 20 rfl rfl, tk1 7 rfl rfl, by decide +kernel, by decide⟩
abbrev m_Tokens_isBlank : AM := (RX9, ⟨RX9, "isBlank", "(I)Z"⟩, prog_11_method_13_code, 1, (some .boolean))
set_option maxRecDepth 20000 in
theorem d_Tokens_isBlank : aDec prog_11_method_13_code [(0, .iload_n 0, 1), (1, .bipush 10, 2), (3, .if_icmp .eq 9, 3), (6, .iload_n 0, 1), (7, .bipush 32, 2), (9, .if_icmp .ne 7, 3), (12, .iconst 1, 1), (13, .goto 4, 3), (16, .iconst 0, 1), (17, .ireturn, 1)] := aDec_of (by decide +kernel)
theorem mok_Tokens_isBlank : mokS m_Tokens_isBlank 1 := ⟨rfl, tk3 157 rfl rfl, tk3 156 rfl rfl, tk1 7 rfl rfl, by decide +kernel, by decide⟩
abbrev m_Tokens_add : AM := (RX9, ⟨RX9, "add", "(III)I"⟩, prog_11_method_10_code, 4, (some .int))
set_option maxRecDepth 20000 in
theorem d_Tokens_add : aDec prog_11_method_10_code [(0, .aload_n 0, 1), (1, .getfield 24, 3), (4, .sipush 1801, 3), (7, .if_icmp .ge 43, 3), (10, .aload_n 0, 1), (11, .getfield 15, 3), (14, .aload_n 0, 1), (15, .getfield 24, 3), (18, .iload_n 1, 1), (19, .iastore, 1), (20, .aload_n 0, 1), (21, .getfield 18, 3), (24, .aload_n 0, 1), (25, .getfield 24, 3), (28, .iload_n 2, 1), (29, .iastore, 1), (30, .aload_n 0, 1), (31, .getfield 21, 3), (34, .aload_n 0, 1), (35, .getfield 24, 3), (38, .iload_n 3, 1), (39, .iastore, 1), (40, .aload_n 0, 1), (41, .dup, 1), (42, .getfield 24, 3), (45, .iconst 1, 1), (46, .iadd, 1), (47, .putfield 24, 3), (50, .iload_n 1, 1), (51, .ireturn, 1)] := aDec_of (by decide +kernel)
theorem mok_Tokens_add : mokV m_Tokens_add 3 := ⟨rfl, tk3 165 rfl rfl, tk3 164 rfl rfl, ts1 6 (⟨"SundayGame$Tokens", "add", "(III)I"⟩, 6) rfl rfl, tk1 7 rfl rfl, by decide +kernel, by decide⟩
abbrev m_Tokens_isLetter : AM := (RX9, ⟨RX9, "isLetter", "(I)Z"⟩, prog_11_method_14_code, 1, (some .boolean))
set_option maxRecDepth 20000 in
theorem d_Tokens_isLetter : aDec prog_11_method_14_code [(0, .iload_n 0, 1), (1, .bipush 97, 2), (3, .if_icmp .lt 13, 3), (6, .iload_n 0, 1), (7, .bipush 122, 2), (9, .if_icmp .gt 7, 3), (12, .iconst 1, 1), (13, .goto 4, 3), (16, .iconst 0, 1), (17, .ireturn, 1)] := aDec_of (by decide +kernel)
theorem mok_Tokens_isLetter : mokS m_Tokens_isLetter 1 := ⟨rfl, tk3 168 rfl rfl, tk3 167 rfl rfl, tk1 7 rfl rfl, by decide +kernel, by decide⟩
abbrev m_Tokens_isDigit : AM := (RX9, ⟨RX9, "isDigit", "(I)Z"⟩, prog_11_method_15_code, 1, (some .boolean))
set_option maxRecDepth 20000 in
theorem d_Tokens_isDigit : aDec prog_11_method_15_code [(0, .iload_n 0, 1), (1, .bipush 48, 2), (3, .if_icmp .lt 13, 3), (6, .iload_n 0, 1), (7, .bipush 57, 2), (9, .if_icmp .gt 7, 3), (12, .iconst 1, 1), (13, .goto 4, 3), (16, .iconst 0, 1), (17, .ireturn, 1)] := aDec_of (by decide +kernel)
theorem mok_Tokens_isDigit : mokS m_Tokens_isDigit 1 := ⟨rfl, tk3 171 rfl rfl, tk3 170 rfl rfl, tk1 7 rfl rfl, by decide +kernel, by decide⟩
abbrev m_Tokens_withLetter : AM := (RX9, ⟨RX9, "withLetter", "(III)I"⟩, prog_11_method_11_code, 3, (some .int))
set_option maxRecDepth 20000 in
theorem d_Tokens_withLetter : aDec prog_11_method_11_code [(0, .iload_n 0, 1), (1, .iload_n 2, 1), (2, .bipush 97, 2), (4, .isub, 1), (5, .iconst 1, 1), (6, .iadd, 1), (7, .iconst 5, 1), (8, .iconst 5, 1), (9, .iload_n 1, 1), (10, .isub, 1), (11, .imul, 1), (12, .ishl, 1), (13, .ior, 1), (14, .ireturn, 1)] := aDec_of (by decide +kernel)
theorem mok_Tokens_withLetter : mokS m_Tokens_withLetter 3 := ⟨rfl, tk1 207 rfl rfl, tk1 206 rfl rfl, tk1 7 rfl rfl, by decide +kernel, by decide⟩
abbrev m_Tokens_cutWord : AM := (RX9, ⟨RX9, "cutWord", "(LSundayGame$Bytes;)I"⟩, prog_11_method_8_code, 6, (some .int))
set_option maxRecDepth 20000 in
theorem d_Tokens_cutWord : aDec prog_11_method_8_code [(0, .aload_n 0, 1), (1, .getfield 28, 3), (4, .istore_n 2, 1), (5, .iconst 0, 1), (6, .istore_n 3, 1), (7, .aload_n 0, 1), (8, .getfield 28, 3), (11, .aload_n 1, 1), (12, .getfield 47, 3), (15, .if_icmp .ge 71, 3), (18, .aload_n 1, 1), (19, .aload_n 0, 1), (20, .getfield 28, 3), (23, .invokevirtual 51, 3), (26, .invokestatic 66, 3), (29, .ifCond .eq 57, 3), (32, .aload_n 0, 1), (33, .getfield 28, 3), (36, .iload_n 2, 1), (37, .isub, 1), (38, .bipush 6, 2), (40, .if_icmp .ne 14, 3), (43, .aload_n 0, 1), (44, .iconst 1, 1), (45, .aload_n 0, 1), (46, .getfield 28, 3), (49, .iconst 0, 1), (50, .invokevirtual 63, 3), (53, .ireturn, 1), (54, .iload_n 3, 1), (55, .aload_n 0, 1), (56, .getfield 28, 3), (59, .iload_n 2, 1), (60, .isub, 1), (61, .aload_n 1, 1), (62, .aload_n 0, 1), (63, .getfield 28, 3), (66, .invokevirtual 51, 3), (69, .invokestatic 43, 3), (72, .istore_n 3, 1), (73, .aload_n 0, 1), (74, .dup, 1), (75, .getfield 28, 3), (78, .iconst 1, 1), (79, .iadd, 1), (80, .putfield 28, 3), (83, .goto (-76), 3), (86, .iconst 2, 1), (87, .istore 4, 2), (89, .iconst 0, 1), (90, .istore 5, 2), (92, .iload 5, 2), (94, .bipush 23, 2), (96, .if_icmp .ge 28, 3), (99, .aload_n 0, 1), (100, .getfield 11, 3), (103, .iload 5, 2), (105, .iaload, 1), (106, .iload_n 3, 1), (107, .if_icmp .ne 11, 3), (110, .sipush 256, 3), (113, .iload 5, 2), (115, .iadd, 1), (116, .istore 4, 2), (118, .iinc 5 1, 3), (121, .goto (-29), 3), (124, .aload_n 0, 1), (125, .iload 4, 2), (127, .iload_n 2, 1), (128, .iload_n 3, 1), (129, .invokevirtual 63, 3), (132, .ireturn, 1)] := aDec_of (by decide +kernel)
theorem mok_Tokens_cutWord : mokV m_Tokens_cutWord 1 := ⟨rfl, tk3 175 rfl rfl, tk3 174 rfl rfl, ts1 7 (⟨"SundayGame$Tokens", "cutWord", "(LSundayGame$Bytes;)I"⟩, 6) rfl rfl, tk1 7 rfl rfl, by decide +kernel, by decide⟩
abbrev m_Tokens_cutNumber : AM := (RX9, ⟨RX9, "cutNumber", "(LSundayGame$Bytes;)I"⟩, prog_11_method_9_code, 4, (some .int))
set_option maxRecDepth 20000 in
theorem d_Tokens_cutNumber : aDec prog_11_method_9_code [(0, .aload_n 0, 1), (1, .getfield 28, 3), (4, .istore_n 2, 1), (5, .iconst 0, 1), (6, .istore_n 3, 1), (7, .aload_n 0, 1), (8, .getfield 28, 3), (11, .aload_n 1, 1), (12, .getfield 47, 3), (15, .if_icmp .ge 68, 3), (18, .aload_n 1, 1), (19, .aload_n 0, 1), (20, .getfield 28, 3), (23, .invokevirtual 51, 3), (26, .invokestatic 69, 3), (29, .ifCond .eq 54, 3), (32, .aload_n 0, 1), (33, .getfield 28, 3), (36, .iload_n 2, 1), (37, .isub, 1), (38, .iconst 4, 1), (39, .if_icmp .ne 14, 3), (42, .aload_n 0, 1), (43, .iconst 1, 1), (44, .aload_n 0, 1), (45, .getfield 28, 3), (48, .iconst 0, 1), (49, .invokevirtual 63, 3), (52, .ireturn, 1), (53, .iload_n 3, 1), (54, .bipush 10, 2), (56, .imul, 1), (57, .aload_n 1, 1), (58, .aload_n 0, 1), (59, .getfield 28, 3), (62, .invokevirtual 51, 3), (65, .iadd, 1), (66, .bipush 48, 2), (68, .isub, 1), (69, .istore_n 3, 1), (70, .aload_n 0, 1), (71, .dup, 1), (72, .getfield 28, 3), (75, .iconst 1, 1), (76, .iadd, 1), (77, .putfield 28, 3), (80, .goto (-73), 3), (83, .aload_n 0, 1), (84, .iconst 3, 1), (85, .iload_n 2, 1), (86, .iload_n 3, 1), (87, .invokevirtual 63, 3), (90, .ireturn, 1)] := aDec_of (by decide +kernel)
theorem mok_Tokens_cutNumber : mokV m_Tokens_cutNumber 1 := ⟨rfl, tk3 179 rfl rfl, tk3 178 rfl rfl, ts1 8 (⟨"SundayGame$Tokens", "cutNumber", "(LSundayGame$Bytes;)I"⟩, 6) rfl rfl, tk1 7 rfl rfl, by decide +kernel, by decide⟩
abbrev m_Str_isLatin1 : AM := ("java/lang/String", ⟨"java/lang/String", "isLatin1", "()Z"⟩, prog_18_method_154_code, 1, (some .boolean))
set_option maxRecDepth 20000 in
theorem d_Str_isLatin1 : aDec prog_18_method_154_code [(0, .getstatic 38, 3), (3, .ifCond .eq 14, 3), (6, .aload_n 0, 1), (7, .getfield 15, 3), (10, .ifCond .ne 7, 3), (13, .iconst 1, 1), (14, .goto 4, 3), (17, .iconst 0, 1), (18, .ireturn, 1)] := aDec_of (by decide +kernel)
theorem mok_Str_isLatin1 : mokV m_Str_isLatin1 0 := ⟨rfl, tk1 174 rfl rfl, tk1 172 rfl rfl, tk1 173 rfl rfl, tk1 8 rfl rfl, by decide +kernel, by decide⟩
abbrev m_Str_coder : AM := ("java/lang/String", ⟨"java/lang/String", "coder", "()B"⟩, prog_18_method_152_code, 1, (some .byte))
set_option maxRecDepth 20000 in
theorem d_Str_coder : aDec prog_18_method_152_code [(0, .getstatic 38, 3), (3, .ifCond .eq 10, 3), (6, .aload_n 0, 1), (7, .getfield 15, 3), (10, .goto 4, 3), (13, .iconst 1, 1), (14, .ireturn, 1)] := aDec_of (by decide +kernel)
theorem mok_Str_coder : mokV m_Str_coder 0 := ⟨rfl, tk1 164 rfl rfl, tk1 162 rfl rfl, tk1 163 rfl rfl, tk1 8 rfl rfl, by decide +kernel, by decide⟩
abbrev m_Str_length : AM := ("java/lang/String", ⟨"java/lang/String", "length", "()I"⟩, prog_18_method_54_code, 1, (some .int))
set_option maxRecDepth 20000 in
theorem d_Str_length : aDec prog_18_method_54_code [(0, .aload_n 0, 1), (1, .getfield 9, 3), (4, .arraylength, 1), (5, .aload_n 0, 1), (6, .invokevirtual 335, 3), (9, .ishr, 1), (10, .ireturn, 1)] := aDec_of (by decide +kernel)
theorem mok_Str_length : mokV m_Str_length 0 := ⟨rfl, tk1 160 rfl rfl, tk1 158 rfl rfl, tk1 159 rfl rfl, tk1 8 rfl rfl, by decide +kernel, by decide⟩
abbrev m_Lat_canEncode : AM := ("java/lang/StringLatin1", ⟨"java/lang/StringLatin1", "canEncode", "(I)Z"⟩, prog_19_method_4_code, 1, (some .boolean))
set_option maxRecDepth 20000 in
theorem d_Lat_canEncode : aDec prog_19_method_4_code [(0, .iload_n 0, 1), (1, .ifCond .lt 14, 3), (4, .iload_n 0, 1), (5, .sipush 255, 3), (8, .if_icmp .gt 7, 3), (11, .iconst 1, 1), (12, .goto 4, 3), (15, .iconst 0, 1), (16, .ireturn, 1)] := aDec_of (by decide +kernel)
theorem mok_Lat_canEncode : mokS m_Lat_canEncode 1 := ⟨rfl, tk3 195 rfl rfl, tk3 194 rfl rfl, tk1 9 rfl rfl, by decide +kernel, by decide⟩
abbrev m_Math_max_II : AM := ("java/lang/Math", ⟨"java/lang/Math", "max", "(II)I"⟩, prog_17_method_65_code, 2, (some .int))
set_option maxRecDepth 20000 in
theorem d_Math_max_II : aDec prog_17_method_65_code [(0, .iload_n 0, 1), (1, .iload_n 1, 1), (2, .if_icmp .lt 7, 3), (5, .iload_n 0, 1), (6, .goto 4, 3), (9, .iload_n 1, 1), (10, .ireturn, 1)] := aDec_of (by decide +kernel)
theorem mok_Math_max_II : mokS m_Math_max_II 2 := ⟨rfl, tk1 39 rfl rfl, tk1 38 rfl rfl, tk1 3 rfl rfl, by decide +kernel, by decide⟩
abbrev m_Math_min_II : AM := ("java/lang/Math", ⟨"java/lang/Math", "min", "(II)I"⟩, prog_17_method_69_code, 2, (some .int))
set_option maxRecDepth 20000 in
theorem d_Math_min_II : aDec prog_17_method_69_code [(0, .iload_n 0, 1), (1, .iload_n 1, 1), (2, .if_icmp .gt 7, 3), (5, .iload_n 0, 1), (6, .goto 4, 3), (9, .iload_n 1, 1), (10, .ireturn, 1)] := aDec_of (by decide +kernel)
theorem mok_Math_min_II : mokS m_Math_min_II 2 := ⟨rfl, tk3 199 rfl rfl, tk3 198 rfl rfl, tk1 3 rfl rfl, by decide +kernel, by decide⟩
abbrev m_Lat_indexOfChar : AM := ("java/lang/StringLatin1", ⟨"java/lang/StringLatin1", "indexOfChar", "([BIII)I"⟩, prog_19_method_23_code, 6, (some .int))
set_option maxRecDepth 20000 in
theorem d_Lat_indexOfChar : aDec prog_19_method_23_code [(0, .iload_n 1, 1), (1, .i2b, 1), (2, .istore 4, 2), (4, .iload_n 2, 1), (5, .istore 5, 2), (7, .iload 5, 2), (9, .iload_n 3, 1), (10, .if_icmp .ge 21, 3), (13, .aload_n 0, 1), (14, .iload 5, 2), (16, .baload, 1), (17, .iload 4, 2), (19, .if_icmp .ne 6, 3), (22, .iload 5, 2), (24, .ireturn, 1), (25, .iinc 5 1, 3), (28, .goto (-21), 3), (31, .iconst (-1), 1), (32, .ireturn, 1)] := aDec_of (by decide +kernel)
theorem mok_Lat_indexOfChar : mokS m_Lat_indexOfChar 4 := ⟨rfl, tk3 202 rfl rfl, tk3 201 rfl rfl, tk1 9 rfl rfl, by decide +kernel, by decide⟩
abbrev m_Lat_indexOf : AM := ("java/lang/StringLatin1", ⟨"java/lang/StringLatin1", "indexOf", "([BIII)I"⟩, prog_19_method_22_code, 4, (some .int))
set_option maxRecDepth 20000 in
theorem d_Lat_indexOf : aDec prog_19_method_22_code [(0, .iload_n 1, 1), (1, .invokestatic 88, 3), (4, .ifCond .ne 5, 3), (7, .iconst (-1), 1), (8, .ireturn, 1), (9, .iload_n 2, 1), (10, .iconst 0, 1), (11, .invokestatic 92, 3), (14, .istore_n 2, 1), (15, .iload_n 3, 1), (16, .aload_n 0, 1), (17, .arraylength, 1), (18, .invokestatic 38, 3), (21, .istore_n 3, 1), (22, .iload_n 2, 1), (23, .iload_n 3, 1), (24, .if_icmp .lt 5, 3), (27, .iconst (-1), 1), (28, .ireturn, 1), (29, .aload_n 0, 1), (30, .iload_n 1, 1), (31, .iload_n 2, 1), (32, .iload_n 3, 1), (33, .invokestatic 95, 3), (36, .ireturn, 1)] := aDec_of (by decide +kernel)
theorem mok_Lat_indexOf : mokS m_Lat_indexOf 4 := ⟨rfl, tk3 192 rfl rfl, tk3 191 rfl rfl, tk1 9 rfl rfl, by decide +kernel, by decide⟩
abbrev m_Str_indexOf_II : AM := ("java/lang/String", ⟨"java/lang/String", "indexOf", "(II)I"⟩, prog_18_method_80_code, 3, (some .int))
set_option maxRecDepth 20000 in
theorem d_Str_indexOf_II : aDec prog_18_method_80_code [(0, .aload_n 0, 1), (1, .invokevirtual 492, 3), (4, .ifCond .eq 19, 3), (7, .aload_n 0, 1), (8, .getfield 9, 3), (11, .iload_n 1, 1), (12, .iload_n 2, 1), (13, .aload_n 0, 1), (14, .invokevirtual 505, 3), (17, .invokestatic 637, 3), (20, .goto 16, 3), (20, .goto 16, 3), (36, .ireturn, 1)] := aDec_of (by decide +kernel)
theorem mok_Str_indexOf_II : mokV m_Str_indexOf_II 2 := ⟨rfl, tk3 188 rfl rfl, tk3 186 rfl rfl, tk3 187 rfl rfl, tk1 8 rfl rfl, by decide +kernel, by decide⟩
abbrev m_Str_indexOf_I : AM := ("java/lang/String", ⟨"java/lang/String", "indexOf", "(I)I"⟩, prog_18_method_79_code, 2, (some .int))
set_option maxRecDepth 20000 in
theorem d_Str_indexOf_I : aDec prog_18_method_79_code [(0, .aload_n 0, 1), (1, .iload_n 1, 1), (2, .iconst 0, 1), (3, .invokevirtual 633, 3), (6, .ireturn, 1)] := aDec_of (by decide +kernel)
theorem mok_Str_indexOf_I : mokV m_Str_indexOf_I 1 := ⟨rfl, tk3 184 rfl rfl, tk3 182 rfl rfl, tk3 183 rfl rfl, tk1 8 rfl rfl, by decide +kernel, by decide⟩
abbrev m_Tokens_cutOne : AM := (RX9, ⟨RX9, "cutOne", "(LSundayGame$Bytes;Z)I"⟩, prog_11_method_7_code, 5, (some .int))
set_option maxRecDepth 20000 in
theorem d_Tokens_cutOne : aDec prog_11_method_7_code [(0, .aload_n 1, 1), (1, .aload_n 0, 1), (2, .getfield 28, 3), (5, .invokevirtual 51, 3), (8, .istore_n 3, 1), (9, .iload_n 3, 1), (10, .iconst (-1), 1), (11, .if_icmp .ne 14, 3), (14, .aload_n 0, 1), (15, .iconst 0, 1), (16, .aload_n 0, 1), (17, .getfield 28, 3), (20, .iconst 0, 1), (21, .invokevirtual 63, 3), (24, .ireturn, 1), (25, .iload_n 3, 1), (26, .invokestatic 66, 3), (29, .istore 4, 2), (31, .iload_n 2, 1), (32, .ifCond .eq 26, 3), (35, .iload 4, 2), (37, .ifCond .ne 10, 3), (40, .iload_n 3, 1), (41, .invokestatic 69, 3), (44, .ifCond .eq 14, 3), (47, .aload_n 0, 1), (48, .iconst 1, 1), (49, .aload_n 0, 1), (50, .getfield 28, 3), (53, .iconst 0, 1), (54, .invokevirtual 63, 3), (57, .ireturn, 1), (58, .iload 4, 2), (60, .ifCond .eq 9, 3), (63, .aload_n 0, 1), (64, .aload_n 1, 1), (65, .invokevirtual 72, 3), (68, .ireturn, 1), (69, .iload_n 3, 1), (70, .invokestatic 69, 3), (73, .ifCond .eq 9, 3), (76, .aload_n 0, 1), (77, .aload_n 1, 1), (78, .invokevirtual 76, 3), (81, .ireturn, 1), (82, .aload_n 0, 1), (83, .dup, 1), (84, .getfield 28, 3), (87, .iconst 1, 1), (88, .iadd, 1), (89, .putfield 28, 3), (92, .aload_n 0, 1), (93, .ldc 79, 2), (95, .iload_n 3, 1), (96, .i2c, 1), (97, .invokevirtual 81, 3), (100, .ifCond .lt 7, 3), (103, .iload_n 3, 1), (104, .goto 4, 3), (107, .iconst 1, 1), (108, .aload_n 0, 1), (109, .getfield 28, 3), (112, .iconst 1, 1), (113, .isub, 1), (114, .iconst 0, 1), (115, .invokevirtual 63, 3), (118, .ireturn, 1)] := aDec_of (by decide +kernel)
theorem mok_Tokens_cutOne : mokV m_Tokens_cutOne 2 := ⟨rfl, tk3 161 rfl rfl, tk3 160 rfl rfl, ts1 5 (⟨"SundayGame$Tokens", "cutOne", "(LSundayGame$Bytes;Z)I"⟩, 6) rfl rfl, tk1 7 rfl rfl, by decide +kernel, by decide⟩
abbrev m_Tokens_cut : AM := (RX9, ⟨RX9, "cut", "(LSundayGame$Bytes;)V"⟩, prog_11_method_6_code, 6, none)
set_option maxRecDepth 20000 in
theorem d_Tokens_cut : aDec prog_11_method_6_code [(0, .aload_n 0, 1), (1, .iconst 0, 1), (2, .putfield 24, 3), (5, .aload_n 0, 1), (6, .iconst 0, 1), (7, .putfield 28, 3), (10, .iconst (-1), 1), (11, .istore_n 2, 1), (12, .iconst 0, 1), (13, .istore_n 3, 1), (14, .iload_n 3, 1), (15, .sipush 1801, 3), (18, .if_icmp .ge 111, 3), (21, .iload_n 2, 1), (22, .ifCond .eq 107, 3), (25, .iload_n 2, 1), (26, .iconst 1, 1), (27, .if_icmp .eq 102, 3), (30, .aload_n 0, 1), (31, .getfield 28, 3), (34, .istore 4, 2), (36, .iload_n 2, 1), (37, .iconst 3, 1), (38, .if_icmp .eq 15, 3), (41, .iload_n 2, 1), (42, .iconst 2, 1), (43, .if_icmp .eq 10, 3), (46, .iload_n 2, 1), (47, .sipush 256, 3), (50, .if_icmp .lt 7, 3), (53, .iconst 1, 1), (54, .goto 4, 3), (57, .iconst 0, 1), (58, .istore 5, 2), (60, .aload_n 0, 1), (61, .getfield 28, 3), (64, .aload_n 1, 1), (65, .getfield 47, 3), (68, .if_icmp .ge 30, 3), (71, .aload_n 1, 1), (72, .aload_n 0, 1), (73, .getfield 28, 3), (76, .invokevirtual 51, 3), (79, .invokestatic 55, 3), (82, .ifCond .eq 16, 3), (85, .aload_n 0, 1), (86, .dup, 1), (87, .getfield 28, 3), (90, .iconst 1, 1), (91, .iadd, 1), (92, .putfield 28, 3), (95, .goto (-35), 3), (98, .aload_n 0, 1), (99, .aload_n 1, 1), (100, .iload 5, 2), (102, .ifCond .eq 16, 3), (105, .aload_n 0, 1), (106, .getfield 28, 3), (109, .iload 4, 2), (111, .if_icmp .ne 7, 3), (114, .iconst 1, 1), (115, .goto 4, 3), (118, .iconst 0, 1), (119, .invokevirtual 59, 3), (122, .istore_n 2, 1), (123, .iinc 3 1, 3), (126, .goto (-112), 3), (129, .return_, 1)] := aDec_of (by decide +kernel)
theorem mok_Tokens_cut : mokV m_Tokens_cut 1 := ⟨rfl, tk3 150 rfl rfl, tk3 148 rfl rfl, tk3 149 rfl rfl, tk1 7 rfl rfl, by decide +kernel, by decide⟩
abbrev m_Pre_checkIndex : AM := ("jdk/internal/util/Preconditions", ⟨"jdk/internal/util/Preconditions", "checkIndex", "(IILjava/util/function/BiFunction;)I"⟩, prog_23_method_11_code, 3, (some .int))
set_option maxRecDepth 20000 in
theorem d_Pre_checkIndex : aDec prog_23_method_11_code [(0, .iload_n 0, 1), (1, .ifCond .lt 8, 3), (4, .iload_n 0, 1), (5, .iload_n 1, 1), (6, .if_icmp .lt 10, 3), (6, .if_icmp .lt 10, 3), (16, .iload_n 0, 1), (17, .ireturn, 1)] := aDec_of (by decide +kernel)
theorem mok_Pre_checkIndex : mokS m_Pre_checkIndex 3 := ⟨rfl, tk1 185 rfl rfl, tk1 184 rfl rfl, tk1 10 rfl rfl, by decide +kernel, by decide⟩
abbrev m_Str_checkIndex : AM := ("java/lang/String", ⟨"java/lang/String", "checkIndex", "(II)V"⟩, prog_18_method_155_code, 2, none)
set_option maxRecDepth 20000 in
theorem d_Str_checkIndex : aDec prog_18_method_155_code [(0, .iload_n 0, 1), (1, .iload_n 1, 1), (2, .getstatic 1053, 3), (5, .invokestatic 1059, 3), (8, .pop, 1), (9, .return_, 1)] := aDec_of (by decide +kernel)
theorem mok_Str_checkIndex : mokS m_Str_checkIndex 2 := ⟨rfl, tk1 180 rfl rfl, tk1 179 rfl rfl, tk1 8 rfl rfl, by decide +kernel, by decide⟩
abbrev m_Lat_charAt : AM := ("java/lang/StringLatin1", ⟨"java/lang/StringLatin1", "charAt", "([BI)C"⟩, prog_19_method_2_code, 2, (some .char))
set_option maxRecDepth 20000 in
theorem d_Lat_charAt : aDec prog_19_method_2_code [(0, .iload_n 1, 1), (1, .aload_n 0, 1), (2, .arraylength, 1), (3, .invokestatic 9, 3), (6, .aload_n 0, 1), (7, .iload_n 1, 1), (8, .baload, 1), (9, .sipush 255, 3), (12, .iand, 1), (13, .i2c, 1), (14, .ireturn, 1)] := aDec_of (by decide +kernel)
theorem mok_Lat_charAt : mokS m_Lat_charAt 2 := ⟨rfl, tk1 177 rfl rfl, tk1 176 rfl rfl, tk1 9 rfl rfl, by decide +kernel, by decide⟩
abbrev m_Str_charAt : AM := ("java/lang/String", ⟨"java/lang/String", "charAt", "(I)C"⟩, prog_18_method_56_code, 2, (some .char))
set_option maxRecDepth 20000 in
theorem d_Str_charAt : aDec prog_18_method_56_code [(0, .aload_n 0, 1), (1, .invokevirtual 492, 3), (4, .ifCond .eq 12, 3), (7, .aload_n 0, 1), (8, .getfield 9, 3), (11, .iload_n 1, 1), (12, .invokestatic 495, 3), (15, .ireturn, 1), (15, .ireturn, 1)] := aDec_of (by decide +kernel)
theorem mok_Str_charAt : mokV m_Str_charAt 1 := ⟨rfl, tk1 170 rfl rfl, tk1 168 rfl rfl, tk1 169 rfl rfl, tk1 8 rfl rfl, by decide +kernel, by decide⟩
abbrev m_Reader_type : AM := (RX5, ⟨RX5, "type", "()I"⟩, prog_7_method_3_code, 1, (some .int))
set_option maxRecDepth 20000 in
theorem d_Reader_type : aDec prog_7_method_3_code [(0, .aload_n 0, 1), (1, .getfield 21, 3), (4, .aload_n 0, 1), (5, .getfield 25, 3), (8, .invokevirtual 58, 3), (11, .ireturn, 1)] := aDec_of (by decide +kernel)
theorem mok_Reader_type : mokV m_Reader_type 0 := ⟨rfl, tk4 9 rfl rfl, tk4 8 rfl rfl, ts1 11 (⟨"SundayGame$Reader", "type", "()I"⟩, 6) rfl rfl, tk1 6 rfl rfl, by decide +kernel, by decide⟩
abbrev m_Reader_step : AM := (RX5, ⟨RX5, "step", "()V"⟩, prog_7_method_4_code, 1, none)
set_option maxRecDepth 20000 in
theorem d_Reader_step : aDec prog_7_method_4_code [(0, .aload_n 0, 1), (1, .getfield 25, 3), (4, .aload_n 0, 1), (5, .getfield 21, 3), (8, .invokevirtual 62, 3), (11, .if_icmp .ge 13, 3), (14, .aload_n 0, 1), (15, .dup, 1), (16, .getfield 25, 3), (19, .iconst 1, 1), (20, .iadd, 1), (21, .putfield 25, 3), (24, .return_, 1)] := aDec_of (by decide +kernel)
theorem mok_Reader_step : mokV m_Reader_step 0 := ⟨rfl, tk4 17 rfl rfl, tk4 16 rfl rfl, ts1 12 (⟨"SundayGame$Reader", "step", "()V"⟩, 6) rfl rfl, tk1 6 rfl rfl, by decide +kernel, by decide⟩
abbrev m_Reader_fail : AM := (RX5, ⟨RX5, "fail", "(I)V"⟩, prog_7_method_5_code, 2, none)
set_option maxRecDepth 20000 in
theorem d_Reader_fail : aDec prog_7_method_5_code [(0, .aload_n 0, 1), (1, .getfield 9, 3), (4, .ifCond .ne 23, 3), (7, .aload_n 0, 1), (8, .iload_n 1, 1), (9, .putfield 9, 3), (12, .aload_n 0, 1), (13, .aload_n 0, 1), (14, .getfield 21, 3), (17, .aload_n 0, 1), (18, .getfield 25, 3), (21, .invokevirtual 65, 3), (24, .putfield 15, 3), (27, .aload_n 0, 1), (28, .aload_n 0, 1), (29, .getfield 21, 3), (32, .invokevirtual 62, 3), (35, .putfield 25, 3), (38, .return_, 1)] := aDec_of (by decide +kernel)
theorem mok_Reader_fail : mokV m_Reader_fail 1 := ⟨rfl, tk4 25 rfl rfl, tk4 24 rfl rfl, ts1 13 (⟨"SundayGame$Reader", "fail", "(I)V"⟩, 6) rfl rfl, tk1 6 rfl rfl, by decide +kernel, by decide⟩
abbrev m_Reader_take : AM := (RX5, ⟨RX5, "take", "(I)V"⟩, prog_7_method_6_code, 2, none)
set_option maxRecDepth 20000 in
theorem d_Reader_take : aDec prog_7_method_6_code [(0, .aload_n 0, 1), (1, .invokevirtual 51, 3), (4, .iload_n 1, 1), (5, .if_icmp .ne 10, 3), (8, .aload_n 0, 1), (9, .invokevirtual 68, 3), (12, .goto 8, 3), (15, .aload_n 0, 1), (16, .iconst 1, 1), (17, .invokevirtual 71, 3), (20, .return_, 1)] := aDec_of (by decide +kernel)
theorem mok_Reader_take : mokV m_Reader_take 1 := ⟨rfl, tk4 5 rfl rfl, tk4 4 rfl rfl, ts1 10 (⟨"SundayGame$Reader", "take", "(I)V"⟩, 6) rfl rfl, tk1 6 rfl rfl, by decide +kernel, by decide⟩
abbrev m_Reader_takeNameOfPiece : AM := (RX5, ⟨RX5, "takeNameOfPiece", "()I"⟩, prog_7_method_16_code, 2, (some .int))
set_option maxRecDepth 20000 in
theorem d_Reader_takeNameOfPiece : aDec prog_7_method_16_code [(0, .aload_n 0, 1), (1, .getfield 31, 3), (4, .aload_n 0, 1), (5, .getfield 21, 3), (8, .aload_n 0, 1), (9, .getfield 25, 3), (12, .invokevirtual 74, 3), (15, .invokevirtual 99, 3), (18, .istore_n 1, 1), (19, .aload_n 0, 1), (20, .invokevirtual 51, 3), (23, .iconst 2, 1), (24, .if_icmp .ne 13, 3), (27, .iload_n 1, 1), (28, .iconst (-1), 1), (29, .if_icmp .ne 8, 3), (32, .aload_n 0, 1), (33, .iconst 3, 1), (34, .invokevirtual 71, 3), (37, .aload_n 0, 1), (38, .iconst 2, 1), (39, .invokevirtual 47, 3), (42, .iload_n 1, 1), (43, .ireturn, 1)] := aDec_of (by decide +kernel)
theorem mok_Reader_takeNameOfPiece : mokV m_Reader_takeNameOfPiece 0 := ⟨rfl, tk4 77 rfl rfl, tk4 76 rfl rfl, ts2 5 (⟨"SundayGame$Reader", "takeNameOfPiece", "()I"⟩, 6) rfl rfl, tk1 6 rfl rfl, by decide +kernel, by decide⟩
abbrev m_Reader_openBracket : AM := (RX5, ⟨RX5, "openBracket", "(I)V"⟩, prog_7_method_20_code, 2, none)
set_option maxRecDepth 20000 in
theorem d_Reader_openBracket : aDec prog_7_method_20_code [(0, .aload_n 0, 1), (1, .invokevirtual 51, 3), (4, .iload_n 1, 1), (5, .if_icmp .ne 17, 3), (8, .aload_n 0, 1), (9, .getfield 28, 3), (12, .bipush 8, 2), (14, .if_icmp .ne 8, 3), (17, .aload_n 0, 1), (18, .iconst 5, 1), (19, .invokevirtual 71, 3), (22, .aload_n 0, 1), (23, .iload_n 1, 1), (24, .invokevirtual 47, 3), (27, .aload_n 0, 1), (28, .dup, 1), (29, .getfield 28, 3), (32, .iconst 1, 1), (33, .iadd, 1), (34, .putfield 28, 3), (37, .return_, 1)] := aDec_of (by decide +kernel)
theorem mok_Reader_openBracket : mokV m_Reader_openBracket 1 := ⟨rfl, tk4 101 rfl rfl, tk4 100 rfl rfl, ts2 10 (⟨"SundayGame$Reader", "openBracket", "(I)V"⟩, 6) rfl rfl, tk1 6 rfl rfl, by decide +kernel, by decide⟩
abbrev m_Reader_closeBracket : AM := (RX5, ⟨RX5, "closeBracket", "(I)V"⟩, prog_7_method_21_code, 2, none)
set_option maxRecDepth 20000 in
theorem d_Reader_closeBracket : aDec prog_7_method_21_code [(0, .aload_n 0, 1), (1, .iload_n 1, 1), (2, .invokevirtual 47, 3), (5, .aload_n 0, 1), (6, .dup, 1), (7, .getfield 28, 3), (10, .iconst 1, 1), (11, .isub, 1), (12, .putfield 28, 3), (15, .return_, 1)] := aDec_of (by decide +kernel)
theorem mok_Reader_closeBracket : mokV m_Reader_closeBracket 1 := ⟨rfl, tk4 105 rfl rfl, tk4 104 rfl rfl, ts2 11 (⟨"SundayGame$Reader", "closeBracket", "(I)V"⟩, 6) rfl rfl, tk1 6 rfl rfl, by decide +kernel, by decide⟩
abbrev m_Reader_comparisonTold : AM := (RX5, ⟨RX5, "comparisonTold", "()I"⟩, prog_7_method_23_code, 1, (some .int))
set_option maxRecDepth 20000 in
theorem d_Reader_comparisonTold : aDec prog_7_method_23_code [(0, .aload_n 0, 1), (1, .invokevirtual 51, 3), (4, .tableswitch 37 60 62 #[28, 34, 31], 28), (32, .bipush (-9), 2), (34, .ireturn, 1), (35, .bipush (-10), 2), (37, .ireturn, 1), (38, .bipush (-11), 2), (40, .ireturn, 1), (41, .iconst (-1), 1), (42, .ireturn, 1)] := aDec_of (by decide +kernel)
theorem mok_Reader_comparisonTold : mokV m_Reader_comparisonTold 0 := ⟨rfl, tk4 137 rfl rfl, tk4 136 rfl rfl, ts3 2 (⟨"SundayGame$Reader", "comparisonTold", "()I"⟩, 6) rfl rfl, tk1 6 rfl rfl, by decide +kernel, by decide⟩
abbrev m_Reader_factorTold : AM := (RX5, ⟨RX5, "factorTold", "()I"⟩, prog_7_method_26_code, 1, (some .int))
set_option maxRecDepth 20000 in
theorem d_Reader_factorTold : aDec prog_7_method_26_code [(0, .aload_n 0, 1), (1, .invokevirtual 51, 3), (4, .lookupswitch 45 #[(37, 42), (42, 36), (47, 39)], 36), (40, .bipush (-4), 2), (42, .ireturn, 1), (43, .bipush (-5), 2), (45, .ireturn, 1), (46, .bipush (-6), 2), (48, .ireturn, 1), (49, .iconst (-1), 1), (50, .ireturn, 1)] := aDec_of (by decide +kernel)
theorem mok_Reader_factorTold : mokV m_Reader_factorTold 0 := ⟨rfl, tk4 133 rfl rfl, tk4 132 rfl rfl, ts3 1 (⟨"SundayGame$Reader", "factorTold", "()I"⟩, 6) rfl rfl, tk1 6 rfl rfl, by decide +kernel, by decide⟩
theorem lkF_Bytes_9 : Cond.fieldLink "SundayGame$Bytes" 9 "SundayGame$Bytes" "length" "I" ∈ tG := tk1 40 rfl rfl
theorem lkF_Bytes_21 : Cond.fieldLink "SundayGame$Bytes" 21 "SundayGame$Bytes" "row" "[I" ∈ tG := tk1 43 rfl rfl
theorem lkM_Bytes_25 : Cond.methodLink "SundayGame$Bytes" 25 ⟨"SundayGame$Bytes", "put", "(I)V"⟩ ∈ tG := tk3 123 rfl rfl
theorem lkF_Tests_18 : Cond.fieldLink "SundayGame$Tests" 18 "SundayGame$Tests" "length" "I" ∈ tG := tk1 64 rfl rfl
theorem lkF_Tests_22 : Cond.fieldLink "SundayGame$Tests" 22 "SundayGame$Tests" "count" "I" ∈ tG := tk1 65 rfl rfl
theorem lkF_Game_9 : Cond.fieldLink "SundayGame$Game" 9 "SundayGame$Game" "fields" "I" ∈ tG := tk1 78 rfl rfl
theorem lkF_Game_15 : Cond.fieldLink "SundayGame$Game" 15 "SundayGame$Game" "pieces" "I" ∈ tG := tk1 82 rfl rfl
theorem lkF_Game_18 : Cond.fieldLink "SundayGame$Game" 18 "SundayGame$Game" "rules" "I" ∈ tG := tk1 85 rfl rfl
theorem lkF_Game_21 : Cond.fieldLink "SundayGame$Game" 21 "SundayGame$Game" "positions" "I" ∈ tG := tk1 89 rfl rfl
theorem lkF_Game_24 : Cond.fieldLink "SundayGame$Game" 24 "SundayGame$Game" "stuck" "I" ∈ tG := tk1 92 rfl rfl
theorem lkF_Game_30 : Cond.fieldLink "SundayGame$Game" 30 "SundayGame$Game" "tests" "LSundayGame$Tests;" ∈ tG := tk1 95 rfl rfl
theorem lkM_Game_69 : Cond.methodLink "SundayGame$Game" 69 ⟨"SundayGame$Tests", "clear", "()V"⟩ ∈ tG := tk3 143 rfl rfl
theorem lkF_Game_34 : Cond.fieldLink "SundayGame$Game" 34 "SundayGame$Game" "names" "[I" ∈ tG := tk1 97 rfl rfl
theorem lkF_Game_38 : Cond.fieldLink "SundayGame$Game" 38 "SundayGame$Game" "starts" "[I" ∈ tG := tk1 98 rfl rfl
theorem lkF_Game_41 : Cond.fieldLink "SundayGame$Game" 41 "SundayGame$Game" "owners" "[I" ∈ tG := tk1 99 rfl rfl
theorem lkF_Game_44 : Cond.fieldLink "SundayGame$Game" 44 "SundayGame$Game" "kindsTold" "[I" ∈ tG := tk1 100 rfl rfl
theorem lkF_Game_56 : Cond.fieldLink "SundayGame$Game" 56 "SundayGame$Game" "evers" "[Z" ∈ tG := tk1 104 rfl rfl
theorem lkF_Game_47 : Cond.fieldLink "SundayGame$Game" 47 "SundayGame$Game" "piecesTold" "[I" ∈ tG := tk1 101 rfl rfl
theorem lkF_Game_50 : Cond.fieldLink "SundayGame$Game" 50 "SundayGame$Game" "waysTold" "[I" ∈ tG := tk1 102 rfl rfl
theorem lkF_Game_53 : Cond.fieldLink "SundayGame$Game" 53 "SundayGame$Game" "stepsTold" "[I" ∈ tG := tk1 103 rfl rfl
theorem lkF_Game_63 : Cond.fieldLink "SundayGame$Game" 63 "SundayGame$Game" "spots" "[I" ∈ tG := tk1 106 rfl rfl
theorem lkF_Game_60 : Cond.fieldLink "SundayGame$Game" 60 "SundayGame$Game" "weights" "[I" ∈ tG := tk1 105 rfl rfl
theorem lkF_Game_66 : Cond.fieldLink "SundayGame$Game" 66 "SundayGame$Game" "truths" "[I" ∈ tG := tk1 107 rfl rfl
theorem lkM_Game_72 : Cond.methodLink "SundayGame$Game" 72 ⟨"java/util/Arrays", "fill", "([II)V"⟩ ∈ tG := tk4 146 rfl rfl
theorem lkM_Game_78 : Cond.methodLink "SundayGame$Game" 78 ⟨"SundayGame$Game", "isRule", "(I)Z"⟩ ∈ tG := tk3 14 rfl rfl
theorem lkM_Game_82 : Cond.methodLink "SundayGame$Game" 82 ⟨"SundayGame$Tokens", "letterOf", "(II)I"⟩ ∈ tG := tk4 189 rfl rfl
theorem lkM_Game_88 : Cond.methodLink "SundayGame$Game" 88 ⟨"SundayGame$Game", "isPosition", "(I)Z"⟩ ∈ tG := tk5 4 rfl rfl
theorem lkJ_Tests_47 : Cond.constantLong "SundayGame$Tests" 47 (Int64.ofInt (-1000000)) ∈ tG := tk5 32 rfl rfl
theorem lkJ_Tests_49 : Cond.constantLong "SundayGame$Tests" 49 (Int64.ofInt 1000000) ∈ tG := tk5 33 rfl rfl
theorem lkM_Tests_41 : Cond.methodLink "SundayGame$Tests" 41 ⟨"java/lang/Math", "min", "(JJ)J"⟩ ∈ tG := tk5 26 rfl rfl
theorem lkM_Tests_44 : Cond.methodLink "SundayGame$Tests" 44 ⟨"java/lang/Math", "max", "(JJ)J"⟩ ∈ tG := tk5 29 rfl rfl
theorem lkM_Tests_38 : Cond.methodLink "SundayGame$Tests" 38 ⟨"java/lang/Math", "floorMod", "(JJ)J"⟩ ∈ tG := tk5 23 rfl rfl
theorem lkM_Tests_32 : Cond.methodLink "SundayGame$Tests" 32 ⟨"java/lang/Math", "floorDiv", "(JJ)J"⟩ ∈ tG := tk5 20 rfl rfl
theorem lkF_Tests_25 : Cond.fieldLink "SundayGame$Tests" 25 "SundayGame$Tests" "stack" "[I" ∈ tG := tk1 66 rfl rfl
theorem lkM_Tests_28 : Cond.methodLink "SundayGame$Tests" 28 ⟨"SundayGame$Tests", "combine", "(IJJ)I"⟩ ∈ tG := tk5 17 rfl rfl
theorem lkF_Tests_15 : Cond.fieldLink "SundayGame$Tests" 15 "SundayGame$Tests" "ends" "[I" ∈ tG := tk1 63 rfl rfl
theorem lkF_Tests_9 : Cond.fieldLink "SundayGame$Tests" 9 "SundayGame$Tests" "code" "[I" ∈ tG := tk1 62 rfl rfl
theorem lkM_Game_91 : Cond.methodLink "SundayGame$Game" 91 ⟨"SundayGame$Tests", "evaluate", "(IIIIII)Z"⟩ ∈ tG := tk5 13 rfl rfl
theorem lkF_Slate_9 : Cond.fieldLink "SundayGame$Slate" 9 "SundayGame$Slate" "size" "I" ∈ tG := tk2 15 rfl rfl
theorem lkM_Slate_42 : Cond.methodLink "SundayGame$Slate" 42 ⟨"SundayGame$Slate", "isPlace", "(I)Z"⟩ ∈ tG := tk2 238 rfl rfl
theorem lkF_Slate_15 : Cond.fieldLink "SundayGame$Slate" 15 "SundayGame$Slate" "places" "[I" ∈ tG := tk2 18 rfl rfl
theorem lkM_Slate_46 : Cond.methodLink "SundayGame$Slate" 46 ⟨"SundayGame$Slate", "packedAt", "(I)I"⟩ ∈ tG := tk2 234 rfl rfl
theorem lkM_Slate_38 : Cond.methodLink "SundayGame$Slate" 38 ⟨"SundayGame$Slate", "setPacked", "(II)V"⟩ ∈ tG := tk4 159 rfl rfl
theorem lkM_Slate_59 : Cond.methodLink "SundayGame$Slate" 59 ⟨"SundayGame$Slate", "ruleAt", "(I)I"⟩ ∈ tG := tk5 196 rfl rfl
theorem lkM_Slate_68 : Cond.methodLink "SundayGame$Slate" 68 ⟨"SundayGame$Slate", "flagsAt", "(I)I"⟩ ∈ tG := tk5 197 rfl rfl
theorem lkM_Slate_28 : Cond.methodLink "SundayGame$Slate" 28 ⟨"SundayGame$Slate", "setPlace", "(IIII)V"⟩ ∈ tG := tk4 155 rfl rfl
theorem lkF_History_15 : Cond.fieldLink "SundayGame$History" 15 "SundayGame$History" "codes" "[I" ∈ tG := tk2 60 rfl rfl
theorem lkF_History_9 : Cond.fieldLink "SundayGame$History" 9 "SundayGame$History" "count" "I" ∈ tG := tk2 58 rfl rfl
theorem lkF_History_19 : Cond.fieldLink "SundayGame$History" 19 "SundayGame$History" "before" "[I" ∈ tG := tk2 61 rfl rfl
theorem lkM_History_28 : Cond.methodLink "SundayGame$History" 28 ⟨"SundayGame$Slate", "packedAt", "(I)I"⟩ ∈ tG := tk6 52 rfl rfl
theorem lkM_History_34 : Cond.methodLink "SundayGame$History" 34 ⟨"SundayGame$Slate", "apply", "(I)V"⟩ ∈ tG := tk6 53 rfl rfl
theorem lkM_History_22 : Cond.methodLink "SundayGame$History" 22 ⟨"java/lang/System", "arraycopy", "(Ljava/lang/Object;ILjava/lang/Object;II)V"⟩ ∈ tG := tk6 51 rfl rfl
theorem lkM_History_38 : Cond.methodLink "SundayGame$History" 38 ⟨"SundayGame$Slate", "setPacked", "(II)V"⟩ ∈ tG := tk6 62 rfl rfl
theorem lkM_Slate_24 : Cond.methodLink "SundayGame$Slate" 24 ⟨"SundayGame$Game", "stepOf", "(I)I"⟩ ∈ tG := tk4 151 rfl rfl
theorem lkF_Slate_19 : Cond.fieldLink "SundayGame$Slate" 19 "SundayGame$Game" "rules" "I" ∈ tG := tk1 86 rfl rfl
theorem lkM_Slate_32 : Cond.methodLink "SundayGame$Slate" 32 ⟨"java/lang/System", "arraycopy", "(Ljava/lang/Object;ILjava/lang/Object;II)V"⟩ ∈ tG := tk5 177 rfl rfl
theorem lkM_Slate_49 : Cond.methodLink "SundayGame$Slate" 49 ⟨"SundayGame$Game", "kindOf", "(I)I"⟩ ∈ tG := tk3 10 rfl rfl
theorem lkM_Slate_52 : Cond.methodLink "SundayGame$Slate" 52 ⟨"SundayGame$Slate", "isStruck", "(I)Z"⟩ ∈ tG := tk4 180 rfl rfl
theorem lkM_Slate_55 : Cond.methodLink "SundayGame$Slate" 55 ⟨"SundayGame$Slate", "codeCount", "()I"⟩ ∈ tG := tk6 29 rfl rfl
theorem lkM_Slate_62 : Cond.methodLink "SundayGame$Slate" 62 ⟨"SundayGame$Game", "isEver", "(I)Z"⟩ ∈ tG := tk6 30 rfl rfl
theorem lkM_Slate_65 : Cond.methodLink "SundayGame$Slate" 65 ⟨"SundayGame$Slate", "stepAt", "(I)I"⟩ ∈ tG := tk6 31 rfl rfl
theorem lkF_Tokens_24 : Cond.fieldLink "SundayGame$Tokens" 24 "SundayGame$Tokens" "count" "I" ∈ tG := tk1 212 rfl rfl
theorem lkF_Tokens_15 : Cond.fieldLink "SundayGame$Tokens" 15 "SundayGame$Tokens" "types" "[I" ∈ tG := tk1 209 rfl rfl
theorem lkF_Tokens_18 : Cond.fieldLink "SundayGame$Tokens" 18 "SundayGame$Tokens" "places" "[I" ∈ tG := tk1 210 rfl rfl
theorem lkF_Tokens_21 : Cond.fieldLink "SundayGame$Tokens" 21 "SundayGame$Tokens" "contents" "[I" ∈ tG := tk1 211 rfl rfl
theorem lkM_Tokens_63 : Cond.methodLink "SundayGame$Tokens" 63 ⟨"SundayGame$Tokens", "add", "(III)I"⟩ ∈ tG := tk3 162 rfl rfl
theorem lkF_Tokens_11 : Cond.fieldLink "SundayGame$Tokens" 11 "SundayGame$Tokens" "ownCodes" "[I" ∈ tG := tk1 208 rfl rfl
theorem lkF_Tokens_28 : Cond.fieldLink "SundayGame$Tokens" 28 "SundayGame$Tokens" "next" "I" ∈ tG := tk1 213 rfl rfl
theorem lkF_Tokens_47 : Cond.fieldLink "SundayGame$Tokens" 47 "SundayGame$Bytes" "length" "I" ∈ tG := tk1 42 rfl rfl
theorem lkM_Tokens_51 : Cond.methodLink "SundayGame$Tokens" 51 ⟨"SundayGame$Bytes", "at", "(I)I"⟩ ∈ tG := tk3 151 rfl rfl
theorem lkM_Tokens_66 : Cond.methodLink "SundayGame$Tokens" 66 ⟨"SundayGame$Tokens", "isLetter", "(I)Z"⟩ ∈ tG := tk3 166 rfl rfl
theorem lkM_Tokens_43 : Cond.methodLink "SundayGame$Tokens" 43 ⟨"SundayGame$Tokens", "withLetter", "(III)I"⟩ ∈ tG := tk1 205 rfl rfl
theorem lkM_Tokens_69 : Cond.methodLink "SundayGame$Tokens" 69 ⟨"SundayGame$Tokens", "isDigit", "(I)Z"⟩ ∈ tG := tk3 169 rfl rfl
theorem lkF_Str_38 : Cond.fieldLink "java/lang/String" 38 "java/lang/String" "COMPACT_STRINGS" "Z" ∈ tG := tk1 165 rfl rfl
theorem lkF_Str_15 : Cond.fieldLink "java/lang/String" 15 "java/lang/String" "coder" "B" ∈ tG := tk9 184 rfl rfl
theorem lkF_Str_9 : Cond.fieldLink "java/lang/String" 9 "java/lang/String" "value" "[B" ∈ tG := tk9 183 rfl rfl
theorem lkM_Str_335 : Cond.methodLink "java/lang/String" 335 ⟨"java/lang/String", "coder", "()B"⟩ ∈ tG := tk1 161 rfl rfl
theorem lkM_Lat_88 : Cond.methodLink "java/lang/StringLatin1" 88 ⟨"java/lang/StringLatin1", "canEncode", "(I)Z"⟩ ∈ tG := tk3 193 rfl rfl
theorem lkM_Lat_92 : Cond.methodLink "java/lang/StringLatin1" 92 ⟨"java/lang/Math", "max", "(II)I"⟩ ∈ tG := tk3 196 rfl rfl
theorem lkM_Lat_38 : Cond.methodLink "java/lang/StringLatin1" 38 ⟨"java/lang/Math", "min", "(II)I"⟩ ∈ tG := tk3 197 rfl rfl
theorem lkM_Lat_95 : Cond.methodLink "java/lang/StringLatin1" 95 ⟨"java/lang/StringLatin1", "indexOfChar", "([BIII)I"⟩ ∈ tG := tk3 200 rfl rfl
theorem lkM_Str_492 : Cond.methodLink "java/lang/String" 492 ⟨"java/lang/String", "isLatin1", "()Z"⟩ ∈ tG := tk1 171 rfl rfl
theorem lkM_Str_505 : Cond.methodLink "java/lang/String" 505 ⟨"java/lang/String", "length", "()I"⟩ ∈ tG := tk3 189 rfl rfl
theorem lkM_Str_637 : Cond.methodLink "java/lang/String" 637 ⟨"java/lang/StringLatin1", "indexOf", "([BIII)I"⟩ ∈ tG := tk3 190 rfl rfl
theorem lkM_Str_633 : Cond.methodLink "java/lang/String" 633 ⟨"java/lang/String", "indexOf", "(II)I"⟩ ∈ tG := tk3 185 rfl rfl
theorem lkM_Tokens_81 : Cond.methodLink "SundayGame$Tokens" 81 ⟨"java/lang/String", "indexOf", "(I)I"⟩ ∈ tG := tk3 181 rfl rfl
theorem lkM_Tokens_76 : Cond.methodLink "SundayGame$Tokens" 76 ⟨"SundayGame$Tokens", "cutNumber", "(LSundayGame$Bytes;)I"⟩ ∈ tG := tk3 176 rfl rfl
theorem lkM_Tokens_72 : Cond.methodLink "SundayGame$Tokens" 72 ⟨"SundayGame$Tokens", "cutWord", "(LSundayGame$Bytes;)I"⟩ ∈ tG := tk3 172 rfl rfl
theorem lkM_Tokens_59 : Cond.methodLink "SundayGame$Tokens" 59 ⟨"SundayGame$Tokens", "cutOne", "(LSundayGame$Bytes;Z)I"⟩ ∈ tG := tk3 158 rfl rfl
theorem lkM_Tokens_55 : Cond.methodLink "SundayGame$Tokens" 55 ⟨"SundayGame$Tokens", "isBlank", "(I)Z"⟩ ∈ tG := tk3 155 rfl rfl
theorem lkF_Str_1053 : Cond.fieldLink "java/lang/String" 1053 "jdk/internal/util/Preconditions" "SIOOBE_FORMATTER" "Ljava/util/function/BiFunction;" ∈ tG := tk1 181 rfl rfl
theorem lkM_Str_1059 : Cond.methodLink "java/lang/String" 1059 ⟨"jdk/internal/util/Preconditions", "checkIndex", "(IILjava/util/function/BiFunction;)I"⟩ ∈ tG := tk1 183 rfl rfl
theorem lkM_Lat_9 : Cond.methodLink "java/lang/StringLatin1" 9 ⟨"java/lang/String", "checkIndex", "(II)V"⟩ ∈ tG := tk1 178 rfl rfl
theorem lkM_Str_495 : Cond.methodLink "java/lang/String" 495 ⟨"java/lang/StringLatin1", "charAt", "([BI)C"⟩ ∈ tG := tk1 175 rfl rfl
theorem lkF_Reader_21 : Cond.fieldLink "SundayGame$Reader" 21 "SundayGame$Reader" "tokens" "LSundayGame$Tokens;" ∈ tG := tk1 232 rfl rfl
theorem lkF_Reader_25 : Cond.fieldLink "SundayGame$Reader" 25 "SundayGame$Reader" "cursor" "I" ∈ tG := tk1 233 rfl rfl
theorem lkM_Reader_58 : Cond.methodLink "SundayGame$Reader" 58 ⟨"SundayGame$Tokens", "typeOf", "(I)I"⟩ ∈ tG := tk4 10 rfl rfl
theorem lkM_Reader_62 : Cond.methodLink "SundayGame$Reader" 62 ⟨"SundayGame$Tokens", "last", "()I"⟩ ∈ tG := tk4 18 rfl rfl
theorem lkF_Reader_9 : Cond.fieldLink "SundayGame$Reader" 9 "SundayGame$Reader" "faultKind" "I" ∈ tG := tk1 228 rfl rfl
theorem lkM_Reader_65 : Cond.methodLink "SundayGame$Reader" 65 ⟨"SundayGame$Tokens", "placeOf", "(I)I"⟩ ∈ tG := tk4 26 rfl rfl
theorem lkF_Reader_15 : Cond.fieldLink "SundayGame$Reader" 15 "SundayGame$Reader" "faultPlace" "I" ∈ tG := tk1 230 rfl rfl
theorem lkM_Reader_51 : Cond.methodLink "SundayGame$Reader" 51 ⟨"SundayGame$Reader", "type", "()I"⟩ ∈ tG := tk4 6 rfl rfl
theorem lkM_Reader_71 : Cond.methodLink "SundayGame$Reader" 71 ⟨"SundayGame$Reader", "fail", "(I)V"⟩ ∈ tG := tk4 22 rfl rfl
theorem lkM_Reader_68 : Cond.methodLink "SundayGame$Reader" 68 ⟨"SundayGame$Reader", "step", "()V"⟩ ∈ tG := tk4 14 rfl rfl
theorem lkM_Reader_47 : Cond.methodLink "SundayGame$Reader" 47 ⟨"SundayGame$Reader", "take", "(I)V"⟩ ∈ tG := tk4 2 rfl rfl
theorem lkF_Reader_31 : Cond.fieldLink "SundayGame$Reader" 31 "SundayGame$Reader" "game" "LSundayGame$Game;" ∈ tG := tk1 234 rfl rfl
theorem lkM_Reader_74 : Cond.methodLink "SundayGame$Reader" 74 ⟨"SundayGame$Tokens", "contentOf", "(I)I"⟩ ∈ tG := tk4 34 rfl rfl
theorem lkM_Reader_99 : Cond.methodLink "SundayGame$Reader" 99 ⟨"SundayGame$Game", "pieceNamed", "(I)I"⟩ ∈ tG := tk4 46 rfl rfl
theorem lkF_Reader_28 : Cond.fieldLink "SundayGame$Reader" 28 "SundayGame$Reader" "openBrackets" "I" ∈ tG := tk1 235 rfl rfl
