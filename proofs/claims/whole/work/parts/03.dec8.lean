theorem dqb_0 : okD cX8_init [(0, (.aload_n 0, 1)), (1, (.invokespecial 1, 3)), (4, (.aload_n 0, 1)), (5, (.sipush 300, 3)), (8, (.newarray .int, 2)), (10, (.putfield 7, 3)), (13, (.aload_n 0, 1)), (14, (.sipush 300, 3)), (17, (.newarray .int, 2)), (19, (.putfield 13, 3)), (22, (.aload_n 0, 1)), (23, (.sipush 300, 3)), (26, (.newarray .int, 2)), (28, (.putfield 16, 3)), (31, (.aload_n 0, 1)), (32, (.bipush 120, 2)), (34, (.newarray .int, 2)), (36, (.putfield 19, 3)), (39, (.aload_n 0, 1)), (40, (.bipush 24, 2)), (42, (.newarray .int, 2)), (44, (.putfield 22, 3)), (47, (.aload_n 0, 1)), (48, (.bipush 24, 2)), (50, (.newarray .int, 2)), (52, (.putfield 25, 3)), (55, (.aload_n 0, 1)), (56, (.bipush 24, 2)), (58, (.newarray .int, 2)), (60, (.putfield 28, 3)), (63, (.aload_n 0, 1)), (64, (.bipush 24, 2)), (66, (.newarray .int, 2)), (68, (.putfield 31, 3)), (71, (.aload_n 0, 1)), (72, (.bipush 25, 2)), (74, (.newarray .boolean, 2)), (76, (.putfield 34, 3)), (79, (.aload_n 0, 1)), (80, (.bipush 8, 2))] = true := by decide +kernel
theorem dX8_init_0 : decode cX8_init 0 = .ok (.aload_n 0, 1) := okD_get dqb_0 0 rfl
theorem dX8_init_1 : decode cX8_init 1 = .ok (.invokespecial 1, 3) := okD_get dqb_0 1 rfl
theorem dX8_init_4 : decode cX8_init 4 = .ok (.aload_n 0, 1) := okD_get dqb_0 2 rfl
theorem dX8_init_5 : decode cX8_init 5 = .ok (.sipush 300, 3) := okD_get dqb_0 3 rfl
theorem dX8_init_8 : decode cX8_init 8 = .ok (.newarray .int, 2) := okD_get dqb_0 4 rfl
theorem dX8_init_10 : decode cX8_init 10 = .ok (.putfield 7, 3) := okD_get dqb_0 5 rfl
theorem dX8_init_13 : decode cX8_init 13 = .ok (.aload_n 0, 1) := okD_get dqb_0 6 rfl
theorem dX8_init_14 : decode cX8_init 14 = .ok (.sipush 300, 3) := okD_get dqb_0 7 rfl
theorem dX8_init_17 : decode cX8_init 17 = .ok (.newarray .int, 2) := okD_get dqb_0 8 rfl
theorem dX8_init_19 : decode cX8_init 19 = .ok (.putfield 13, 3) := okD_get dqb_0 9 rfl
theorem dX8_init_22 : decode cX8_init 22 = .ok (.aload_n 0, 1) := okD_get dqb_0 10 rfl
theorem dX8_init_23 : decode cX8_init 23 = .ok (.sipush 300, 3) := okD_get dqb_0 11 rfl
theorem dX8_init_26 : decode cX8_init 26 = .ok (.newarray .int, 2) := okD_get dqb_0 12 rfl
theorem dX8_init_28 : decode cX8_init 28 = .ok (.putfield 16, 3) := okD_get dqb_0 13 rfl
theorem dX8_init_31 : decode cX8_init 31 = .ok (.aload_n 0, 1) := okD_get dqb_0 14 rfl
theorem dX8_init_32 : decode cX8_init 32 = .ok (.bipush 120, 2) := okD_get dqb_0 15 rfl
theorem dX8_init_34 : decode cX8_init 34 = .ok (.newarray .int, 2) := okD_get dqb_0 16 rfl
theorem dX8_init_36 : decode cX8_init 36 = .ok (.putfield 19, 3) := okD_get dqb_0 17 rfl
theorem dX8_init_39 : decode cX8_init 39 = .ok (.aload_n 0, 1) := okD_get dqb_0 18 rfl
theorem dX8_init_40 : decode cX8_init 40 = .ok (.bipush 24, 2) := okD_get dqb_0 19 rfl
theorem dX8_init_42 : decode cX8_init 42 = .ok (.newarray .int, 2) := okD_get dqb_0 20 rfl
theorem dX8_init_44 : decode cX8_init 44 = .ok (.putfield 22, 3) := okD_get dqb_0 21 rfl
theorem dX8_init_47 : decode cX8_init 47 = .ok (.aload_n 0, 1) := okD_get dqb_0 22 rfl
theorem dX8_init_48 : decode cX8_init 48 = .ok (.bipush 24, 2) := okD_get dqb_0 23 rfl
theorem dX8_init_50 : decode cX8_init 50 = .ok (.newarray .int, 2) := okD_get dqb_0 24 rfl
theorem dX8_init_52 : decode cX8_init 52 = .ok (.putfield 25, 3) := okD_get dqb_0 25 rfl
theorem dX8_init_55 : decode cX8_init 55 = .ok (.aload_n 0, 1) := okD_get dqb_0 26 rfl
theorem dX8_init_56 : decode cX8_init 56 = .ok (.bipush 24, 2) := okD_get dqb_0 27 rfl
theorem dX8_init_58 : decode cX8_init 58 = .ok (.newarray .int, 2) := okD_get dqb_0 28 rfl
theorem dX8_init_60 : decode cX8_init 60 = .ok (.putfield 28, 3) := okD_get dqb_0 29 rfl
theorem dX8_init_63 : decode cX8_init 63 = .ok (.aload_n 0, 1) := okD_get dqb_0 30 rfl
theorem dX8_init_64 : decode cX8_init 64 = .ok (.bipush 24, 2) := okD_get dqb_0 31 rfl
theorem dX8_init_66 : decode cX8_init 66 = .ok (.newarray .int, 2) := okD_get dqb_0 32 rfl
theorem dX8_init_68 : decode cX8_init 68 = .ok (.putfield 31, 3) := okD_get dqb_0 33 rfl
theorem dX8_init_71 : decode cX8_init 71 = .ok (.aload_n 0, 1) := okD_get dqb_0 34 rfl
theorem dX8_init_72 : decode cX8_init 72 = .ok (.bipush 25, 2) := okD_get dqb_0 35 rfl
theorem dX8_init_74 : decode cX8_init 74 = .ok (.newarray .boolean, 2) := okD_get dqb_0 36 rfl
theorem dX8_init_76 : decode cX8_init 76 = .ok (.putfield 34, 3) := okD_get dqb_0 37 rfl
theorem dX8_init_79 : decode cX8_init 79 = .ok (.aload_n 0, 1) := okD_get dqb_0 38 rfl
theorem dX8_init_80 : decode cX8_init 80 = .ok (.bipush 8, 2) := okD_get dqb_0 39 rfl
theorem dqb_1 : okD cX8_init [(82, (.newarray .int, 2)), (84, (.putfield 38, 3)), (87, (.aload_n 0, 1)), (88, (.bipush 8, 2)), (90, (.newarray .int, 2)), (92, (.putfield 41, 3)), (95, (.aload_n 0, 1)), (96, (.bipush 20, 2)), (98, (.newarray .int, 2)), (100, (.putfield 44, 3)), (103, (.aload_n 0, 1)), (104, (.bipush 20, 2)), (106, (.newarray .int, 2)), (108, (.putfield 47, 3)), (111, (.aload_n 0, 1)), (112, (.bipush 20, 2)), (114, (.newarray .int, 2)), (116, (.putfield 50, 3)), (119, (.aload_n 0, 1)), (120, (.bipush 20, 2)), (122, (.newarray .int, 2)), (124, (.putfield 53, 3)), (127, (.aload_n 0, 1)), (128, (.bipush 80, 2)), (130, (.newarray .int, 2)), (132, (.putfield 56, 3)), (135, (.aload_n 0, 1)), (136, (.sipush 200, 3)), (139, (.newarray .int, 2)), (141, (.putfield 59, 3)), (144, (.aload_n 0, 1)), (145, (.iconst (-1), 1)), (146, (.putfield 62, 3)), (149, (.aload_n 0, 1)), (150, (.sipush 200, 3)), (153, (.newarray .int, 2)), (155, (.putfield 66, 3)), (158, (.aload_n 0, 1)), (159, (.sipush 200, 3)), (162, (.newarray .int, 2))] = true := by decide +kernel
theorem dX8_init_82 : decode cX8_init 82 = .ok (.newarray .int, 2) := okD_get dqb_1 0 rfl
theorem dX8_init_84 : decode cX8_init 84 = .ok (.putfield 38, 3) := okD_get dqb_1 1 rfl
theorem dX8_init_87 : decode cX8_init 87 = .ok (.aload_n 0, 1) := okD_get dqb_1 2 rfl
theorem dX8_init_88 : decode cX8_init 88 = .ok (.bipush 8, 2) := okD_get dqb_1 3 rfl
theorem dX8_init_90 : decode cX8_init 90 = .ok (.newarray .int, 2) := okD_get dqb_1 4 rfl
theorem dX8_init_92 : decode cX8_init 92 = .ok (.putfield 41, 3) := okD_get dqb_1 5 rfl
theorem dX8_init_95 : decode cX8_init 95 = .ok (.aload_n 0, 1) := okD_get dqb_1 6 rfl
theorem dX8_init_96 : decode cX8_init 96 = .ok (.bipush 20, 2) := okD_get dqb_1 7 rfl
theorem dX8_init_98 : decode cX8_init 98 = .ok (.newarray .int, 2) := okD_get dqb_1 8 rfl
theorem dX8_init_100 : decode cX8_init 100 = .ok (.putfield 44, 3) := okD_get dqb_1 9 rfl
theorem dX8_init_103 : decode cX8_init 103 = .ok (.aload_n 0, 1) := okD_get dqb_1 10 rfl
theorem dX8_init_104 : decode cX8_init 104 = .ok (.bipush 20, 2) := okD_get dqb_1 11 rfl
theorem dX8_init_106 : decode cX8_init 106 = .ok (.newarray .int, 2) := okD_get dqb_1 12 rfl
theorem dX8_init_108 : decode cX8_init 108 = .ok (.putfield 47, 3) := okD_get dqb_1 13 rfl
theorem dX8_init_111 : decode cX8_init 111 = .ok (.aload_n 0, 1) := okD_get dqb_1 14 rfl
theorem dX8_init_112 : decode cX8_init 112 = .ok (.bipush 20, 2) := okD_get dqb_1 15 rfl
theorem dX8_init_114 : decode cX8_init 114 = .ok (.newarray .int, 2) := okD_get dqb_1 16 rfl
theorem dX8_init_116 : decode cX8_init 116 = .ok (.putfield 50, 3) := okD_get dqb_1 17 rfl
theorem dX8_init_119 : decode cX8_init 119 = .ok (.aload_n 0, 1) := okD_get dqb_1 18 rfl
theorem dX8_init_120 : decode cX8_init 120 = .ok (.bipush 20, 2) := okD_get dqb_1 19 rfl
theorem dX8_init_122 : decode cX8_init 122 = .ok (.newarray .int, 2) := okD_get dqb_1 20 rfl
theorem dX8_init_124 : decode cX8_init 124 = .ok (.putfield 53, 3) := okD_get dqb_1 21 rfl
theorem dX8_init_127 : decode cX8_init 127 = .ok (.aload_n 0, 1) := okD_get dqb_1 22 rfl
theorem dX8_init_128 : decode cX8_init 128 = .ok (.bipush 80, 2) := okD_get dqb_1 23 rfl
theorem dX8_init_130 : decode cX8_init 130 = .ok (.newarray .int, 2) := okD_get dqb_1 24 rfl
theorem dX8_init_132 : decode cX8_init 132 = .ok (.putfield 56, 3) := okD_get dqb_1 25 rfl
theorem dX8_init_135 : decode cX8_init 135 = .ok (.aload_n 0, 1) := okD_get dqb_1 26 rfl
theorem dX8_init_136 : decode cX8_init 136 = .ok (.sipush 200, 3) := okD_get dqb_1 27 rfl
theorem dX8_init_139 : decode cX8_init 139 = .ok (.newarray .int, 2) := okD_get dqb_1 28 rfl
theorem dX8_init_141 : decode cX8_init 141 = .ok (.putfield 59, 3) := okD_get dqb_1 29 rfl
theorem dX8_init_144 : decode cX8_init 144 = .ok (.aload_n 0, 1) := okD_get dqb_1 30 rfl
theorem dX8_init_145 : decode cX8_init 145 = .ok (.iconst (-1), 1) := okD_get dqb_1 31 rfl
theorem dX8_init_146 : decode cX8_init 146 = .ok (.putfield 62, 3) := okD_get dqb_1 32 rfl
theorem dX8_init_149 : decode cX8_init 149 = .ok (.aload_n 0, 1) := okD_get dqb_1 33 rfl
theorem dX8_init_150 : decode cX8_init 150 = .ok (.sipush 200, 3) := okD_get dqb_1 34 rfl
theorem dX8_init_153 : decode cX8_init 153 = .ok (.newarray .int, 2) := okD_get dqb_1 35 rfl
theorem dX8_init_155 : decode cX8_init 155 = .ok (.putfield 66, 3) := okD_get dqb_1 36 rfl
theorem dX8_init_158 : decode cX8_init 158 = .ok (.aload_n 0, 1) := okD_get dqb_1 37 rfl
theorem dX8_init_159 : decode cX8_init 159 = .ok (.sipush 200, 3) := okD_get dqb_1 38 rfl
theorem dX8_init_162 : decode cX8_init 162 = .ok (.newarray .int, 2) := okD_get dqb_1 39 rfl
theorem dqb_2 : okD cX8_init [(164, (.putfield 69, 3)), (167, (.aload_n 0, 1)), (168, (.sipush 200, 3)), (171, (.newarray .int, 2)), (173, (.putfield 72, 3)), (176, (.aload_n 0, 1)), (177, (.sipush 200, 3)), (180, (.newarray .int, 2)), (182, (.putfield 75, 3)), (185, (.return_, 1))] = true := by decide +kernel
theorem dX8_init_164 : decode cX8_init 164 = .ok (.putfield 69, 3) := okD_get dqb_2 0 rfl
theorem dX8_init_167 : decode cX8_init 167 = .ok (.aload_n 0, 1) := okD_get dqb_2 1 rfl
theorem dX8_init_168 : decode cX8_init 168 = .ok (.sipush 200, 3) := okD_get dqb_2 2 rfl
theorem dX8_init_171 : decode cX8_init 171 = .ok (.newarray .int, 2) := okD_get dqb_2 3 rfl
theorem dX8_init_173 : decode cX8_init 173 = .ok (.putfield 72, 3) := okD_get dqb_2 4 rfl
theorem dX8_init_176 : decode cX8_init 176 = .ok (.aload_n 0, 1) := okD_get dqb_2 5 rfl
theorem dX8_init_177 : decode cX8_init 177 = .ok (.sipush 200, 3) := okD_get dqb_2 6 rfl
theorem dX8_init_180 : decode cX8_init 180 = .ok (.newarray .int, 2) := okD_get dqb_2 7 rfl
theorem dX8_init_182 : decode cX8_init 182 = .ok (.putfield 75, 3) := okD_get dqb_2 8 rfl
theorem dX8_init_185 : decode cX8_init 185 = .ok (.return_, 1) := okD_get dqb_2 9 rfl
theorem dqb_3 : okD cX8_in [(0, (.lload_n 0, 1)), (1, (.lload_n 2, 1)), (2, (.lcmp, 1)), (3, (.ifCond .lt 14, 3)), (6, (.lload_n 0, 1)), (7, (.lload 4, 2)), (9, (.lcmp, 1)), (10, (.ifCond .gt 7, 3)), (13, (.iconst 1, 1)), (14, (.goto 4, 3)), (17, (.iconst 0, 1)), (18, (.ireturn, 1))] = true := by decide +kernel
theorem dX8_in_0 : decode cX8_in 0 = .ok (.lload_n 0, 1) := okD_get dqb_3 0 rfl
theorem dX8_in_1 : decode cX8_in 1 = .ok (.lload_n 2, 1) := okD_get dqb_3 1 rfl
theorem dX8_in_2 : decode cX8_in 2 = .ok (.lcmp, 1) := okD_get dqb_3 2 rfl
theorem dX8_in_3 : decode cX8_in 3 = .ok (.ifCond .lt 14, 3) := okD_get dqb_3 3 rfl
theorem dX8_in_6 : decode cX8_in 6 = .ok (.lload_n 0, 1) := okD_get dqb_3 4 rfl
theorem dX8_in_7 : decode cX8_in 7 = .ok (.lload 4, 2) := okD_get dqb_3 5 rfl
theorem dX8_in_9 : decode cX8_in 9 = .ok (.lcmp, 1) := okD_get dqb_3 6 rfl
theorem dX8_in_10 : decode cX8_in 10 = .ok (.ifCond .gt 7, 3) := okD_get dqb_3 7 rfl
theorem dX8_in_13 : decode cX8_in 13 = .ok (.iconst 1, 1) := okD_get dqb_3 8 rfl
theorem dX8_in_14 : decode cX8_in 14 = .ok (.goto 4, 3) := okD_get dqb_3 9 rfl
theorem dX8_in_17 : decode cX8_in 17 = .ok (.iconst 0, 1) := okD_get dqb_3 10 rfl
theorem dX8_in_18 : decode cX8_in 18 = .ok (.ireturn, 1) := okD_get dqb_3 11 rfl
theorem dqb_4 : okD cX8_told [(0, (.aload_n 0, 1)), (1, (.iload_n 1, 1)), (2, (.ifCond .ge 7, 3)), (5, (.iload_n 1, 1)), (6, (.goto 4, 3)), (9, (.iconst 0, 1)), (10, (.putfield 81, 3)), (13, (.iload_n 1, 1)), (14, (.ireturn, 1))] = true := by decide +kernel
theorem dX8_told_0 : decode cX8_told 0 = .ok (.aload_n 0, 1) := okD_get dqb_4 0 rfl
theorem dX8_told_1 : decode cX8_told 1 = .ok (.iload_n 1, 1) := okD_get dqb_4 1 rfl
theorem dX8_told_2 : decode cX8_told 2 = .ok (.ifCond .ge 7, 3) := okD_get dqb_4 2 rfl
theorem dX8_told_5 : decode cX8_told 5 = .ok (.iload_n 1, 1) := okD_get dqb_4 3 rfl
theorem dX8_told_6 : decode cX8_told 6 = .ok (.goto 4, 3) := okD_get dqb_4 4 rfl
theorem dX8_told_9 : decode cX8_told 9 = .ok (.iconst 0, 1) := okD_get dqb_4 5 rfl
theorem dX8_told_10 : decode cX8_told 10 = .ok (.putfield 81, 3) := okD_get dqb_4 6 rfl
theorem dX8_told_13 : decode cX8_told 13 = .ok (.iload_n 1, 1) := okD_get dqb_4 7 rfl
theorem dX8_told_14 : decode cX8_told 14 = .ok (.ireturn, 1) := okD_get dqb_4 8 rfl
theorem dqb_5 : okD cX8_isDay [(0, (.iload_n 0, 1)), (1, (.i2l, 1)), (2, (.lconst 0, 1)), (3, (.ldc2_w 84, 3)), (6, (.invokestatic 86, 3)), (9, (.ireturn, 1))] = true := by decide +kernel
theorem dX8_isDay_0 : decode cX8_isDay 0 = .ok (.iload_n 0, 1) := okD_get dqb_5 0 rfl
theorem dX8_isDay_1 : decode cX8_isDay 1 = .ok (.i2l, 1) := okD_get dqb_5 1 rfl
theorem dX8_isDay_2 : decode cX8_isDay 2 = .ok (.lconst 0, 1) := okD_get dqb_5 2 rfl
theorem dX8_isDay_3 : decode cX8_isDay 3 = .ok (.ldc2_w 84, 3) := okD_get dqb_5 3 rfl
theorem dX8_isDay_6 : decode cX8_isDay 6 = .ok (.invokestatic 86, 3) := okD_get dqb_5 4 rfl
theorem dX8_isDay_9 : decode cX8_isDay 9 = .ok (.ireturn, 1) := okD_get dqb_5 5 rfl
theorem dqb_6 : okD cX8_isKnown [(0, (.iload_n 0, 1)), (1, (.i2l, 1)), (2, (.lconst 0, 1)), (3, (.ldc2_w 90, 3)), (6, (.invokestatic 86, 3)), (9, (.ireturn, 1))] = true := by decide +kernel
theorem dX8_isKnown_0 : decode cX8_isKnown 0 = .ok (.iload_n 0, 1) := okD_get dqb_6 0 rfl
theorem dX8_isKnown_1 : decode cX8_isKnown 1 = .ok (.i2l, 1) := okD_get dqb_6 1 rfl
theorem dX8_isKnown_2 : decode cX8_isKnown 2 = .ok (.lconst 0, 1) := okD_get dqb_6 2 rfl
theorem dX8_isKnown_3 : decode cX8_isKnown 3 = .ok (.ldc2_w 90, 3) := okD_get dqb_6 3 rfl
theorem dX8_isKnown_6 : decode cX8_isKnown 6 = .ok (.invokestatic 86, 3) := okD_get dqb_6 4 rfl
theorem dX8_isKnown_9 : decode cX8_isKnown 9 = .ok (.ireturn, 1) := okD_get dqb_6 5 rfl
theorem dqb_7 : okD cX8_read [(0, (.aload_n 0, 1)), (1, (.iconst 0, 1)), (2, (.putfield 78, 3)), (5, (.iload_n 1, 1)), (6, (.invokestatic 92, 3)), (9, (.ifCond .eq 22, 3)), (12, (.iload_n 2, 1)), (13, (.i2l, 1)), (14, (.lconst 0, 1)), (15, (.ldc2_w 96, 3)), (18, (.invokestatic 86, 3)), (21, (.ifCond .eq 10, 3)), (24, (.iload_n 3, 1)), (25, (.invokestatic 98, 3)), (28, (.ifCond .ne 9, 3)), (31, (.aload_n 0, 1)), (32, (.iconst (-1), 1)), (33, (.invokevirtual 101, 3)), (36, (.ireturn, 1)), (37, (.aload_n 0, 1)), (38, (.getfield 105, 3)), (41, (.sipush 300, 3)), (44, (.if_icmp .ne 10, 3)), (47, (.aload_n 0, 1)), (48, (.bipush (-5), 2)), (50, (.invokevirtual 101, 3)), (53, (.ireturn, 1)), (54, (.aload_n 0, 1)), (55, (.getfield 7, 3)), (58, (.aload_n 0, 1)), (59, (.getfield 105, 3)), (62, (.iload_n 1, 1)), (63, (.iastore, 1)), (64, (.aload_n 0, 1)), (65, (.getfield 13, 3)), (68, (.aload_n 0, 1)), (69, (.getfield 105, 3)), (72, (.iload_n 2, 1)), (73, (.iastore, 1)), (74, (.aload_n 0, 1))] = true := by decide +kernel
theorem dX8_read_0 : decode cX8_read 0 = .ok (.aload_n 0, 1) := okD_get dqb_7 0 rfl
theorem dX8_read_1 : decode cX8_read 1 = .ok (.iconst 0, 1) := okD_get dqb_7 1 rfl
theorem dX8_read_2 : decode cX8_read 2 = .ok (.putfield 78, 3) := okD_get dqb_7 2 rfl
theorem dX8_read_5 : decode cX8_read 5 = .ok (.iload_n 1, 1) := okD_get dqb_7 3 rfl
theorem dX8_read_6 : decode cX8_read 6 = .ok (.invokestatic 92, 3) := okD_get dqb_7 4 rfl
theorem dX8_read_9 : decode cX8_read 9 = .ok (.ifCond .eq 22, 3) := okD_get dqb_7 5 rfl
theorem dX8_read_12 : decode cX8_read 12 = .ok (.iload_n 2, 1) := okD_get dqb_7 6 rfl
theorem dX8_read_13 : decode cX8_read 13 = .ok (.i2l, 1) := okD_get dqb_7 7 rfl
theorem dX8_read_14 : decode cX8_read 14 = .ok (.lconst 0, 1) := okD_get dqb_7 8 rfl
theorem dX8_read_15 : decode cX8_read 15 = .ok (.ldc2_w 96, 3) := okD_get dqb_7 9 rfl
theorem dX8_read_18 : decode cX8_read 18 = .ok (.invokestatic 86, 3) := okD_get dqb_7 10 rfl
theorem dX8_read_21 : decode cX8_read 21 = .ok (.ifCond .eq 10, 3) := okD_get dqb_7 11 rfl
theorem dX8_read_24 : decode cX8_read 24 = .ok (.iload_n 3, 1) := okD_get dqb_7 12 rfl
theorem dX8_read_25 : decode cX8_read 25 = .ok (.invokestatic 98, 3) := okD_get dqb_7 13 rfl
theorem dX8_read_28 : decode cX8_read 28 = .ok (.ifCond .ne 9, 3) := okD_get dqb_7 14 rfl
theorem dX8_read_31 : decode cX8_read 31 = .ok (.aload_n 0, 1) := okD_get dqb_7 15 rfl
theorem dX8_read_32 : decode cX8_read 32 = .ok (.iconst (-1), 1) := okD_get dqb_7 16 rfl
theorem dX8_read_33 : decode cX8_read 33 = .ok (.invokevirtual 101, 3) := okD_get dqb_7 17 rfl
theorem dX8_read_36 : decode cX8_read 36 = .ok (.ireturn, 1) := okD_get dqb_7 18 rfl
theorem dX8_read_37 : decode cX8_read 37 = .ok (.aload_n 0, 1) := okD_get dqb_7 19 rfl
theorem dX8_read_38 : decode cX8_read 38 = .ok (.getfield 105, 3) := okD_get dqb_7 20 rfl
theorem dX8_read_41 : decode cX8_read 41 = .ok (.sipush 300, 3) := okD_get dqb_7 21 rfl
theorem dX8_read_44 : decode cX8_read 44 = .ok (.if_icmp .ne 10, 3) := okD_get dqb_7 22 rfl
theorem dX8_read_47 : decode cX8_read 47 = .ok (.aload_n 0, 1) := okD_get dqb_7 23 rfl
theorem dX8_read_48 : decode cX8_read 48 = .ok (.bipush (-5), 2) := okD_get dqb_7 24 rfl
theorem dX8_read_50 : decode cX8_read 50 = .ok (.invokevirtual 101, 3) := okD_get dqb_7 25 rfl
theorem dX8_read_53 : decode cX8_read 53 = .ok (.ireturn, 1) := okD_get dqb_7 26 rfl
theorem dX8_read_54 : decode cX8_read 54 = .ok (.aload_n 0, 1) := okD_get dqb_7 27 rfl
theorem dX8_read_55 : decode cX8_read 55 = .ok (.getfield 7, 3) := okD_get dqb_7 28 rfl
theorem dX8_read_58 : decode cX8_read 58 = .ok (.aload_n 0, 1) := okD_get dqb_7 29 rfl
theorem dX8_read_59 : decode cX8_read 59 = .ok (.getfield 105, 3) := okD_get dqb_7 30 rfl
theorem dX8_read_62 : decode cX8_read 62 = .ok (.iload_n 1, 1) := okD_get dqb_7 31 rfl
theorem dX8_read_63 : decode cX8_read 63 = .ok (.iastore, 1) := okD_get dqb_7 32 rfl
theorem dX8_read_64 : decode cX8_read 64 = .ok (.aload_n 0, 1) := okD_get dqb_7 33 rfl
theorem dX8_read_65 : decode cX8_read 65 = .ok (.getfield 13, 3) := okD_get dqb_7 34 rfl
theorem dX8_read_68 : decode cX8_read 68 = .ok (.aload_n 0, 1) := okD_get dqb_7 35 rfl
theorem dX8_read_69 : decode cX8_read 69 = .ok (.getfield 105, 3) := okD_get dqb_7 36 rfl
theorem dX8_read_72 : decode cX8_read 72 = .ok (.iload_n 2, 1) := okD_get dqb_7 37 rfl
theorem dX8_read_73 : decode cX8_read 73 = .ok (.iastore, 1) := okD_get dqb_7 38 rfl
theorem dX8_read_74 : decode cX8_read 74 = .ok (.aload_n 0, 1) := okD_get dqb_7 39 rfl
theorem dqb_8 : okD cX8_read [(75, (.getfield 16, 3)), (78, (.aload_n 0, 1)), (79, (.getfield 105, 3)), (82, (.iload_n 3, 1)), (83, (.iastore, 1)), (84, (.aload_n 0, 1)), (85, (.dup, 1)), (86, (.getfield 105, 3)), (89, (.iconst 1, 1)), (90, (.iadd, 1)), (91, (.putfield 105, 3)), (94, (.aload_n 0, 1)), (95, (.aload_n 0, 1)), (96, (.getfield 105, 3)), (99, (.invokevirtual 101, 3)), (102, (.ireturn, 1))] = true := by decide +kernel
theorem dX8_read_75 : decode cX8_read 75 = .ok (.getfield 16, 3) := okD_get dqb_8 0 rfl
theorem dX8_read_78 : decode cX8_read 78 = .ok (.aload_n 0, 1) := okD_get dqb_8 1 rfl
theorem dX8_read_79 : decode cX8_read 79 = .ok (.getfield 105, 3) := okD_get dqb_8 2 rfl
theorem dX8_read_82 : decode cX8_read 82 = .ok (.iload_n 3, 1) := okD_get dqb_8 3 rfl
theorem dX8_read_83 : decode cX8_read 83 = .ok (.iastore, 1) := okD_get dqb_8 4 rfl
theorem dX8_read_84 : decode cX8_read 84 = .ok (.aload_n 0, 1) := okD_get dqb_8 5 rfl
theorem dX8_read_85 : decode cX8_read 85 = .ok (.dup, 1) := okD_get dqb_8 6 rfl
theorem dX8_read_86 : decode cX8_read 86 = .ok (.getfield 105, 3) := okD_get dqb_8 7 rfl
theorem dX8_read_89 : decode cX8_read 89 = .ok (.iconst 1, 1) := okD_get dqb_8 8 rfl
theorem dX8_read_90 : decode cX8_read 90 = .ok (.iadd, 1) := okD_get dqb_8 9 rfl
theorem dX8_read_91 : decode cX8_read 91 = .ok (.putfield 105, 3) := okD_get dqb_8 10 rfl
theorem dX8_read_94 : decode cX8_read 94 = .ok (.aload_n 0, 1) := okD_get dqb_8 11 rfl
theorem dX8_read_95 : decode cX8_read 95 = .ok (.aload_n 0, 1) := okD_get dqb_8 12 rfl
theorem dX8_read_96 : decode cX8_read 96 = .ok (.getfield 105, 3) := okD_get dqb_8 13 rfl
theorem dX8_read_99 : decode cX8_read 99 = .ok (.invokevirtual 101, 3) := okD_get dqb_8 14 rfl
theorem dX8_read_102 : decode cX8_read 102 = .ok (.ireturn, 1) := okD_get dqb_8 15 rfl
theorem dqb_9 : okD cX8_find [(0, (.iconst 0, 1)), (1, (.istore_n 3, 1)), (2, (.iload_n 3, 1)), (3, (.bipush 120, 2)), (5, (.if_icmp .ge 16, 3)), (8, (.aload_n 0, 1)), (9, (.getfield 19, 3)), (12, (.iload_n 3, 1)), (13, (.iconst (-1), 1)), (14, (.iastore, 1)), (15, (.iinc 3 1, 3)), (18, (.goto (-16), 3)), (21, (.iconst 0, 1)), (22, (.istore_n 3, 1)), (23, (.iload_n 3, 1)), (24, (.aload_n 0, 1)), (25, (.getfield 105, 3)), (28, (.if_icmp .ge 46, 3)), (31, (.aload_n 0, 1)), (32, (.getfield 16, 3)), (35, (.iload_n 3, 1)), (36, (.iaload, 1)), (37, (.iload_n 1, 1)), (38, (.if_icmp .gt 30, 3)), (41, (.aload_n 0, 1)), (42, (.getfield 7, 3)), (45, (.iload_n 3, 1)), (46, (.iaload, 1)), (47, (.iload_n 2, 1)), (48, (.if_icmp .gt 20, 3)), (51, (.aload_n 0, 1)), (52, (.getfield 19, 3)), (55, (.aload_n 0, 1)), (56, (.getfield 7, 3)), (59, (.iload_n 3, 1)), (60, (.iaload, 1)), (61, (.aload_n 0, 1)), (62, (.getfield 13, 3)), (65, (.iload_n 3, 1)), (66, (.iaload, 1))] = true := by decide +kernel
theorem dX8_find_0 : decode cX8_find 0 = .ok (.iconst 0, 1) := okD_get dqb_9 0 rfl
theorem dX8_find_1 : decode cX8_find 1 = .ok (.istore_n 3, 1) := okD_get dqb_9 1 rfl
theorem dX8_find_2 : decode cX8_find 2 = .ok (.iload_n 3, 1) := okD_get dqb_9 2 rfl
theorem dX8_find_3 : decode cX8_find 3 = .ok (.bipush 120, 2) := okD_get dqb_9 3 rfl
theorem dX8_find_5 : decode cX8_find 5 = .ok (.if_icmp .ge 16, 3) := okD_get dqb_9 4 rfl
theorem dX8_find_8 : decode cX8_find 8 = .ok (.aload_n 0, 1) := okD_get dqb_9 5 rfl
theorem dX8_find_9 : decode cX8_find 9 = .ok (.getfield 19, 3) := okD_get dqb_9 6 rfl
theorem dX8_find_12 : decode cX8_find 12 = .ok (.iload_n 3, 1) := okD_get dqb_9 7 rfl
theorem dX8_find_13 : decode cX8_find 13 = .ok (.iconst (-1), 1) := okD_get dqb_9 8 rfl
theorem dX8_find_14 : decode cX8_find 14 = .ok (.iastore, 1) := okD_get dqb_9 9 rfl
theorem dX8_find_15 : decode cX8_find 15 = .ok (.iinc 3 1, 3) := okD_get dqb_9 10 rfl
theorem dX8_find_18 : decode cX8_find 18 = .ok (.goto (-16), 3) := okD_get dqb_9 11 rfl
theorem dX8_find_21 : decode cX8_find 21 = .ok (.iconst 0, 1) := okD_get dqb_9 12 rfl
theorem dX8_find_22 : decode cX8_find 22 = .ok (.istore_n 3, 1) := okD_get dqb_9 13 rfl
theorem dX8_find_23 : decode cX8_find 23 = .ok (.iload_n 3, 1) := okD_get dqb_9 14 rfl
theorem dX8_find_24 : decode cX8_find 24 = .ok (.aload_n 0, 1) := okD_get dqb_9 15 rfl
theorem dX8_find_25 : decode cX8_find 25 = .ok (.getfield 105, 3) := okD_get dqb_9 16 rfl
theorem dX8_find_28 : decode cX8_find 28 = .ok (.if_icmp .ge 46, 3) := okD_get dqb_9 17 rfl
theorem dX8_find_31 : decode cX8_find 31 = .ok (.aload_n 0, 1) := okD_get dqb_9 18 rfl
theorem dX8_find_32 : decode cX8_find 32 = .ok (.getfield 16, 3) := okD_get dqb_9 19 rfl
theorem dX8_find_35 : decode cX8_find 35 = .ok (.iload_n 3, 1) := okD_get dqb_9 20 rfl
theorem dX8_find_36 : decode cX8_find 36 = .ok (.iaload, 1) := okD_get dqb_9 21 rfl
theorem dX8_find_37 : decode cX8_find 37 = .ok (.iload_n 1, 1) := okD_get dqb_9 22 rfl
theorem dX8_find_38 : decode cX8_find 38 = .ok (.if_icmp .gt 30, 3) := okD_get dqb_9 23 rfl
theorem dX8_find_41 : decode cX8_find 41 = .ok (.aload_n 0, 1) := okD_get dqb_9 24 rfl
theorem dX8_find_42 : decode cX8_find 42 = .ok (.getfield 7, 3) := okD_get dqb_9 25 rfl
theorem dX8_find_45 : decode cX8_find 45 = .ok (.iload_n 3, 1) := okD_get dqb_9 26 rfl
theorem dX8_find_46 : decode cX8_find 46 = .ok (.iaload, 1) := okD_get dqb_9 27 rfl
theorem dX8_find_47 : decode cX8_find 47 = .ok (.iload_n 2, 1) := okD_get dqb_9 28 rfl
theorem dX8_find_48 : decode cX8_find 48 = .ok (.if_icmp .gt 20, 3) := okD_get dqb_9 29 rfl
theorem dX8_find_51 : decode cX8_find 51 = .ok (.aload_n 0, 1) := okD_get dqb_9 30 rfl
theorem dX8_find_52 : decode cX8_find 52 = .ok (.getfield 19, 3) := okD_get dqb_9 31 rfl
theorem dX8_find_55 : decode cX8_find 55 = .ok (.aload_n 0, 1) := okD_get dqb_9 32 rfl
theorem dX8_find_56 : decode cX8_find 56 = .ok (.getfield 7, 3) := okD_get dqb_9 33 rfl
theorem dX8_find_59 : decode cX8_find 59 = .ok (.iload_n 3, 1) := okD_get dqb_9 34 rfl
theorem dX8_find_60 : decode cX8_find 60 = .ok (.iaload, 1) := okD_get dqb_9 35 rfl
theorem dX8_find_61 : decode cX8_find 61 = .ok (.aload_n 0, 1) := okD_get dqb_9 36 rfl
theorem dX8_find_62 : decode cX8_find 62 = .ok (.getfield 13, 3) := okD_get dqb_9 37 rfl
theorem dX8_find_65 : decode cX8_find 65 = .ok (.iload_n 3, 1) := okD_get dqb_9 38 rfl
theorem dX8_find_66 : decode cX8_find 66 = .ok (.iaload, 1) := okD_get dqb_9 39 rfl
theorem dqb_10 : okD cX8_find [(67, (.iastore, 1)), (68, (.iinc 3 1, 3)), (71, (.goto (-48), 3)), (74, (.iconst 0, 1)), (75, (.istore_n 3, 1)), (76, (.iconst 0, 1)), (77, (.istore 4, 2)), (79, (.iload 4, 2)), (81, (.bipush 120, 2)), (83, (.if_icmp .ge 45, 3)), (86, (.aload_n 0, 1)), (87, (.getfield 19, 3)), (90, (.iload 4, 2)), (92, (.aload_n 0, 1)), (93, (.getfield 19, 3)), (96, (.iload 4, 2)), (98, (.iaload, 1)), (99, (.ifCond .ge 7, 3)), (102, (.iload_n 3, 1)), (103, (.goto 10, 3)), (106, (.aload_n 0, 1)), (107, (.getfield 19, 3)), (110, (.iload 4, 2)), (112, (.iaload, 1)), (113, (.iastore, 1)), (114, (.aload_n 0, 1)), (115, (.getfield 19, 3)), (118, (.iload 4, 2)), (120, (.iaload, 1)), (121, (.istore_n 3, 1)), (122, (.iinc 4 1, 3)), (125, (.goto (-46), 3)), (128, (.return_, 1))] = true := by decide +kernel
theorem dX8_find_67 : decode cX8_find 67 = .ok (.iastore, 1) := okD_get dqb_10 0 rfl
theorem dX8_find_68 : decode cX8_find 68 = .ok (.iinc 3 1, 3) := okD_get dqb_10 1 rfl
theorem dX8_find_71 : decode cX8_find 71 = .ok (.goto (-48), 3) := okD_get dqb_10 2 rfl
theorem dX8_find_74 : decode cX8_find 74 = .ok (.iconst 0, 1) := okD_get dqb_10 3 rfl
theorem dX8_find_75 : decode cX8_find 75 = .ok (.istore_n 3, 1) := okD_get dqb_10 4 rfl
theorem dX8_find_76 : decode cX8_find 76 = .ok (.iconst 0, 1) := okD_get dqb_10 5 rfl
theorem dX8_find_77 : decode cX8_find 77 = .ok (.istore 4, 2) := okD_get dqb_10 6 rfl
theorem dX8_find_79 : decode cX8_find 79 = .ok (.iload 4, 2) := okD_get dqb_10 7 rfl
theorem dX8_find_81 : decode cX8_find 81 = .ok (.bipush 120, 2) := okD_get dqb_10 8 rfl
theorem dX8_find_83 : decode cX8_find 83 = .ok (.if_icmp .ge 45, 3) := okD_get dqb_10 9 rfl
theorem dX8_find_86 : decode cX8_find 86 = .ok (.aload_n 0, 1) := okD_get dqb_10 10 rfl
theorem dX8_find_87 : decode cX8_find 87 = .ok (.getfield 19, 3) := okD_get dqb_10 11 rfl
theorem dX8_find_90 : decode cX8_find 90 = .ok (.iload 4, 2) := okD_get dqb_10 12 rfl
theorem dX8_find_92 : decode cX8_find 92 = .ok (.aload_n 0, 1) := okD_get dqb_10 13 rfl
theorem dX8_find_93 : decode cX8_find 93 = .ok (.getfield 19, 3) := okD_get dqb_10 14 rfl
theorem dX8_find_96 : decode cX8_find 96 = .ok (.iload 4, 2) := okD_get dqb_10 15 rfl
theorem dX8_find_98 : decode cX8_find 98 = .ok (.iaload, 1) := okD_get dqb_10 16 rfl
theorem dX8_find_99 : decode cX8_find 99 = .ok (.ifCond .ge 7, 3) := okD_get dqb_10 17 rfl
theorem dX8_find_102 : decode cX8_find 102 = .ok (.iload_n 3, 1) := okD_get dqb_10 18 rfl
theorem dX8_find_103 : decode cX8_find 103 = .ok (.goto 10, 3) := okD_get dqb_10 19 rfl
theorem dX8_find_106 : decode cX8_find 106 = .ok (.aload_n 0, 1) := okD_get dqb_10 20 rfl
theorem dX8_find_107 : decode cX8_find 107 = .ok (.getfield 19, 3) := okD_get dqb_10 21 rfl
theorem dX8_find_110 : decode cX8_find 110 = .ok (.iload 4, 2) := okD_get dqb_10 22 rfl
theorem dX8_find_112 : decode cX8_find 112 = .ok (.iaload, 1) := okD_get dqb_10 23 rfl
theorem dX8_find_113 : decode cX8_find 113 = .ok (.iastore, 1) := okD_get dqb_10 24 rfl
theorem dX8_find_114 : decode cX8_find 114 = .ok (.aload_n 0, 1) := okD_get dqb_10 25 rfl
theorem dX8_find_115 : decode cX8_find 115 = .ok (.getfield 19, 3) := okD_get dqb_10 26 rfl
theorem dX8_find_118 : decode cX8_find 118 = .ok (.iload 4, 2) := okD_get dqb_10 27 rfl
theorem dX8_find_120 : decode cX8_find 120 = .ok (.iaload, 1) := okD_get dqb_10 28 rfl
theorem dX8_find_121 : decode cX8_find 121 = .ok (.istore_n 3, 1) := okD_get dqb_10 29 rfl
theorem dX8_find_122 : decode cX8_find 122 = .ok (.iinc 4 1, 3) := okD_get dqb_10 30 rfl
theorem dX8_find_125 : decode cX8_find 125 = .ok (.goto (-46), 3) := okD_get dqb_10 31 rfl
theorem dX8_find_128 : decode cX8_find 128 = .ok (.return_, 1) := okD_get dqb_10 32 rfl
theorem dqb_11 : okD cX8_peakOf [(0, (.iconst 0, 1)), (1, (.istore_n 1, 1)), (2, (.iconst 0, 1)), (3, (.istore_n 2, 1)), (4, (.iload_n 2, 1)), (5, (.bipush 120, 2)), (7, (.if_icmp .ge 30, 3)), (10, (.aload_n 0, 1)), (11, (.getfield 19, 3)), (14, (.iload_n 2, 1)), (15, (.iaload, 1)), (16, (.iload_n 1, 1)), (17, (.if_icmp .le 12, 3)), (20, (.aload_n 0, 1)), (21, (.getfield 19, 3)), (24, (.iload_n 2, 1)), (25, (.iaload, 1)), (26, (.goto 4, 3)), (29, (.iload_n 1, 1)), (30, (.istore_n 1, 1)), (31, (.iinc 2 1, 3)), (34, (.goto (-30), 3)), (37, (.iload_n 1, 1)), (38, (.ireturn, 1))] = true := by decide +kernel
theorem dX8_peakOf_0 : decode cX8_peakOf 0 = .ok (.iconst 0, 1) := okD_get dqb_11 0 rfl
theorem dX8_peakOf_1 : decode cX8_peakOf 1 = .ok (.istore_n 1, 1) := okD_get dqb_11 1 rfl
theorem dX8_peakOf_2 : decode cX8_peakOf 2 = .ok (.iconst 0, 1) := okD_get dqb_11 2 rfl
theorem dX8_peakOf_3 : decode cX8_peakOf 3 = .ok (.istore_n 2, 1) := okD_get dqb_11 3 rfl
theorem dX8_peakOf_4 : decode cX8_peakOf 4 = .ok (.iload_n 2, 1) := okD_get dqb_11 4 rfl
theorem dX8_peakOf_5 : decode cX8_peakOf 5 = .ok (.bipush 120, 2) := okD_get dqb_11 5 rfl
theorem dX8_peakOf_7 : decode cX8_peakOf 7 = .ok (.if_icmp .ge 30, 3) := okD_get dqb_11 6 rfl
theorem dX8_peakOf_10 : decode cX8_peakOf 10 = .ok (.aload_n 0, 1) := okD_get dqb_11 7 rfl
theorem dX8_peakOf_11 : decode cX8_peakOf 11 = .ok (.getfield 19, 3) := okD_get dqb_11 8 rfl
theorem dX8_peakOf_14 : decode cX8_peakOf 14 = .ok (.iload_n 2, 1) := okD_get dqb_11 9 rfl
theorem dX8_peakOf_15 : decode cX8_peakOf 15 = .ok (.iaload, 1) := okD_get dqb_11 10 rfl
theorem dX8_peakOf_16 : decode cX8_peakOf 16 = .ok (.iload_n 1, 1) := okD_get dqb_11 11 rfl
theorem dX8_peakOf_17 : decode cX8_peakOf 17 = .ok (.if_icmp .le 12, 3) := okD_get dqb_11 12 rfl
theorem dX8_peakOf_20 : decode cX8_peakOf 20 = .ok (.aload_n 0, 1) := okD_get dqb_11 13 rfl
theorem dX8_peakOf_21 : decode cX8_peakOf 21 = .ok (.getfield 19, 3) := okD_get dqb_11 14 rfl
theorem dX8_peakOf_24 : decode cX8_peakOf 24 = .ok (.iload_n 2, 1) := okD_get dqb_11 15 rfl
theorem dX8_peakOf_25 : decode cX8_peakOf 25 = .ok (.iaload, 1) := okD_get dqb_11 16 rfl
theorem dX8_peakOf_26 : decode cX8_peakOf 26 = .ok (.goto 4, 3) := okD_get dqb_11 17 rfl
theorem dX8_peakOf_29 : decode cX8_peakOf 29 = .ok (.iload_n 1, 1) := okD_get dqb_11 18 rfl
theorem dX8_peakOf_30 : decode cX8_peakOf 30 = .ok (.istore_n 1, 1) := okD_get dqb_11 19 rfl
theorem dX8_peakOf_31 : decode cX8_peakOf 31 = .ok (.iinc 2 1, 3) := okD_get dqb_11 20 rfl
theorem dX8_peakOf_34 : decode cX8_peakOf 34 = .ok (.goto (-30), 3) := okD_get dqb_11 21 rfl
theorem dX8_peakOf_37 : decode cX8_peakOf 37 = .ok (.iload_n 1, 1) := okD_get dqb_11 22 rfl
theorem dX8_peakOf_38 : decode cX8_peakOf 38 = .ok (.ireturn, 1) := okD_get dqb_11 23 rfl
theorem dqb_12 : okD cX8_height [(0, (.aload_n 0, 1)), (1, (.iconst 0, 1)), (2, (.putfield 78, 3)), (5, (.iload_n 1, 1)), (6, (.invokestatic 92, 3)), (9, (.ifCond .eq 10, 3)), (12, (.iload_n 2, 1)), (13, (.invokestatic 98, 3)), (16, (.ifCond .ne 5, 3)), (19, (.iconst (-1), 1)), (20, (.ireturn, 1)), (21, (.aload_n 0, 1)), (22, (.iload_n 2, 1)), (23, (.bipush 119, 2)), (25, (.invokevirtual 108, 3)), (28, (.aload_n 0, 1)), (29, (.getfield 19, 3)), (32, (.iload_n 1, 1)), (33, (.iaload, 1)), (34, (.ireturn, 1))] = true := by decide +kernel
theorem dX8_height_0 : decode cX8_height 0 = .ok (.aload_n 0, 1) := okD_get dqb_12 0 rfl
theorem dX8_height_1 : decode cX8_height 1 = .ok (.iconst 0, 1) := okD_get dqb_12 1 rfl
theorem dX8_height_2 : decode cX8_height 2 = .ok (.putfield 78, 3) := okD_get dqb_12 2 rfl
theorem dX8_height_5 : decode cX8_height 5 = .ok (.iload_n 1, 1) := okD_get dqb_12 3 rfl
theorem dX8_height_6 : decode cX8_height 6 = .ok (.invokestatic 92, 3) := okD_get dqb_12 4 rfl
theorem dX8_height_9 : decode cX8_height 9 = .ok (.ifCond .eq 10, 3) := okD_get dqb_12 5 rfl
theorem dX8_height_12 : decode cX8_height 12 = .ok (.iload_n 2, 1) := okD_get dqb_12 6 rfl
theorem dX8_height_13 : decode cX8_height 13 = .ok (.invokestatic 98, 3) := okD_get dqb_12 7 rfl
theorem dX8_height_16 : decode cX8_height 16 = .ok (.ifCond .ne 5, 3) := okD_get dqb_12 8 rfl
theorem dX8_height_19 : decode cX8_height 19 = .ok (.iconst (-1), 1) := okD_get dqb_12 9 rfl
theorem dX8_height_20 : decode cX8_height 20 = .ok (.ireturn, 1) := okD_get dqb_12 10 rfl
theorem dX8_height_21 : decode cX8_height 21 = .ok (.aload_n 0, 1) := okD_get dqb_12 11 rfl
theorem dX8_height_22 : decode cX8_height 22 = .ok (.iload_n 2, 1) := okD_get dqb_12 12 rfl
theorem dX8_height_23 : decode cX8_height 23 = .ok (.bipush 119, 2) := okD_get dqb_12 13 rfl
theorem dX8_height_25 : decode cX8_height 25 = .ok (.invokevirtual 108, 3) := okD_get dqb_12 14 rfl
theorem dX8_height_28 : decode cX8_height 28 = .ok (.aload_n 0, 1) := okD_get dqb_12 15 rfl
theorem dX8_height_29 : decode cX8_height 29 = .ok (.getfield 19, 3) := okD_get dqb_12 16 rfl
theorem dX8_height_32 : decode cX8_height 32 = .ok (.iload_n 1, 1) := okD_get dqb_12 17 rfl
theorem dX8_height_33 : decode cX8_height 33 = .ok (.iaload, 1) := okD_get dqb_12 18 rfl
theorem dX8_height_34 : decode cX8_height 34 = .ok (.ireturn, 1) := okD_get dqb_12 19 rfl
theorem dqb_13 : okD cX8_peak [(0, (.aload_n 0, 1)), (1, (.iconst 0, 1)), (2, (.putfield 78, 3)), (5, (.iload_n 1, 1)), (6, (.invokestatic 98, 3)), (9, (.ifCond .ne 5, 3)), (12, (.iconst (-1), 1)), (13, (.ireturn, 1)), (14, (.aload_n 0, 1)), (15, (.iload_n 1, 1)), (16, (.bipush 119, 2)), (18, (.invokevirtual 108, 3)), (21, (.aload_n 0, 1)), (22, (.invokevirtual 112, 3)), (25, (.ireturn, 1))] = true := by decide +kernel
theorem dX8_peak_0 : decode cX8_peak 0 = .ok (.aload_n 0, 1) := okD_get dqb_13 0 rfl
theorem dX8_peak_1 : decode cX8_peak 1 = .ok (.iconst 0, 1) := okD_get dqb_13 1 rfl
theorem dX8_peak_2 : decode cX8_peak 2 = .ok (.putfield 78, 3) := okD_get dqb_13 2 rfl
theorem dX8_peak_5 : decode cX8_peak 5 = .ok (.iload_n 1, 1) := okD_get dqb_13 3 rfl
theorem dX8_peak_6 : decode cX8_peak 6 = .ok (.invokestatic 98, 3) := okD_get dqb_13 4 rfl
theorem dX8_peak_9 : decode cX8_peak 9 = .ok (.ifCond .ne 5, 3) := okD_get dqb_13 5 rfl
theorem dX8_peak_12 : decode cX8_peak 12 = .ok (.iconst (-1), 1) := okD_get dqb_13 6 rfl
theorem dX8_peak_13 : decode cX8_peak 13 = .ok (.ireturn, 1) := okD_get dqb_13 7 rfl
theorem dX8_peak_14 : decode cX8_peak 14 = .ok (.aload_n 0, 1) := okD_get dqb_13 8 rfl
theorem dX8_peak_15 : decode cX8_peak 15 = .ok (.iload_n 1, 1) := okD_get dqb_13 9 rfl
theorem dX8_peak_16 : decode cX8_peak 16 = .ok (.bipush 119, 2) := okD_get dqb_13 10 rfl
theorem dX8_peak_18 : decode cX8_peak 18 = .ok (.invokevirtual 108, 3) := okD_get dqb_13 11 rfl
theorem dX8_peak_21 : decode cX8_peak 21 = .ok (.aload_n 0, 1) := okD_get dqb_13 12 rfl
theorem dX8_peak_22 : decode cX8_peak 22 = .ok (.invokevirtual 112, 3) := okD_get dqb_13 13 rfl
theorem dX8_peak_25 : decode cX8_peak 25 = .ok (.ireturn, 1) := okD_get dqb_13 14 rfl
theorem dqb_14 : okD cX8_isStrip [(0, (.iload_n 1, 1)), (1, (.i2l, 1)), (2, (.lconst 0, 1)), (3, (.aload_n 0, 1)), (4, (.getfield 116, 3)), (7, (.i2l, 1)), (8, (.lconst 1, 1)), (9, (.lsub, 1)), (10, (.invokestatic 86, 3)), (13, (.ireturn, 1))] = true := by decide +kernel
theorem dX8_isStrip_0 : decode cX8_isStrip 0 = .ok (.iload_n 1, 1) := okD_get dqb_14 0 rfl
theorem dX8_isStrip_1 : decode cX8_isStrip 1 = .ok (.i2l, 1) := okD_get dqb_14 1 rfl
theorem dX8_isStrip_2 : decode cX8_isStrip 2 = .ok (.lconst 0, 1) := okD_get dqb_14 2 rfl
theorem dX8_isStrip_3 : decode cX8_isStrip 3 = .ok (.aload_n 0, 1) := okD_get dqb_14 3 rfl
theorem dX8_isStrip_4 : decode cX8_isStrip 4 = .ok (.getfield 116, 3) := okD_get dqb_14 4 rfl
theorem dX8_isStrip_7 : decode cX8_isStrip 7 = .ok (.i2l, 1) := okD_get dqb_14 5 rfl
theorem dX8_isStrip_8 : decode cX8_isStrip 8 = .ok (.lconst 1, 1) := okD_get dqb_14 6 rfl
theorem dX8_isStrip_9 : decode cX8_isStrip 9 = .ok (.lsub, 1) := okD_get dqb_14 7 rfl
theorem dX8_isStrip_10 : decode cX8_isStrip 10 = .ok (.invokestatic 86, 3) := okD_get dqb_14 8 rfl
theorem dX8_isStrip_13 : decode cX8_isStrip 13 = .ok (.ireturn, 1) := okD_get dqb_14 9 rfl
theorem dqb_15 : okD cX8_isMark [(0, (.aload_n 0, 1)), (1, (.getfield 116, 3)), (4, (.ifCond .le 21, 3)), (7, (.iload_n 1, 1)), (8, (.i2l, 1)), (9, (.lconst 0, 1)), (10, (.aload_n 0, 1)), (11, (.getfield 116, 3)), (14, (.i2l, 1)), (15, (.invokestatic 86, 3)), (18, (.ifCond .eq 7, 3)), (21, (.iconst 1, 1)), (22, (.goto 4, 3)), (25, (.iconst 0, 1)), (26, (.ireturn, 1))] = true := by decide +kernel
theorem dX8_isMark_0 : decode cX8_isMark 0 = .ok (.aload_n 0, 1) := okD_get dqb_15 0 rfl
theorem dX8_isMark_1 : decode cX8_isMark 1 = .ok (.getfield 116, 3) := okD_get dqb_15 1 rfl
theorem dX8_isMark_4 : decode cX8_isMark 4 = .ok (.ifCond .le 21, 3) := okD_get dqb_15 2 rfl
theorem dX8_isMark_7 : decode cX8_isMark 7 = .ok (.iload_n 1, 1) := okD_get dqb_15 3 rfl
theorem dX8_isMark_8 : decode cX8_isMark 8 = .ok (.i2l, 1) := okD_get dqb_15 4 rfl
theorem dX8_isMark_9 : decode cX8_isMark 9 = .ok (.lconst 0, 1) := okD_get dqb_15 5 rfl
theorem dX8_isMark_10 : decode cX8_isMark 10 = .ok (.aload_n 0, 1) := okD_get dqb_15 6 rfl
theorem dX8_isMark_11 : decode cX8_isMark 11 = .ok (.getfield 116, 3) := okD_get dqb_15 7 rfl
theorem dX8_isMark_14 : decode cX8_isMark 14 = .ok (.i2l, 1) := okD_get dqb_15 8 rfl
theorem dX8_isMark_15 : decode cX8_isMark 15 = .ok (.invokestatic 86, 3) := okD_get dqb_15 9 rfl
theorem dX8_isMark_18 : decode cX8_isMark 18 = .ok (.ifCond .eq 7, 3) := okD_get dqb_15 10 rfl
theorem dX8_isMark_21 : decode cX8_isMark 21 = .ok (.iconst 1, 1) := okD_get dqb_15 11 rfl
theorem dX8_isMark_22 : decode cX8_isMark 22 = .ok (.goto 4, 3) := okD_get dqb_15 12 rfl
theorem dX8_isMark_25 : decode cX8_isMark 25 = .ok (.iconst 0, 1) := okD_get dqb_15 13 rfl
theorem dX8_isMark_26 : decode cX8_isMark 26 = .ok (.ireturn, 1) := okD_get dqb_15 14 rfl
theorem dqb_16 : okD cX8_strip [(0, (.aload_n 0, 1)), (1, (.iconst 0, 1)), (2, (.putfield 78, 3)), (5, (.iload_n 1, 1)), (6, (.i2l, 1)), (7, (.lconst 1, 1)), (8, (.ldc2_w 96, 3)), (11, (.invokestatic 86, 3)), (14, (.ifCond .eq 27, 3)), (17, (.iload_n 2, 1)), (18, (.i2l, 1)), (19, (.lconst 0, 1)), (20, (.ldc2_w 96, 3)), (23, (.invokestatic 86, 3)), (26, (.ifCond .eq 15, 3)), (29, (.iload_n 3, 1)), (30, (.i2l, 1)), (31, (.lconst 0, 1)), (32, (.ldc2_w 119, 3)), (35, (.invokestatic 86, 3)), (38, (.ifCond .ne 9, 3)), (41, (.aload_n 0, 1)), (42, (.iconst (-1), 1)), (43, (.invokevirtual 101, 3)), (46, (.ireturn, 1)), (47, (.aload_n 0, 1)), (48, (.getfield 116, 3)), (51, (.bipush 24, 2)), (53, (.if_icmp .ne 10, 3)), (56, (.aload_n 0, 1)), (57, (.bipush (-5), 2)), (59, (.invokevirtual 101, 3)), (62, (.ireturn, 1)), (63, (.aload_n 0, 1)), (64, (.getfield 22, 3)), (67, (.aload_n 0, 1)), (68, (.getfield 116, 3)), (71, (.iload_n 1, 1)), (72, (.iastore, 1)), (73, (.aload_n 0, 1))] = true := by decide +kernel
theorem dX8_strip_0 : decode cX8_strip 0 = .ok (.aload_n 0, 1) := okD_get dqb_16 0 rfl
theorem dX8_strip_1 : decode cX8_strip 1 = .ok (.iconst 0, 1) := okD_get dqb_16 1 rfl
theorem dX8_strip_2 : decode cX8_strip 2 = .ok (.putfield 78, 3) := okD_get dqb_16 2 rfl
theorem dX8_strip_5 : decode cX8_strip 5 = .ok (.iload_n 1, 1) := okD_get dqb_16 3 rfl
theorem dX8_strip_6 : decode cX8_strip 6 = .ok (.i2l, 1) := okD_get dqb_16 4 rfl
theorem dX8_strip_7 : decode cX8_strip 7 = .ok (.lconst 1, 1) := okD_get dqb_16 5 rfl
theorem dX8_strip_8 : decode cX8_strip 8 = .ok (.ldc2_w 96, 3) := okD_get dqb_16 6 rfl
theorem dX8_strip_11 : decode cX8_strip 11 = .ok (.invokestatic 86, 3) := okD_get dqb_16 7 rfl
theorem dX8_strip_14 : decode cX8_strip 14 = .ok (.ifCond .eq 27, 3) := okD_get dqb_16 8 rfl
theorem dX8_strip_17 : decode cX8_strip 17 = .ok (.iload_n 2, 1) := okD_get dqb_16 9 rfl
theorem dX8_strip_18 : decode cX8_strip 18 = .ok (.i2l, 1) := okD_get dqb_16 10 rfl
theorem dX8_strip_19 : decode cX8_strip 19 = .ok (.lconst 0, 1) := okD_get dqb_16 11 rfl
theorem dX8_strip_20 : decode cX8_strip 20 = .ok (.ldc2_w 96, 3) := okD_get dqb_16 12 rfl
theorem dX8_strip_23 : decode cX8_strip 23 = .ok (.invokestatic 86, 3) := okD_get dqb_16 13 rfl
theorem dX8_strip_26 : decode cX8_strip 26 = .ok (.ifCond .eq 15, 3) := okD_get dqb_16 14 rfl
theorem dX8_strip_29 : decode cX8_strip 29 = .ok (.iload_n 3, 1) := okD_get dqb_16 15 rfl
theorem dX8_strip_30 : decode cX8_strip 30 = .ok (.i2l, 1) := okD_get dqb_16 16 rfl
theorem dX8_strip_31 : decode cX8_strip 31 = .ok (.lconst 0, 1) := okD_get dqb_16 17 rfl
theorem dX8_strip_32 : decode cX8_strip 32 = .ok (.ldc2_w 119, 3) := okD_get dqb_16 18 rfl
theorem dX8_strip_35 : decode cX8_strip 35 = .ok (.invokestatic 86, 3) := okD_get dqb_16 19 rfl
theorem dX8_strip_38 : decode cX8_strip 38 = .ok (.ifCond .ne 9, 3) := okD_get dqb_16 20 rfl
theorem dX8_strip_41 : decode cX8_strip 41 = .ok (.aload_n 0, 1) := okD_get dqb_16 21 rfl
theorem dX8_strip_42 : decode cX8_strip 42 = .ok (.iconst (-1), 1) := okD_get dqb_16 22 rfl
theorem dX8_strip_43 : decode cX8_strip 43 = .ok (.invokevirtual 101, 3) := okD_get dqb_16 23 rfl
theorem dX8_strip_46 : decode cX8_strip 46 = .ok (.ireturn, 1) := okD_get dqb_16 24 rfl
theorem dX8_strip_47 : decode cX8_strip 47 = .ok (.aload_n 0, 1) := okD_get dqb_16 25 rfl
theorem dX8_strip_48 : decode cX8_strip 48 = .ok (.getfield 116, 3) := okD_get dqb_16 26 rfl
theorem dX8_strip_51 : decode cX8_strip 51 = .ok (.bipush 24, 2) := okD_get dqb_16 27 rfl
theorem dX8_strip_53 : decode cX8_strip 53 = .ok (.if_icmp .ne 10, 3) := okD_get dqb_16 28 rfl
theorem dX8_strip_56 : decode cX8_strip 56 = .ok (.aload_n 0, 1) := okD_get dqb_16 29 rfl
theorem dX8_strip_57 : decode cX8_strip 57 = .ok (.bipush (-5), 2) := okD_get dqb_16 30 rfl
theorem dX8_strip_59 : decode cX8_strip 59 = .ok (.invokevirtual 101, 3) := okD_get dqb_16 31 rfl
theorem dX8_strip_62 : decode cX8_strip 62 = .ok (.ireturn, 1) := okD_get dqb_16 32 rfl
theorem dX8_strip_63 : decode cX8_strip 63 = .ok (.aload_n 0, 1) := okD_get dqb_16 33 rfl
theorem dX8_strip_64 : decode cX8_strip 64 = .ok (.getfield 22, 3) := okD_get dqb_16 34 rfl
theorem dX8_strip_67 : decode cX8_strip 67 = .ok (.aload_n 0, 1) := okD_get dqb_16 35 rfl
theorem dX8_strip_68 : decode cX8_strip 68 = .ok (.getfield 116, 3) := okD_get dqb_16 36 rfl
theorem dX8_strip_71 : decode cX8_strip 71 = .ok (.iload_n 1, 1) := okD_get dqb_16 37 rfl
theorem dX8_strip_72 : decode cX8_strip 72 = .ok (.iastore, 1) := okD_get dqb_16 38 rfl
theorem dX8_strip_73 : decode cX8_strip 73 = .ok (.aload_n 0, 1) := okD_get dqb_16 39 rfl
theorem dqb_17 : okD cX8_strip [(74, (.getfield 25, 3)), (77, (.aload_n 0, 1)), (78, (.getfield 116, 3)), (81, (.iload_n 1, 1)), (82, (.iastore, 1)), (83, (.aload_n 0, 1)), (84, (.getfield 28, 3)), (87, (.aload_n 0, 1)), (88, (.getfield 116, 3)), (91, (.iload_n 2, 1)), (92, (.iastore, 1)), (93, (.aload_n 0, 1)), (94, (.getfield 31, 3)), (97, (.aload_n 0, 1)), (98, (.getfield 116, 3)), (101, (.iload_n 3, 1)), (102, (.iastore, 1)), (103, (.aload_n 0, 1)), (104, (.dup, 1)), (105, (.getfield 116, 3)), (108, (.iconst 1, 1)), (109, (.iadd, 1)), (110, (.putfield 116, 3)), (113, (.aload_n 0, 1)), (114, (.aload_n 0, 1)), (115, (.getfield 116, 3)), (118, (.iconst 1, 1)), (119, (.isub, 1)), (120, (.invokevirtual 101, 3)), (123, (.ireturn, 1))] = true := by decide +kernel
theorem dX8_strip_74 : decode cX8_strip 74 = .ok (.getfield 25, 3) := okD_get dqb_17 0 rfl
theorem dX8_strip_77 : decode cX8_strip 77 = .ok (.aload_n 0, 1) := okD_get dqb_17 1 rfl
theorem dX8_strip_78 : decode cX8_strip 78 = .ok (.getfield 116, 3) := okD_get dqb_17 2 rfl
theorem dX8_strip_81 : decode cX8_strip 81 = .ok (.iload_n 1, 1) := okD_get dqb_17 3 rfl
theorem dX8_strip_82 : decode cX8_strip 82 = .ok (.iastore, 1) := okD_get dqb_17 4 rfl
theorem dX8_strip_83 : decode cX8_strip 83 = .ok (.aload_n 0, 1) := okD_get dqb_17 5 rfl
theorem dX8_strip_84 : decode cX8_strip 84 = .ok (.getfield 28, 3) := okD_get dqb_17 6 rfl
theorem dX8_strip_87 : decode cX8_strip 87 = .ok (.aload_n 0, 1) := okD_get dqb_17 7 rfl
theorem dX8_strip_88 : decode cX8_strip 88 = .ok (.getfield 116, 3) := okD_get dqb_17 8 rfl
theorem dX8_strip_91 : decode cX8_strip 91 = .ok (.iload_n 2, 1) := okD_get dqb_17 9 rfl
theorem dX8_strip_92 : decode cX8_strip 92 = .ok (.iastore, 1) := okD_get dqb_17 10 rfl
theorem dX8_strip_93 : decode cX8_strip 93 = .ok (.aload_n 0, 1) := okD_get dqb_17 11 rfl
theorem dX8_strip_94 : decode cX8_strip 94 = .ok (.getfield 31, 3) := okD_get dqb_17 12 rfl
theorem dX8_strip_97 : decode cX8_strip 97 = .ok (.aload_n 0, 1) := okD_get dqb_17 13 rfl
theorem dX8_strip_98 : decode cX8_strip 98 = .ok (.getfield 116, 3) := okD_get dqb_17 14 rfl
theorem dX8_strip_101 : decode cX8_strip 101 = .ok (.iload_n 3, 1) := okD_get dqb_17 15 rfl
theorem dX8_strip_102 : decode cX8_strip 102 = .ok (.iastore, 1) := okD_get dqb_17 16 rfl
theorem dX8_strip_103 : decode cX8_strip 103 = .ok (.aload_n 0, 1) := okD_get dqb_17 17 rfl
theorem dX8_strip_104 : decode cX8_strip 104 = .ok (.dup, 1) := okD_get dqb_17 18 rfl
theorem dX8_strip_105 : decode cX8_strip 105 = .ok (.getfield 116, 3) := okD_get dqb_17 19 rfl
theorem dX8_strip_108 : decode cX8_strip 108 = .ok (.iconst 1, 1) := okD_get dqb_17 20 rfl
theorem dX8_strip_109 : decode cX8_strip 109 = .ok (.iadd, 1) := okD_get dqb_17 21 rfl
theorem dX8_strip_110 : decode cX8_strip 110 = .ok (.putfield 116, 3) := okD_get dqb_17 22 rfl
theorem dX8_strip_113 : decode cX8_strip 113 = .ok (.aload_n 0, 1) := okD_get dqb_17 23 rfl
theorem dX8_strip_114 : decode cX8_strip 114 = .ok (.aload_n 0, 1) := okD_get dqb_17 24 rfl
theorem dX8_strip_115 : decode cX8_strip 115 = .ok (.getfield 116, 3) := okD_get dqb_17 25 rfl
theorem dX8_strip_118 : decode cX8_strip 118 = .ok (.iconst 1, 1) := okD_get dqb_17 26 rfl
theorem dX8_strip_119 : decode cX8_strip 119 = .ok (.isub, 1) := okD_get dqb_17 27 rfl
theorem dX8_strip_120 : decode cX8_strip 120 = .ok (.invokevirtual 101, 3) := okD_get dqb_17 28 rfl
theorem dX8_strip_123 : decode cX8_strip 123 = .ok (.ireturn, 1) := okD_get dqb_17 29 rfl
theorem dqb_18 : okD cX8_of [(0, (.aload_n 0, 1)), (1, (.iconst 0, 1)), (2, (.putfield 78, 3)), (5, (.aload_n 0, 1)), (6, (.iload_n 1, 1)), (7, (.invokevirtual 121, 3)), (10, (.ifCond .ne 5, 3)), (13, (.iconst (-1), 1)), (14, (.ireturn, 1)), (15, (.iload_n 2, 1)), (16, (.ifCond .ne 12, 3)), (19, (.aload_n 0, 1)), (20, (.getfield 25, 3)), (23, (.iload_n 1, 1)), (24, (.iaload, 1)), (25, (.goto 46, 3)), (28, (.iload_n 2, 1)), (29, (.iconst 1, 1)), (30, (.if_icmp .ne 12, 3)), (33, (.aload_n 0, 1)), (34, (.getfield 22, 3)), (37, (.iload_n 1, 1)), (38, (.iaload, 1)), (39, (.goto 32, 3)), (42, (.iload_n 2, 1)), (43, (.iconst 2, 1)), (44, (.if_icmp .ne 12, 3)), (47, (.aload_n 0, 1)), (48, (.getfield 28, 3)), (51, (.iload_n 1, 1)), (52, (.iaload, 1)), (53, (.goto 18, 3)), (56, (.iload_n 2, 1)), (57, (.iconst 3, 1)), (58, (.if_icmp .ne 12, 3)), (61, (.aload_n 0, 1)), (62, (.getfield 31, 3)), (65, (.iload_n 1, 1)), (66, (.iaload, 1)), (67, (.goto 4, 3))] = true := by decide +kernel
theorem dX8_of_0 : decode cX8_of 0 = .ok (.aload_n 0, 1) := okD_get dqb_18 0 rfl
theorem dX8_of_1 : decode cX8_of 1 = .ok (.iconst 0, 1) := okD_get dqb_18 1 rfl
theorem dX8_of_2 : decode cX8_of 2 = .ok (.putfield 78, 3) := okD_get dqb_18 2 rfl
theorem dX8_of_5 : decode cX8_of 5 = .ok (.aload_n 0, 1) := okD_get dqb_18 3 rfl
theorem dX8_of_6 : decode cX8_of 6 = .ok (.iload_n 1, 1) := okD_get dqb_18 4 rfl
theorem dX8_of_7 : decode cX8_of 7 = .ok (.invokevirtual 121, 3) := okD_get dqb_18 5 rfl
theorem dX8_of_10 : decode cX8_of 10 = .ok (.ifCond .ne 5, 3) := okD_get dqb_18 6 rfl
theorem dX8_of_13 : decode cX8_of 13 = .ok (.iconst (-1), 1) := okD_get dqb_18 7 rfl
theorem dX8_of_14 : decode cX8_of 14 = .ok (.ireturn, 1) := okD_get dqb_18 8 rfl
theorem dX8_of_15 : decode cX8_of 15 = .ok (.iload_n 2, 1) := okD_get dqb_18 9 rfl
theorem dX8_of_16 : decode cX8_of 16 = .ok (.ifCond .ne 12, 3) := okD_get dqb_18 10 rfl
theorem dX8_of_19 : decode cX8_of 19 = .ok (.aload_n 0, 1) := okD_get dqb_18 11 rfl
theorem dX8_of_20 : decode cX8_of 20 = .ok (.getfield 25, 3) := okD_get dqb_18 12 rfl
theorem dX8_of_23 : decode cX8_of 23 = .ok (.iload_n 1, 1) := okD_get dqb_18 13 rfl
theorem dX8_of_24 : decode cX8_of 24 = .ok (.iaload, 1) := okD_get dqb_18 14 rfl
theorem dX8_of_25 : decode cX8_of 25 = .ok (.goto 46, 3) := okD_get dqb_18 15 rfl
theorem dX8_of_28 : decode cX8_of 28 = .ok (.iload_n 2, 1) := okD_get dqb_18 16 rfl
theorem dX8_of_29 : decode cX8_of 29 = .ok (.iconst 1, 1) := okD_get dqb_18 17 rfl
theorem dX8_of_30 : decode cX8_of 30 = .ok (.if_icmp .ne 12, 3) := okD_get dqb_18 18 rfl
theorem dX8_of_33 : decode cX8_of 33 = .ok (.aload_n 0, 1) := okD_get dqb_18 19 rfl
theorem dX8_of_34 : decode cX8_of 34 = .ok (.getfield 22, 3) := okD_get dqb_18 20 rfl
theorem dX8_of_37 : decode cX8_of 37 = .ok (.iload_n 1, 1) := okD_get dqb_18 21 rfl
theorem dX8_of_38 : decode cX8_of 38 = .ok (.iaload, 1) := okD_get dqb_18 22 rfl
theorem dX8_of_39 : decode cX8_of 39 = .ok (.goto 32, 3) := okD_get dqb_18 23 rfl
theorem dX8_of_42 : decode cX8_of 42 = .ok (.iload_n 2, 1) := okD_get dqb_18 24 rfl
theorem dX8_of_43 : decode cX8_of 43 = .ok (.iconst 2, 1) := okD_get dqb_18 25 rfl
theorem dX8_of_44 : decode cX8_of 44 = .ok (.if_icmp .ne 12, 3) := okD_get dqb_18 26 rfl
theorem dX8_of_47 : decode cX8_of 47 = .ok (.aload_n 0, 1) := okD_get dqb_18 27 rfl
theorem dX8_of_48 : decode cX8_of 48 = .ok (.getfield 28, 3) := okD_get dqb_18 28 rfl
theorem dX8_of_51 : decode cX8_of 51 = .ok (.iload_n 1, 1) := okD_get dqb_18 29 rfl
theorem dX8_of_52 : decode cX8_of 52 = .ok (.iaload, 1) := okD_get dqb_18 30 rfl
theorem dX8_of_53 : decode cX8_of 53 = .ok (.goto 18, 3) := okD_get dqb_18 31 rfl
theorem dX8_of_56 : decode cX8_of 56 = .ok (.iload_n 2, 1) := okD_get dqb_18 32 rfl
theorem dX8_of_57 : decode cX8_of 57 = .ok (.iconst 3, 1) := okD_get dqb_18 33 rfl
theorem dX8_of_58 : decode cX8_of 58 = .ok (.if_icmp .ne 12, 3) := okD_get dqb_18 34 rfl
theorem dX8_of_61 : decode cX8_of 61 = .ok (.aload_n 0, 1) := okD_get dqb_18 35 rfl
theorem dX8_of_62 : decode cX8_of 62 = .ok (.getfield 31, 3) := okD_get dqb_18 36 rfl
theorem dX8_of_65 : decode cX8_of 65 = .ok (.iload_n 1, 1) := okD_get dqb_18 37 rfl
theorem dX8_of_66 : decode cX8_of 66 = .ok (.iaload, 1) := okD_get dqb_18 38 rfl
theorem dX8_of_67 : decode cX8_of 67 = .ok (.goto 4, 3) := okD_get dqb_18 39 rfl
theorem dqb_19 : okD cX8_of [(70, (.iconst (-1), 1)), (71, (.ireturn, 1))] = true := by decide +kernel
theorem dX8_of_70 : decode cX8_of 70 = .ok (.iconst (-1), 1) := okD_get dqb_19 0 rfl
theorem dX8_of_71 : decode cX8_of 71 = .ok (.ireturn, 1) := okD_get dqb_19 1 rfl
theorem dqb_20 : okD cX8_lose [(0, (.aload_n 0, 1)), (1, (.iconst 0, 1)), (2, (.putfield 78, 3)), (5, (.aload_n 0, 1)), (6, (.iload_n 1, 1)), (7, (.invokevirtual 124, 3)), (10, (.ifCond .ne 10, 3)), (13, (.aload_n 0, 1)), (14, (.bipush (-2), 2)), (16, (.invokevirtual 101, 3)), (19, (.ireturn, 1)), (20, (.iload_n 1, 1)), (21, (.ifCond .eq 20, 3)), (24, (.iload_n 1, 1)), (25, (.aload_n 0, 1)), (26, (.getfield 116, 3)), (29, (.if_icmp .eq 12, 3)), (32, (.aload_n 0, 1)), (33, (.getfield 34, 3)), (36, (.iload_n 1, 1)), (37, (.baload, 1)), (38, (.ifCond .eq 10, 3)), (41, (.aload_n 0, 1)), (42, (.bipush (-3), 2)), (44, (.invokevirtual 101, 3)), (47, (.ireturn, 1)), (48, (.aload_n 0, 1)), (49, (.getfield 34, 3)), (52, (.iload_n 1, 1)), (53, (.iconst 1, 1)), (54, (.bastore, 1)), (55, (.aload_n 0, 1)), (56, (.iconst 0, 1)), (57, (.invokevirtual 101, 3)), (60, (.ireturn, 1))] = true := by decide +kernel
theorem dX8_lose_0 : decode cX8_lose 0 = .ok (.aload_n 0, 1) := okD_get dqb_20 0 rfl
theorem dX8_lose_1 : decode cX8_lose 1 = .ok (.iconst 0, 1) := okD_get dqb_20 1 rfl
theorem dX8_lose_2 : decode cX8_lose 2 = .ok (.putfield 78, 3) := okD_get dqb_20 2 rfl
theorem dX8_lose_5 : decode cX8_lose 5 = .ok (.aload_n 0, 1) := okD_get dqb_20 3 rfl
theorem dX8_lose_6 : decode cX8_lose 6 = .ok (.iload_n 1, 1) := okD_get dqb_20 4 rfl
theorem dX8_lose_7 : decode cX8_lose 7 = .ok (.invokevirtual 124, 3) := okD_get dqb_20 5 rfl
theorem dX8_lose_10 : decode cX8_lose 10 = .ok (.ifCond .ne 10, 3) := okD_get dqb_20 6 rfl
theorem dX8_lose_13 : decode cX8_lose 13 = .ok (.aload_n 0, 1) := okD_get dqb_20 7 rfl
theorem dX8_lose_14 : decode cX8_lose 14 = .ok (.bipush (-2), 2) := okD_get dqb_20 8 rfl
theorem dX8_lose_16 : decode cX8_lose 16 = .ok (.invokevirtual 101, 3) := okD_get dqb_20 9 rfl
theorem dX8_lose_19 : decode cX8_lose 19 = .ok (.ireturn, 1) := okD_get dqb_20 10 rfl
theorem dX8_lose_20 : decode cX8_lose 20 = .ok (.iload_n 1, 1) := okD_get dqb_20 11 rfl
theorem dX8_lose_21 : decode cX8_lose 21 = .ok (.ifCond .eq 20, 3) := okD_get dqb_20 12 rfl
theorem dX8_lose_24 : decode cX8_lose 24 = .ok (.iload_n 1, 1) := okD_get dqb_20 13 rfl
theorem dX8_lose_25 : decode cX8_lose 25 = .ok (.aload_n 0, 1) := okD_get dqb_20 14 rfl
theorem dX8_lose_26 : decode cX8_lose 26 = .ok (.getfield 116, 3) := okD_get dqb_20 15 rfl
theorem dX8_lose_29 : decode cX8_lose 29 = .ok (.if_icmp .eq 12, 3) := okD_get dqb_20 16 rfl
theorem dX8_lose_32 : decode cX8_lose 32 = .ok (.aload_n 0, 1) := okD_get dqb_20 17 rfl
theorem dX8_lose_33 : decode cX8_lose 33 = .ok (.getfield 34, 3) := okD_get dqb_20 18 rfl
theorem dX8_lose_36 : decode cX8_lose 36 = .ok (.iload_n 1, 1) := okD_get dqb_20 19 rfl
theorem dX8_lose_37 : decode cX8_lose 37 = .ok (.baload, 1) := okD_get dqb_20 20 rfl
theorem dX8_lose_38 : decode cX8_lose 38 = .ok (.ifCond .eq 10, 3) := okD_get dqb_20 21 rfl
theorem dX8_lose_41 : decode cX8_lose 41 = .ok (.aload_n 0, 1) := okD_get dqb_20 22 rfl
theorem dX8_lose_42 : decode cX8_lose 42 = .ok (.bipush (-3), 2) := okD_get dqb_20 23 rfl
theorem dX8_lose_44 : decode cX8_lose 44 = .ok (.invokevirtual 101, 3) := okD_get dqb_20 24 rfl
theorem dX8_lose_47 : decode cX8_lose 47 = .ok (.ireturn, 1) := okD_get dqb_20 25 rfl
theorem dX8_lose_48 : decode cX8_lose 48 = .ok (.aload_n 0, 1) := okD_get dqb_20 26 rfl
theorem dX8_lose_49 : decode cX8_lose 49 = .ok (.getfield 34, 3) := okD_get dqb_20 27 rfl
theorem dX8_lose_52 : decode cX8_lose 52 = .ok (.iload_n 1, 1) := okD_get dqb_20 28 rfl
theorem dX8_lose_53 : decode cX8_lose 53 = .ok (.iconst 1, 1) := okD_get dqb_20 29 rfl
theorem dX8_lose_54 : decode cX8_lose 54 = .ok (.bastore, 1) := okD_get dqb_20 30 rfl
theorem dX8_lose_55 : decode cX8_lose 55 = .ok (.aload_n 0, 1) := okD_get dqb_20 31 rfl
theorem dX8_lose_56 : decode cX8_lose 56 = .ok (.iconst 0, 1) := okD_get dqb_20 32 rfl
theorem dX8_lose_57 : decode cX8_lose 57 = .ok (.invokevirtual 101, 3) := okD_get dqb_20 33 rfl
theorem dX8_lose_60 : decode cX8_lose 60 = .ok (.ireturn, 1) := okD_get dqb_20 34 rfl
theorem dqb_21 : okD cX8_draw [(0, (.aload_n 0, 1)), (1, (.iconst 0, 1)), (2, (.putfield 78, 3)), (5, (.iload_n 2, 1)), (6, (.iload_n 1, 1)), (7, (.if_icmp .le 15, 3)), (10, (.iload_n 3, 1)), (11, (.i2l, 1)), (12, (.lconst 0, 1)), (13, (.ldc2_w 127, 3)), (16, (.invokestatic 86, 3)), (19, (.ifCond .ne 9, 3)), (22, (.aload_n 0, 1)), (23, (.iconst (-1), 1)), (24, (.invokevirtual 101, 3)), (27, (.ireturn, 1)), (28, (.aload_n 0, 1)), (29, (.iload_n 1, 1)), (30, (.invokevirtual 124, 3)), (33, (.ifCond .eq 11, 3)), (36, (.aload_n 0, 1)), (37, (.iload_n 2, 1)), (38, (.invokevirtual 124, 3)), (41, (.ifCond .ne 10, 3)), (44, (.aload_n 0, 1)), (45, (.bipush (-2), 2)), (47, (.invokevirtual 101, 3)), (50, (.ireturn, 1)), (51, (.aload_n 0, 1)), (52, (.getfield 34, 3)), (55, (.iload_n 1, 1)), (56, (.baload, 1)), (57, (.ifCond .ne 16, 3)), (60, (.aload_n 0, 1)), (61, (.getfield 34, 3)), (64, (.iload_n 2, 1)), (65, (.baload, 1)), (66, (.ifCond .ne 7, 3)), (69, (.iconst 1, 1)), (70, (.goto 4, 3))] = true := by decide +kernel
theorem dX8_draw_0 : decode cX8_draw 0 = .ok (.aload_n 0, 1) := okD_get dqb_21 0 rfl
theorem dX8_draw_1 : decode cX8_draw 1 = .ok (.iconst 0, 1) := okD_get dqb_21 1 rfl
theorem dX8_draw_2 : decode cX8_draw 2 = .ok (.putfield 78, 3) := okD_get dqb_21 2 rfl
theorem dX8_draw_5 : decode cX8_draw 5 = .ok (.iload_n 2, 1) := okD_get dqb_21 3 rfl
theorem dX8_draw_6 : decode cX8_draw 6 = .ok (.iload_n 1, 1) := okD_get dqb_21 4 rfl
theorem dX8_draw_7 : decode cX8_draw 7 = .ok (.if_icmp .le 15, 3) := okD_get dqb_21 5 rfl
theorem dX8_draw_10 : decode cX8_draw 10 = .ok (.iload_n 3, 1) := okD_get dqb_21 6 rfl
theorem dX8_draw_11 : decode cX8_draw 11 = .ok (.i2l, 1) := okD_get dqb_21 7 rfl
theorem dX8_draw_12 : decode cX8_draw 12 = .ok (.lconst 0, 1) := okD_get dqb_21 8 rfl
theorem dX8_draw_13 : decode cX8_draw 13 = .ok (.ldc2_w 127, 3) := okD_get dqb_21 9 rfl
theorem dX8_draw_16 : decode cX8_draw 16 = .ok (.invokestatic 86, 3) := okD_get dqb_21 10 rfl
theorem dX8_draw_19 : decode cX8_draw 19 = .ok (.ifCond .ne 9, 3) := okD_get dqb_21 11 rfl
theorem dX8_draw_22 : decode cX8_draw 22 = .ok (.aload_n 0, 1) := okD_get dqb_21 12 rfl
theorem dX8_draw_23 : decode cX8_draw 23 = .ok (.iconst (-1), 1) := okD_get dqb_21 13 rfl
theorem dX8_draw_24 : decode cX8_draw 24 = .ok (.invokevirtual 101, 3) := okD_get dqb_21 14 rfl
theorem dX8_draw_27 : decode cX8_draw 27 = .ok (.ireturn, 1) := okD_get dqb_21 15 rfl
theorem dX8_draw_28 : decode cX8_draw 28 = .ok (.aload_n 0, 1) := okD_get dqb_21 16 rfl
theorem dX8_draw_29 : decode cX8_draw 29 = .ok (.iload_n 1, 1) := okD_get dqb_21 17 rfl
theorem dX8_draw_30 : decode cX8_draw 30 = .ok (.invokevirtual 124, 3) := okD_get dqb_21 18 rfl
theorem dX8_draw_33 : decode cX8_draw 33 = .ok (.ifCond .eq 11, 3) := okD_get dqb_21 19 rfl
theorem dX8_draw_36 : decode cX8_draw 36 = .ok (.aload_n 0, 1) := okD_get dqb_21 20 rfl
theorem dX8_draw_37 : decode cX8_draw 37 = .ok (.iload_n 2, 1) := okD_get dqb_21 21 rfl
theorem dX8_draw_38 : decode cX8_draw 38 = .ok (.invokevirtual 124, 3) := okD_get dqb_21 22 rfl
theorem dX8_draw_41 : decode cX8_draw 41 = .ok (.ifCond .ne 10, 3) := okD_get dqb_21 23 rfl
theorem dX8_draw_44 : decode cX8_draw 44 = .ok (.aload_n 0, 1) := okD_get dqb_21 24 rfl
theorem dX8_draw_45 : decode cX8_draw 45 = .ok (.bipush (-2), 2) := okD_get dqb_21 25 rfl
theorem dX8_draw_47 : decode cX8_draw 47 = .ok (.invokevirtual 101, 3) := okD_get dqb_21 26 rfl
theorem dX8_draw_50 : decode cX8_draw 50 = .ok (.ireturn, 1) := okD_get dqb_21 27 rfl
theorem dX8_draw_51 : decode cX8_draw 51 = .ok (.aload_n 0, 1) := okD_get dqb_21 28 rfl
theorem dX8_draw_52 : decode cX8_draw 52 = .ok (.getfield 34, 3) := okD_get dqb_21 29 rfl
theorem dX8_draw_55 : decode cX8_draw 55 = .ok (.iload_n 1, 1) := okD_get dqb_21 30 rfl
theorem dX8_draw_56 : decode cX8_draw 56 = .ok (.baload, 1) := okD_get dqb_21 31 rfl
theorem dX8_draw_57 : decode cX8_draw 57 = .ok (.ifCond .ne 16, 3) := okD_get dqb_21 32 rfl
theorem dX8_draw_60 : decode cX8_draw 60 = .ok (.aload_n 0, 1) := okD_get dqb_21 33 rfl
theorem dX8_draw_61 : decode cX8_draw 61 = .ok (.getfield 34, 3) := okD_get dqb_21 34 rfl
theorem dX8_draw_64 : decode cX8_draw 64 = .ok (.iload_n 2, 1) := okD_get dqb_21 35 rfl
theorem dX8_draw_65 : decode cX8_draw 65 = .ok (.baload, 1) := okD_get dqb_21 36 rfl
theorem dX8_draw_66 : decode cX8_draw 66 = .ok (.ifCond .ne 7, 3) := okD_get dqb_21 37 rfl
theorem dX8_draw_69 : decode cX8_draw 69 = .ok (.iconst 1, 1) := okD_get dqb_21 38 rfl
theorem dX8_draw_70 : decode cX8_draw 70 = .ok (.goto 4, 3) := okD_get dqb_21 39 rfl
theorem dqb_22 : okD cX8_draw [(73, (.iconst 0, 1)), (74, (.istore 4, 2)), (76, (.lconst 0, 1)), (77, (.lstore 5, 2)), (79, (.iload_n 1, 1)), (80, (.istore 7, 2)), (82, (.iload 7, 2)), (84, (.iload_n 2, 1)), (85, (.if_icmp .ge 50, 3)), (88, (.iload 4, 2)), (90, (.ifCond .eq 23, 3)), (93, (.iload 7, 2)), (95, (.iload_n 1, 1)), (96, (.if_icmp .eq 13, 3)), (99, (.aload_n 0, 1)), (100, (.getfield 34, 3)), (103, (.iload 7, 2)), (105, (.baload, 1)), (106, (.ifCond .eq 7, 3)), (109, (.iconst 1, 1)), (110, (.goto 4, 3)), (113, (.iconst 0, 1)), (114, (.istore 4, 2)), (116, (.lload 5, 2)), (118, (.aload_n 0, 1)), (119, (.getfield 22, 3)), (122, (.iload 7, 2)), (124, (.iaload, 1)), (125, (.i2l, 1)), (126, (.ladd, 1)), (127, (.lstore 5, 2)), (129, (.iinc 7 1, 3)), (132, (.goto (-50), 3)), (135, (.iload 4, 2)), (137, (.ifCond .ne 10, 3)), (140, (.aload_n 0, 1)), (141, (.bipush (-3), 2)), (143, (.invokevirtual 101, 3)), (146, (.ireturn, 1)), (147, (.iload_n 3, 1))] = true := by decide +kernel
theorem dX8_draw_73 : decode cX8_draw 73 = .ok (.iconst 0, 1) := okD_get dqb_22 0 rfl
theorem dX8_draw_74 : decode cX8_draw 74 = .ok (.istore 4, 2) := okD_get dqb_22 1 rfl
theorem dX8_draw_76 : decode cX8_draw 76 = .ok (.lconst 0, 1) := okD_get dqb_22 2 rfl
theorem dX8_draw_77 : decode cX8_draw 77 = .ok (.lstore 5, 2) := okD_get dqb_22 3 rfl
theorem dX8_draw_79 : decode cX8_draw 79 = .ok (.iload_n 1, 1) := okD_get dqb_22 4 rfl
theorem dX8_draw_80 : decode cX8_draw 80 = .ok (.istore 7, 2) := okD_get dqb_22 5 rfl
theorem dX8_draw_82 : decode cX8_draw 82 = .ok (.iload 7, 2) := okD_get dqb_22 6 rfl
theorem dX8_draw_84 : decode cX8_draw 84 = .ok (.iload_n 2, 1) := okD_get dqb_22 7 rfl
theorem dX8_draw_85 : decode cX8_draw 85 = .ok (.if_icmp .ge 50, 3) := okD_get dqb_22 8 rfl
theorem dX8_draw_88 : decode cX8_draw 88 = .ok (.iload 4, 2) := okD_get dqb_22 9 rfl
theorem dX8_draw_90 : decode cX8_draw 90 = .ok (.ifCond .eq 23, 3) := okD_get dqb_22 10 rfl
theorem dX8_draw_93 : decode cX8_draw 93 = .ok (.iload 7, 2) := okD_get dqb_22 11 rfl
theorem dX8_draw_95 : decode cX8_draw 95 = .ok (.iload_n 1, 1) := okD_get dqb_22 12 rfl
theorem dX8_draw_96 : decode cX8_draw 96 = .ok (.if_icmp .eq 13, 3) := okD_get dqb_22 13 rfl
theorem dX8_draw_99 : decode cX8_draw 99 = .ok (.aload_n 0, 1) := okD_get dqb_22 14 rfl
theorem dX8_draw_100 : decode cX8_draw 100 = .ok (.getfield 34, 3) := okD_get dqb_22 15 rfl
theorem dX8_draw_103 : decode cX8_draw 103 = .ok (.iload 7, 2) := okD_get dqb_22 16 rfl
theorem dX8_draw_105 : decode cX8_draw 105 = .ok (.baload, 1) := okD_get dqb_22 17 rfl
theorem dX8_draw_106 : decode cX8_draw 106 = .ok (.ifCond .eq 7, 3) := okD_get dqb_22 18 rfl
theorem dX8_draw_109 : decode cX8_draw 109 = .ok (.iconst 1, 1) := okD_get dqb_22 19 rfl
theorem dX8_draw_110 : decode cX8_draw 110 = .ok (.goto 4, 3) := okD_get dqb_22 20 rfl
theorem dX8_draw_113 : decode cX8_draw 113 = .ok (.iconst 0, 1) := okD_get dqb_22 21 rfl
theorem dX8_draw_114 : decode cX8_draw 114 = .ok (.istore 4, 2) := okD_get dqb_22 22 rfl
theorem dX8_draw_116 : decode cX8_draw 116 = .ok (.lload 5, 2) := okD_get dqb_22 23 rfl
theorem dX8_draw_118 : decode cX8_draw 118 = .ok (.aload_n 0, 1) := okD_get dqb_22 24 rfl
theorem dX8_draw_119 : decode cX8_draw 119 = .ok (.getfield 22, 3) := okD_get dqb_22 25 rfl
theorem dX8_draw_122 : decode cX8_draw 122 = .ok (.iload 7, 2) := okD_get dqb_22 26 rfl
theorem dX8_draw_124 : decode cX8_draw 124 = .ok (.iaload, 1) := okD_get dqb_22 27 rfl
theorem dX8_draw_125 : decode cX8_draw 125 = .ok (.i2l, 1) := okD_get dqb_22 28 rfl
theorem dX8_draw_126 : decode cX8_draw 126 = .ok (.ladd, 1) := okD_get dqb_22 29 rfl
theorem dX8_draw_127 : decode cX8_draw 127 = .ok (.lstore 5, 2) := okD_get dqb_22 30 rfl
theorem dX8_draw_129 : decode cX8_draw 129 = .ok (.iinc 7 1, 3) := okD_get dqb_22 31 rfl
theorem dX8_draw_132 : decode cX8_draw 132 = .ok (.goto (-50), 3) := okD_get dqb_22 32 rfl
theorem dX8_draw_135 : decode cX8_draw 135 = .ok (.iload 4, 2) := okD_get dqb_22 33 rfl
theorem dX8_draw_137 : decode cX8_draw 137 = .ok (.ifCond .ne 10, 3) := okD_get dqb_22 34 rfl
theorem dX8_draw_140 : decode cX8_draw 140 = .ok (.aload_n 0, 1) := okD_get dqb_22 35 rfl
theorem dX8_draw_141 : decode cX8_draw 141 = .ok (.bipush (-3), 2) := okD_get dqb_22 36 rfl
theorem dX8_draw_143 : decode cX8_draw 143 = .ok (.invokevirtual 101, 3) := okD_get dqb_22 37 rfl
theorem dX8_draw_146 : decode cX8_draw 146 = .ok (.ireturn, 1) := okD_get dqb_22 38 rfl
theorem dX8_draw_147 : decode cX8_draw 147 = .ok (.iload_n 3, 1) := okD_get dqb_22 39 rfl
theorem dqb_23 : okD cX8_draw [(148, (.i2l, 1)), (149, (.lstore 7, 2)), (151, (.iload_n 1, 1)), (152, (.istore 9, 2)), (154, (.iload 9, 2)), (156, (.iload_n 2, 1)), (157, (.if_icmp .ge 44, 3)), (160, (.aload_n 0, 1)), (161, (.getfield 25, 3)), (164, (.iload 9, 2)), (166, (.iload_n 3, 1)), (167, (.i2l, 1)), (168, (.aload_n 0, 1)), (169, (.getfield 22, 3)), (172, (.iload 9, 2)), (174, (.iaload, 1)), (175, (.i2l, 1)), (176, (.lmul, 1)), (177, (.lload 5, 2)), (179, (.ldiv, 1)), (180, (.l2i, 1)), (181, (.iastore, 1)), (182, (.lload 7, 2)), (184, (.aload_n 0, 1)), (185, (.getfield 25, 3)), (188, (.iload 9, 2)), (190, (.iaload, 1)), (191, (.i2l, 1)), (192, (.lsub, 1)), (193, (.lstore 7, 2)), (195, (.iinc 9 1, 3)), (198, (.goto (-44), 3)), (201, (.iload_n 1, 1)), (202, (.istore 9, 2)), (204, (.iload 9, 2)), (206, (.iload_n 2, 1)), (207, (.if_icmp .ge 124, 3)), (210, (.iload_n 3, 1)), (211, (.i2l, 1)), (212, (.aload_n 0, 1))] = true := by decide +kernel
theorem dX8_draw_148 : decode cX8_draw 148 = .ok (.i2l, 1) := okD_get dqb_23 0 rfl
theorem dX8_draw_149 : decode cX8_draw 149 = .ok (.lstore 7, 2) := okD_get dqb_23 1 rfl
theorem dX8_draw_151 : decode cX8_draw 151 = .ok (.iload_n 1, 1) := okD_get dqb_23 2 rfl
theorem dX8_draw_152 : decode cX8_draw 152 = .ok (.istore 9, 2) := okD_get dqb_23 3 rfl
theorem dX8_draw_154 : decode cX8_draw 154 = .ok (.iload 9, 2) := okD_get dqb_23 4 rfl
theorem dX8_draw_156 : decode cX8_draw 156 = .ok (.iload_n 2, 1) := okD_get dqb_23 5 rfl
theorem dX8_draw_157 : decode cX8_draw 157 = .ok (.if_icmp .ge 44, 3) := okD_get dqb_23 6 rfl
theorem dX8_draw_160 : decode cX8_draw 160 = .ok (.aload_n 0, 1) := okD_get dqb_23 7 rfl
theorem dX8_draw_161 : decode cX8_draw 161 = .ok (.getfield 25, 3) := okD_get dqb_23 8 rfl
theorem dX8_draw_164 : decode cX8_draw 164 = .ok (.iload 9, 2) := okD_get dqb_23 9 rfl
theorem dX8_draw_166 : decode cX8_draw 166 = .ok (.iload_n 3, 1) := okD_get dqb_23 10 rfl
theorem dX8_draw_167 : decode cX8_draw 167 = .ok (.i2l, 1) := okD_get dqb_23 11 rfl
theorem dX8_draw_168 : decode cX8_draw 168 = .ok (.aload_n 0, 1) := okD_get dqb_23 12 rfl
theorem dX8_draw_169 : decode cX8_draw 169 = .ok (.getfield 22, 3) := okD_get dqb_23 13 rfl
theorem dX8_draw_172 : decode cX8_draw 172 = .ok (.iload 9, 2) := okD_get dqb_23 14 rfl
theorem dX8_draw_174 : decode cX8_draw 174 = .ok (.iaload, 1) := okD_get dqb_23 15 rfl
theorem dX8_draw_175 : decode cX8_draw 175 = .ok (.i2l, 1) := okD_get dqb_23 16 rfl
theorem dX8_draw_176 : decode cX8_draw 176 = .ok (.lmul, 1) := okD_get dqb_23 17 rfl
theorem dX8_draw_177 : decode cX8_draw 177 = .ok (.lload 5, 2) := okD_get dqb_23 18 rfl
theorem dX8_draw_179 : decode cX8_draw 179 = .ok (.ldiv, 1) := okD_get dqb_23 19 rfl
theorem dX8_draw_180 : decode cX8_draw 180 = .ok (.l2i, 1) := okD_get dqb_23 20 rfl
theorem dX8_draw_181 : decode cX8_draw 181 = .ok (.iastore, 1) := okD_get dqb_23 21 rfl
theorem dX8_draw_182 : decode cX8_draw 182 = .ok (.lload 7, 2) := okD_get dqb_23 22 rfl
theorem dX8_draw_184 : decode cX8_draw 184 = .ok (.aload_n 0, 1) := okD_get dqb_23 23 rfl
theorem dX8_draw_185 : decode cX8_draw 185 = .ok (.getfield 25, 3) := okD_get dqb_23 24 rfl
theorem dX8_draw_188 : decode cX8_draw 188 = .ok (.iload 9, 2) := okD_get dqb_23 25 rfl
theorem dX8_draw_190 : decode cX8_draw 190 = .ok (.iaload, 1) := okD_get dqb_23 26 rfl
theorem dX8_draw_191 : decode cX8_draw 191 = .ok (.i2l, 1) := okD_get dqb_23 27 rfl
theorem dX8_draw_192 : decode cX8_draw 192 = .ok (.lsub, 1) := okD_get dqb_23 28 rfl
theorem dX8_draw_193 : decode cX8_draw 193 = .ok (.lstore 7, 2) := okD_get dqb_23 29 rfl
theorem dX8_draw_195 : decode cX8_draw 195 = .ok (.iinc 9 1, 3) := okD_get dqb_23 30 rfl
theorem dX8_draw_198 : decode cX8_draw 198 = .ok (.goto (-44), 3) := okD_get dqb_23 31 rfl
theorem dX8_draw_201 : decode cX8_draw 201 = .ok (.iload_n 1, 1) := okD_get dqb_23 32 rfl
theorem dX8_draw_202 : decode cX8_draw 202 = .ok (.istore 9, 2) := okD_get dqb_23 33 rfl
theorem dX8_draw_204 : decode cX8_draw 204 = .ok (.iload 9, 2) := okD_get dqb_23 34 rfl
theorem dX8_draw_206 : decode cX8_draw 206 = .ok (.iload_n 2, 1) := okD_get dqb_23 35 rfl
theorem dX8_draw_207 : decode cX8_draw 207 = .ok (.if_icmp .ge 124, 3) := okD_get dqb_23 36 rfl
theorem dX8_draw_210 : decode cX8_draw 210 = .ok (.iload_n 3, 1) := okD_get dqb_23 37 rfl
theorem dX8_draw_211 : decode cX8_draw 211 = .ok (.i2l, 1) := okD_get dqb_23 38 rfl
theorem dX8_draw_212 : decode cX8_draw 212 = .ok (.aload_n 0, 1) := okD_get dqb_23 39 rfl
theorem dqb_24 : okD cX8_draw [(213, (.getfield 22, 3)), (216, (.iload 9, 2)), (218, (.iaload, 1)), (219, (.i2l, 1)), (220, (.lmul, 1)), (221, (.lload 5, 2)), (223, (.lrem, 1)), (224, (.lstore 10, 2)), (226, (.iconst 0, 1)), (227, (.istore 12, 2)), (229, (.iload_n 1, 1)), (230, (.istore 13, 2)), (232, (.iload 13, 2)), (234, (.iload_n 2, 1)), (235, (.if_icmp .ge 58, 3)), (238, (.iload_n 3, 1)), (239, (.i2l, 1)), (240, (.aload_n 0, 1)), (241, (.getfield 22, 3)), (244, (.iload 13, 2)), (246, (.iaload, 1)), (247, (.i2l, 1)), (248, (.lmul, 1)), (249, (.lload 5, 2)), (251, (.lrem, 1)), (252, (.lstore 14, 2)), (254, (.iload 12, 2)), (256, (.lload 14, 2)), (258, (.lload 10, 2)), (260, (.lcmp, 1)), (261, (.ifCond .gt 18, 3)), (264, (.lload 14, 2)), (266, (.lload 10, 2)), (268, (.lcmp, 1)), (269, (.ifCond .ne 14, 3)), (272, (.iload 13, 2)), (274, (.iload 9, 2)), (276, (.if_icmp .ge 7, 3)), (279, (.iconst 1, 1)), (280, (.goto 4, 3))] = true := by decide +kernel
theorem dX8_draw_213 : decode cX8_draw 213 = .ok (.getfield 22, 3) := okD_get dqb_24 0 rfl
theorem dX8_draw_216 : decode cX8_draw 216 = .ok (.iload 9, 2) := okD_get dqb_24 1 rfl
theorem dX8_draw_218 : decode cX8_draw 218 = .ok (.iaload, 1) := okD_get dqb_24 2 rfl
theorem dX8_draw_219 : decode cX8_draw 219 = .ok (.i2l, 1) := okD_get dqb_24 3 rfl
theorem dX8_draw_220 : decode cX8_draw 220 = .ok (.lmul, 1) := okD_get dqb_24 4 rfl
theorem dX8_draw_221 : decode cX8_draw 221 = .ok (.lload 5, 2) := okD_get dqb_24 5 rfl
theorem dX8_draw_223 : decode cX8_draw 223 = .ok (.lrem, 1) := okD_get dqb_24 6 rfl
theorem dX8_draw_224 : decode cX8_draw 224 = .ok (.lstore 10, 2) := okD_get dqb_24 7 rfl
theorem dX8_draw_226 : decode cX8_draw 226 = .ok (.iconst 0, 1) := okD_get dqb_24 8 rfl
theorem dX8_draw_227 : decode cX8_draw 227 = .ok (.istore 12, 2) := okD_get dqb_24 9 rfl
theorem dX8_draw_229 : decode cX8_draw 229 = .ok (.iload_n 1, 1) := okD_get dqb_24 10 rfl
theorem dX8_draw_230 : decode cX8_draw 230 = .ok (.istore 13, 2) := okD_get dqb_24 11 rfl
theorem dX8_draw_232 : decode cX8_draw 232 = .ok (.iload 13, 2) := okD_get dqb_24 12 rfl
theorem dX8_draw_234 : decode cX8_draw 234 = .ok (.iload_n 2, 1) := okD_get dqb_24 13 rfl
theorem dX8_draw_235 : decode cX8_draw 235 = .ok (.if_icmp .ge 58, 3) := okD_get dqb_24 14 rfl
theorem dX8_draw_238 : decode cX8_draw 238 = .ok (.iload_n 3, 1) := okD_get dqb_24 15 rfl
theorem dX8_draw_239 : decode cX8_draw 239 = .ok (.i2l, 1) := okD_get dqb_24 16 rfl
theorem dX8_draw_240 : decode cX8_draw 240 = .ok (.aload_n 0, 1) := okD_get dqb_24 17 rfl
theorem dX8_draw_241 : decode cX8_draw 241 = .ok (.getfield 22, 3) := okD_get dqb_24 18 rfl
theorem dX8_draw_244 : decode cX8_draw 244 = .ok (.iload 13, 2) := okD_get dqb_24 19 rfl
theorem dX8_draw_246 : decode cX8_draw 246 = .ok (.iaload, 1) := okD_get dqb_24 20 rfl
theorem dX8_draw_247 : decode cX8_draw 247 = .ok (.i2l, 1) := okD_get dqb_24 21 rfl
theorem dX8_draw_248 : decode cX8_draw 248 = .ok (.lmul, 1) := okD_get dqb_24 22 rfl
theorem dX8_draw_249 : decode cX8_draw 249 = .ok (.lload 5, 2) := okD_get dqb_24 23 rfl
theorem dX8_draw_251 : decode cX8_draw 251 = .ok (.lrem, 1) := okD_get dqb_24 24 rfl
theorem dX8_draw_252 : decode cX8_draw 252 = .ok (.lstore 14, 2) := okD_get dqb_24 25 rfl
theorem dX8_draw_254 : decode cX8_draw 254 = .ok (.iload 12, 2) := okD_get dqb_24 26 rfl
theorem dX8_draw_256 : decode cX8_draw 256 = .ok (.lload 14, 2) := okD_get dqb_24 27 rfl
theorem dX8_draw_258 : decode cX8_draw 258 = .ok (.lload 10, 2) := okD_get dqb_24 28 rfl
theorem dX8_draw_260 : decode cX8_draw 260 = .ok (.lcmp, 1) := okD_get dqb_24 29 rfl
theorem dX8_draw_261 : decode cX8_draw 261 = .ok (.ifCond .gt 18, 3) := okD_get dqb_24 30 rfl
theorem dX8_draw_264 : decode cX8_draw 264 = .ok (.lload 14, 2) := okD_get dqb_24 31 rfl
theorem dX8_draw_266 : decode cX8_draw 266 = .ok (.lload 10, 2) := okD_get dqb_24 32 rfl
theorem dX8_draw_268 : decode cX8_draw 268 = .ok (.lcmp, 1) := okD_get dqb_24 33 rfl
theorem dX8_draw_269 : decode cX8_draw 269 = .ok (.ifCond .ne 14, 3) := okD_get dqb_24 34 rfl
theorem dX8_draw_272 : decode cX8_draw 272 = .ok (.iload 13, 2) := okD_get dqb_24 35 rfl
theorem dX8_draw_274 : decode cX8_draw 274 = .ok (.iload 9, 2) := okD_get dqb_24 36 rfl
theorem dX8_draw_276 : decode cX8_draw 276 = .ok (.if_icmp .ge 7, 3) := okD_get dqb_24 37 rfl
theorem dX8_draw_279 : decode cX8_draw 279 = .ok (.iconst 1, 1) := okD_get dqb_24 38 rfl
theorem dX8_draw_280 : decode cX8_draw 280 = .ok (.goto 4, 3) := okD_get dqb_24 39 rfl
theorem dqb_25 : okD cX8_draw [(283, (.iconst 0, 1)), (284, (.iadd, 1)), (285, (.istore 12, 2)), (287, (.iinc 13 1, 3)), (290, (.goto (-58), 3)), (293, (.aload_n 0, 1)), (294, (.getfield 25, 3)), (297, (.iload 9, 2)), (299, (.dup2, 1)), (300, (.iaload, 1)), (301, (.iload 12, 2)), (303, (.i2l, 1)), (304, (.lload 7, 2)), (306, (.lcmp, 1)), (307, (.ifCond .ge 7, 3)), (310, (.iconst 1, 1)), (311, (.goto 4, 3)), (314, (.iconst 0, 1)), (315, (.iadd, 1)), (316, (.iastore, 1)), (317, (.aload_n 0, 1)), (318, (.getfield 34, 3)), (321, (.iload 9, 2)), (323, (.iconst 0, 1)), (324, (.bastore, 1)), (325, (.iinc 9 1, 3)), (328, (.goto (-124), 3)), (331, (.aload_n 0, 1)), (332, (.iload_n 2, 1)), (333, (.iload_n 1, 1)), (334, (.isub, 1)), (335, (.iconst 1, 1)), (336, (.isub, 1)), (337, (.invokevirtual 101, 3)), (340, (.ireturn, 1))] = true := by decide +kernel
theorem dX8_draw_283 : decode cX8_draw 283 = .ok (.iconst 0, 1) := okD_get dqb_25 0 rfl
theorem dX8_draw_284 : decode cX8_draw 284 = .ok (.iadd, 1) := okD_get dqb_25 1 rfl
theorem dX8_draw_285 : decode cX8_draw 285 = .ok (.istore 12, 2) := okD_get dqb_25 2 rfl
theorem dX8_draw_287 : decode cX8_draw 287 = .ok (.iinc 13 1, 3) := okD_get dqb_25 3 rfl
theorem dX8_draw_290 : decode cX8_draw 290 = .ok (.goto (-58), 3) := okD_get dqb_25 4 rfl
theorem dX8_draw_293 : decode cX8_draw 293 = .ok (.aload_n 0, 1) := okD_get dqb_25 5 rfl
theorem dX8_draw_294 : decode cX8_draw 294 = .ok (.getfield 25, 3) := okD_get dqb_25 6 rfl
theorem dX8_draw_297 : decode cX8_draw 297 = .ok (.iload 9, 2) := okD_get dqb_25 7 rfl
theorem dX8_draw_299 : decode cX8_draw 299 = .ok (.dup2, 1) := okD_get dqb_25 8 rfl
theorem dX8_draw_300 : decode cX8_draw 300 = .ok (.iaload, 1) := okD_get dqb_25 9 rfl
theorem dX8_draw_301 : decode cX8_draw 301 = .ok (.iload 12, 2) := okD_get dqb_25 10 rfl
theorem dX8_draw_303 : decode cX8_draw 303 = .ok (.i2l, 1) := okD_get dqb_25 11 rfl
theorem dX8_draw_304 : decode cX8_draw 304 = .ok (.lload 7, 2) := okD_get dqb_25 12 rfl
theorem dX8_draw_306 : decode cX8_draw 306 = .ok (.lcmp, 1) := okD_get dqb_25 13 rfl
theorem dX8_draw_307 : decode cX8_draw 307 = .ok (.ifCond .ge 7, 3) := okD_get dqb_25 14 rfl
theorem dX8_draw_310 : decode cX8_draw 310 = .ok (.iconst 1, 1) := okD_get dqb_25 15 rfl
theorem dX8_draw_311 : decode cX8_draw 311 = .ok (.goto 4, 3) := okD_get dqb_25 16 rfl
theorem dX8_draw_314 : decode cX8_draw 314 = .ok (.iconst 0, 1) := okD_get dqb_25 17 rfl
theorem dX8_draw_315 : decode cX8_draw 315 = .ok (.iadd, 1) := okD_get dqb_25 18 rfl
theorem dX8_draw_316 : decode cX8_draw 316 = .ok (.iastore, 1) := okD_get dqb_25 19 rfl
theorem dX8_draw_317 : decode cX8_draw 317 = .ok (.aload_n 0, 1) := okD_get dqb_25 20 rfl
theorem dX8_draw_318 : decode cX8_draw 318 = .ok (.getfield 34, 3) := okD_get dqb_25 21 rfl
theorem dX8_draw_321 : decode cX8_draw 321 = .ok (.iload 9, 2) := okD_get dqb_25 22 rfl
theorem dX8_draw_323 : decode cX8_draw 323 = .ok (.iconst 0, 1) := okD_get dqb_25 23 rfl
theorem dX8_draw_324 : decode cX8_draw 324 = .ok (.bastore, 1) := okD_get dqb_25 24 rfl
theorem dX8_draw_325 : decode cX8_draw 325 = .ok (.iinc 9 1, 3) := okD_get dqb_25 25 rfl
theorem dX8_draw_328 : decode cX8_draw 328 = .ok (.goto (-124), 3) := okD_get dqb_25 26 rfl
theorem dX8_draw_331 : decode cX8_draw 331 = .ok (.aload_n 0, 1) := okD_get dqb_25 27 rfl
theorem dX8_draw_332 : decode cX8_draw 332 = .ok (.iload_n 2, 1) := okD_get dqb_25 28 rfl
theorem dX8_draw_333 : decode cX8_draw 333 = .ok (.iload_n 1, 1) := okD_get dqb_25 29 rfl
theorem dX8_draw_334 : decode cX8_draw 334 = .ok (.isub, 1) := okD_get dqb_25 30 rfl
theorem dX8_draw_335 : decode cX8_draw 335 = .ok (.iconst 1, 1) := okD_get dqb_25 31 rfl
theorem dX8_draw_336 : decode cX8_draw 336 = .ok (.isub, 1) := okD_get dqb_25 32 rfl
theorem dX8_draw_337 : decode cX8_draw 337 = .ok (.invokevirtual 101, 3) := okD_get dqb_25 33 rfl
theorem dX8_draw_340 : decode cX8_draw 340 = .ok (.ireturn, 1) := okD_get dqb_25 34 rfl
theorem dqb_26 : okD cX8_stands [(0, (.aload_n 0, 1)), (1, (.iconst 0, 1)), (2, (.putfield 78, 3)), (5, (.aload_n 0, 1)), (6, (.iload_n 1, 1)), (7, (.invokevirtual 124, 3)), (10, (.ifCond .eq 20, 3)), (13, (.aload_n 0, 1)), (14, (.getfield 34, 3)), (17, (.iload_n 1, 1)), (18, (.baload, 1)), (19, (.ifCond .eq 7, 3)), (22, (.iconst 0, 1)), (23, (.goto 8, 3)), (26, (.iconst 1, 1)), (27, (.goto 4, 3)), (30, (.iconst (-1), 1)), (31, (.ireturn, 1))] = true := by decide +kernel
theorem dX8_stands_0 : decode cX8_stands 0 = .ok (.aload_n 0, 1) := okD_get dqb_26 0 rfl
theorem dX8_stands_1 : decode cX8_stands 1 = .ok (.iconst 0, 1) := okD_get dqb_26 1 rfl
theorem dX8_stands_2 : decode cX8_stands 2 = .ok (.putfield 78, 3) := okD_get dqb_26 2 rfl
theorem dX8_stands_5 : decode cX8_stands 5 = .ok (.aload_n 0, 1) := okD_get dqb_26 3 rfl
theorem dX8_stands_6 : decode cX8_stands 6 = .ok (.iload_n 1, 1) := okD_get dqb_26 4 rfl
theorem dX8_stands_7 : decode cX8_stands 7 = .ok (.invokevirtual 124, 3) := okD_get dqb_26 5 rfl
theorem dX8_stands_10 : decode cX8_stands 10 = .ok (.ifCond .eq 20, 3) := okD_get dqb_26 6 rfl
theorem dX8_stands_13 : decode cX8_stands 13 = .ok (.aload_n 0, 1) := okD_get dqb_26 7 rfl
theorem dX8_stands_14 : decode cX8_stands 14 = .ok (.getfield 34, 3) := okD_get dqb_26 8 rfl
theorem dX8_stands_17 : decode cX8_stands 17 = .ok (.iload_n 1, 1) := okD_get dqb_26 9 rfl
theorem dX8_stands_18 : decode cX8_stands 18 = .ok (.baload, 1) := okD_get dqb_26 10 rfl
theorem dX8_stands_19 : decode cX8_stands 19 = .ok (.ifCond .eq 7, 3) := okD_get dqb_26 11 rfl
theorem dX8_stands_22 : decode cX8_stands 22 = .ok (.iconst 0, 1) := okD_get dqb_26 12 rfl
theorem dX8_stands_23 : decode cX8_stands 23 = .ok (.goto 8, 3) := okD_get dqb_26 13 rfl
theorem dX8_stands_26 : decode cX8_stands 26 = .ok (.iconst 1, 1) := okD_get dqb_26 14 rfl
theorem dX8_stands_27 : decode cX8_stands 27 = .ok (.goto 4, 3) := okD_get dqb_26 15 rfl
theorem dX8_stands_30 : decode cX8_stands 30 = .ok (.iconst (-1), 1) := okD_get dqb_26 16 rfl
theorem dX8_stands_31 : decode cX8_stands 31 = .ok (.ireturn, 1) := okD_get dqb_26 17 rfl
theorem dqb_27 : okD cX8_table [(0, (.aload_n 0, 1)), (1, (.iconst 0, 1)), (2, (.putfield 78, 3)), (5, (.iload_n 1, 1)), (6, (.i2l, 1)), (7, (.lconst 0, 1)), (8, (.ldc2_w 129, 3)), (11, (.invokestatic 86, 3)), (14, (.ifCond .eq 27, 3)), (17, (.iload_n 2, 1)), (18, (.i2l, 1)), (19, (.lconst 0, 1)), (20, (.ldc2_w 131, 3)), (23, (.invokestatic 86, 3)), (26, (.ifCond .eq 15, 3)), (29, (.iload_n 3, 1)), (30, (.i2l, 1)), (31, (.lconst 0, 1)), (32, (.ldc2_w 133, 3)), (35, (.invokestatic 86, 3)), (38, (.ifCond .ne 9, 3)), (41, (.aload_n 0, 1)), (42, (.iconst (-1), 1)), (43, (.invokevirtual 101, 3)), (46, (.ireturn, 1)), (47, (.aload_n 0, 1)), (48, (.getfield 38, 3)), (51, (.iload_n 1, 1)), (52, (.iload_n 2, 1)), (53, (.iastore, 1)), (54, (.aload_n 0, 1)), (55, (.getfield 41, 3)), (58, (.iload_n 1, 1)), (59, (.iload_n 3, 1)), (60, (.iastore, 1)), (61, (.aload_n 0, 1)), (62, (.iconst 0, 1)), (63, (.invokevirtual 101, 3)), (66, (.ireturn, 1))] = true := by decide +kernel
theorem dX8_table_0 : decode cX8_table 0 = .ok (.aload_n 0, 1) := okD_get dqb_27 0 rfl
theorem dX8_table_1 : decode cX8_table 1 = .ok (.iconst 0, 1) := okD_get dqb_27 1 rfl
theorem dX8_table_2 : decode cX8_table 2 = .ok (.putfield 78, 3) := okD_get dqb_27 2 rfl
theorem dX8_table_5 : decode cX8_table 5 = .ok (.iload_n 1, 1) := okD_get dqb_27 3 rfl
theorem dX8_table_6 : decode cX8_table 6 = .ok (.i2l, 1) := okD_get dqb_27 4 rfl
theorem dX8_table_7 : decode cX8_table 7 = .ok (.lconst 0, 1) := okD_get dqb_27 5 rfl
theorem dX8_table_8 : decode cX8_table 8 = .ok (.ldc2_w 129, 3) := okD_get dqb_27 6 rfl
theorem dX8_table_11 : decode cX8_table 11 = .ok (.invokestatic 86, 3) := okD_get dqb_27 7 rfl
theorem dX8_table_14 : decode cX8_table 14 = .ok (.ifCond .eq 27, 3) := okD_get dqb_27 8 rfl
theorem dX8_table_17 : decode cX8_table 17 = .ok (.iload_n 2, 1) := okD_get dqb_27 9 rfl
theorem dX8_table_18 : decode cX8_table 18 = .ok (.i2l, 1) := okD_get dqb_27 10 rfl
theorem dX8_table_19 : decode cX8_table 19 = .ok (.lconst 0, 1) := okD_get dqb_27 11 rfl
theorem dX8_table_20 : decode cX8_table 20 = .ok (.ldc2_w 131, 3) := okD_get dqb_27 12 rfl
theorem dX8_table_23 : decode cX8_table 23 = .ok (.invokestatic 86, 3) := okD_get dqb_27 13 rfl
theorem dX8_table_26 : decode cX8_table 26 = .ok (.ifCond .eq 15, 3) := okD_get dqb_27 14 rfl
theorem dX8_table_29 : decode cX8_table 29 = .ok (.iload_n 3, 1) := okD_get dqb_27 15 rfl
theorem dX8_table_30 : decode cX8_table 30 = .ok (.i2l, 1) := okD_get dqb_27 16 rfl
theorem dX8_table_31 : decode cX8_table 31 = .ok (.lconst 0, 1) := okD_get dqb_27 17 rfl
theorem dX8_table_32 : decode cX8_table 32 = .ok (.ldc2_w 133, 3) := okD_get dqb_27 18 rfl
theorem dX8_table_35 : decode cX8_table 35 = .ok (.invokestatic 86, 3) := okD_get dqb_27 19 rfl
theorem dX8_table_38 : decode cX8_table 38 = .ok (.ifCond .ne 9, 3) := okD_get dqb_27 20 rfl
theorem dX8_table_41 : decode cX8_table 41 = .ok (.aload_n 0, 1) := okD_get dqb_27 21 rfl
theorem dX8_table_42 : decode cX8_table 42 = .ok (.iconst (-1), 1) := okD_get dqb_27 22 rfl
theorem dX8_table_43 : decode cX8_table 43 = .ok (.invokevirtual 101, 3) := okD_get dqb_27 23 rfl
theorem dX8_table_46 : decode cX8_table 46 = .ok (.ireturn, 1) := okD_get dqb_27 24 rfl
theorem dX8_table_47 : decode cX8_table 47 = .ok (.aload_n 0, 1) := okD_get dqb_27 25 rfl
theorem dX8_table_48 : decode cX8_table 48 = .ok (.getfield 38, 3) := okD_get dqb_27 26 rfl
theorem dX8_table_51 : decode cX8_table 51 = .ok (.iload_n 1, 1) := okD_get dqb_27 27 rfl
theorem dX8_table_52 : decode cX8_table 52 = .ok (.iload_n 2, 1) := okD_get dqb_27 28 rfl
theorem dX8_table_53 : decode cX8_table 53 = .ok (.iastore, 1) := okD_get dqb_27 29 rfl
theorem dX8_table_54 : decode cX8_table 54 = .ok (.aload_n 0, 1) := okD_get dqb_27 30 rfl
theorem dX8_table_55 : decode cX8_table 55 = .ok (.getfield 41, 3) := okD_get dqb_27 31 rfl
theorem dX8_table_58 : decode cX8_table 58 = .ok (.iload_n 1, 1) := okD_get dqb_27 32 rfl
theorem dX8_table_59 : decode cX8_table 59 = .ok (.iload_n 3, 1) := okD_get dqb_27 33 rfl
theorem dX8_table_60 : decode cX8_table 60 = .ok (.iastore, 1) := okD_get dqb_27 34 rfl
theorem dX8_table_61 : decode cX8_table 61 = .ok (.aload_n 0, 1) := okD_get dqb_27 35 rfl
theorem dX8_table_62 : decode cX8_table 62 = .ok (.iconst 0, 1) := okD_get dqb_27 36 rfl
theorem dX8_table_63 : decode cX8_table 63 = .ok (.invokevirtual 101, 3) := okD_get dqb_27 37 rfl
theorem dX8_table_66 : decode cX8_table 66 = .ok (.ireturn, 1) := okD_get dqb_27 38 rfl
theorem dqb_28 : okD cX8_wetOf [(0, (.iconst 0, 1)), (1, (.istore_n 2, 1)), (2, (.iconst 0, 1)), (3, (.istore_n 3, 1)), (4, (.iload_n 3, 1)), (5, (.bipush 120, 2)), (7, (.if_icmp .ge 32, 3)), (10, (.iload_n 2, 1)), (11, (.aload_n 0, 1)), (12, (.getfield 19, 3)), (15, (.iload_n 3, 1)), (16, (.iaload, 1)), (17, (.aload_n 0, 1)), (18, (.getfield 28, 3)), (21, (.iload_n 1, 1)), (22, (.iaload, 1)), (23, (.if_icmp .lt 7, 3)), (26, (.iconst 1, 1)), (27, (.goto 4, 3)), (30, (.iconst 0, 1)), (31, (.iadd, 1)), (32, (.istore_n 2, 1)), (33, (.iinc 3 1, 3)), (36, (.goto (-32), 3)), (39, (.iload_n 2, 1)), (40, (.ireturn, 1))] = true := by decide +kernel
theorem dX8_wetOf_0 : decode cX8_wetOf 0 = .ok (.iconst 0, 1) := okD_get dqb_28 0 rfl
theorem dX8_wetOf_1 : decode cX8_wetOf 1 = .ok (.istore_n 2, 1) := okD_get dqb_28 1 rfl
theorem dX8_wetOf_2 : decode cX8_wetOf 2 = .ok (.iconst 0, 1) := okD_get dqb_28 2 rfl
theorem dX8_wetOf_3 : decode cX8_wetOf 3 = .ok (.istore_n 3, 1) := okD_get dqb_28 3 rfl
theorem dX8_wetOf_4 : decode cX8_wetOf 4 = .ok (.iload_n 3, 1) := okD_get dqb_28 4 rfl
theorem dX8_wetOf_5 : decode cX8_wetOf 5 = .ok (.bipush 120, 2) := okD_get dqb_28 5 rfl
theorem dX8_wetOf_7 : decode cX8_wetOf 7 = .ok (.if_icmp .ge 32, 3) := okD_get dqb_28 6 rfl
theorem dX8_wetOf_10 : decode cX8_wetOf 10 = .ok (.iload_n 2, 1) := okD_get dqb_28 7 rfl
theorem dX8_wetOf_11 : decode cX8_wetOf 11 = .ok (.aload_n 0, 1) := okD_get dqb_28 8 rfl
theorem dX8_wetOf_12 : decode cX8_wetOf 12 = .ok (.getfield 19, 3) := okD_get dqb_28 9 rfl
theorem dX8_wetOf_15 : decode cX8_wetOf 15 = .ok (.iload_n 3, 1) := okD_get dqb_28 10 rfl
theorem dX8_wetOf_16 : decode cX8_wetOf 16 = .ok (.iaload, 1) := okD_get dqb_28 11 rfl
theorem dX8_wetOf_17 : decode cX8_wetOf 17 = .ok (.aload_n 0, 1) := okD_get dqb_28 12 rfl
theorem dX8_wetOf_18 : decode cX8_wetOf 18 = .ok (.getfield 28, 3) := okD_get dqb_28 13 rfl
theorem dX8_wetOf_21 : decode cX8_wetOf 21 = .ok (.iload_n 1, 1) := okD_get dqb_28 14 rfl
theorem dX8_wetOf_22 : decode cX8_wetOf 22 = .ok (.iaload, 1) := okD_get dqb_28 15 rfl
theorem dX8_wetOf_23 : decode cX8_wetOf 23 = .ok (.if_icmp .lt 7, 3) := okD_get dqb_28 16 rfl
theorem dX8_wetOf_26 : decode cX8_wetOf 26 = .ok (.iconst 1, 1) := okD_get dqb_28 17 rfl
theorem dX8_wetOf_27 : decode cX8_wetOf 27 = .ok (.goto 4, 3) := okD_get dqb_28 18 rfl
theorem dX8_wetOf_30 : decode cX8_wetOf 30 = .ok (.iconst 0, 1) := okD_get dqb_28 19 rfl
theorem dX8_wetOf_31 : decode cX8_wetOf 31 = .ok (.iadd, 1) := okD_get dqb_28 20 rfl
theorem dX8_wetOf_32 : decode cX8_wetOf 32 = .ok (.istore_n 2, 1) := okD_get dqb_28 21 rfl
theorem dX8_wetOf_33 : decode cX8_wetOf 33 = .ok (.iinc 3 1, 3) := okD_get dqb_28 22 rfl
theorem dX8_wetOf_36 : decode cX8_wetOf 36 = .ok (.goto (-32), 3) := okD_get dqb_28 23 rfl
theorem dX8_wetOf_39 : decode cX8_wetOf 39 = .ok (.iload_n 2, 1) := okD_get dqb_28 24 rfl
theorem dX8_wetOf_40 : decode cX8_wetOf 40 = .ok (.ireturn, 1) := okD_get dqb_28 25 rfl
theorem dqb_29 : okD cX8_harvestOf [(0, (.aload_n 0, 1)), (1, (.iload_n 1, 1)), (2, (.invokevirtual 135, 3)), (5, (.istore_n 2, 1)), (6, (.iconst (-1), 1)), (7, (.istore_n 3, 1)), (8, (.iconst 0, 1)), (9, (.istore 4, 2)), (11, (.iload 4, 2)), (13, (.bipush 8, 2)), (15, (.if_icmp .ge 47, 3)), (18, (.aload_n 0, 1)), (19, (.getfield 38, 3)), (22, (.iload 4, 2)), (24, (.iaload, 1)), (25, (.iload_n 2, 1)), (26, (.if_icmp .gt 28, 3)), (29, (.iload_n 3, 1)), (30, (.ifCond .lt 19, 3)), (33, (.aload_n 0, 1)), (34, (.getfield 38, 3)), (37, (.iload 4, 2)), (39, (.iaload, 1)), (40, (.aload_n 0, 1)), (41, (.getfield 38, 3)), (44, (.iload_n 3, 1)), (45, (.iaload, 1)), (46, (.if_icmp .lt 8, 3)), (49, (.iload 4, 2)), (51, (.goto 4, 3)), (54, (.iload_n 3, 1)), (55, (.istore_n 3, 1)), (56, (.iinc 4 1, 3)), (59, (.goto (-48), 3)), (62, (.iload_n 3, 1)), (63, (.ifCond .ge 7, 3)), (66, (.iconst 0, 1)), (67, (.goto 16, 3)), (70, (.aload_n 0, 1)), (71, (.getfield 25, 3))] = true := by decide +kernel
theorem dX8_harvestOf_0 : decode cX8_harvestOf 0 = .ok (.aload_n 0, 1) := okD_get dqb_29 0 rfl
theorem dX8_harvestOf_1 : decode cX8_harvestOf 1 = .ok (.iload_n 1, 1) := okD_get dqb_29 1 rfl
theorem dX8_harvestOf_2 : decode cX8_harvestOf 2 = .ok (.invokevirtual 135, 3) := okD_get dqb_29 2 rfl
theorem dX8_harvestOf_5 : decode cX8_harvestOf 5 = .ok (.istore_n 2, 1) := okD_get dqb_29 3 rfl
theorem dX8_harvestOf_6 : decode cX8_harvestOf 6 = .ok (.iconst (-1), 1) := okD_get dqb_29 4 rfl
theorem dX8_harvestOf_7 : decode cX8_harvestOf 7 = .ok (.istore_n 3, 1) := okD_get dqb_29 5 rfl
theorem dX8_harvestOf_8 : decode cX8_harvestOf 8 = .ok (.iconst 0, 1) := okD_get dqb_29 6 rfl
theorem dX8_harvestOf_9 : decode cX8_harvestOf 9 = .ok (.istore 4, 2) := okD_get dqb_29 7 rfl
theorem dX8_harvestOf_11 : decode cX8_harvestOf 11 = .ok (.iload 4, 2) := okD_get dqb_29 8 rfl
theorem dX8_harvestOf_13 : decode cX8_harvestOf 13 = .ok (.bipush 8, 2) := okD_get dqb_29 9 rfl
theorem dX8_harvestOf_15 : decode cX8_harvestOf 15 = .ok (.if_icmp .ge 47, 3) := okD_get dqb_29 10 rfl
theorem dX8_harvestOf_18 : decode cX8_harvestOf 18 = .ok (.aload_n 0, 1) := okD_get dqb_29 11 rfl
theorem dX8_harvestOf_19 : decode cX8_harvestOf 19 = .ok (.getfield 38, 3) := okD_get dqb_29 12 rfl
theorem dX8_harvestOf_22 : decode cX8_harvestOf 22 = .ok (.iload 4, 2) := okD_get dqb_29 13 rfl
theorem dX8_harvestOf_24 : decode cX8_harvestOf 24 = .ok (.iaload, 1) := okD_get dqb_29 14 rfl
theorem dX8_harvestOf_25 : decode cX8_harvestOf 25 = .ok (.iload_n 2, 1) := okD_get dqb_29 15 rfl
theorem dX8_harvestOf_26 : decode cX8_harvestOf 26 = .ok (.if_icmp .gt 28, 3) := okD_get dqb_29 16 rfl
theorem dX8_harvestOf_29 : decode cX8_harvestOf 29 = .ok (.iload_n 3, 1) := okD_get dqb_29 17 rfl
theorem dX8_harvestOf_30 : decode cX8_harvestOf 30 = .ok (.ifCond .lt 19, 3) := okD_get dqb_29 18 rfl
theorem dX8_harvestOf_33 : decode cX8_harvestOf 33 = .ok (.aload_n 0, 1) := okD_get dqb_29 19 rfl
theorem dX8_harvestOf_34 : decode cX8_harvestOf 34 = .ok (.getfield 38, 3) := okD_get dqb_29 20 rfl
theorem dX8_harvestOf_37 : decode cX8_harvestOf 37 = .ok (.iload 4, 2) := okD_get dqb_29 21 rfl
theorem dX8_harvestOf_39 : decode cX8_harvestOf 39 = .ok (.iaload, 1) := okD_get dqb_29 22 rfl
theorem dX8_harvestOf_40 : decode cX8_harvestOf 40 = .ok (.aload_n 0, 1) := okD_get dqb_29 23 rfl
theorem dX8_harvestOf_41 : decode cX8_harvestOf 41 = .ok (.getfield 38, 3) := okD_get dqb_29 24 rfl
theorem dX8_harvestOf_44 : decode cX8_harvestOf 44 = .ok (.iload_n 3, 1) := okD_get dqb_29 25 rfl
theorem dX8_harvestOf_45 : decode cX8_harvestOf 45 = .ok (.iaload, 1) := okD_get dqb_29 26 rfl
theorem dX8_harvestOf_46 : decode cX8_harvestOf 46 = .ok (.if_icmp .lt 8, 3) := okD_get dqb_29 27 rfl
theorem dX8_harvestOf_49 : decode cX8_harvestOf 49 = .ok (.iload 4, 2) := okD_get dqb_29 28 rfl
theorem dX8_harvestOf_51 : decode cX8_harvestOf 51 = .ok (.goto 4, 3) := okD_get dqb_29 29 rfl
theorem dX8_harvestOf_54 : decode cX8_harvestOf 54 = .ok (.iload_n 3, 1) := okD_get dqb_29 30 rfl
theorem dX8_harvestOf_55 : decode cX8_harvestOf 55 = .ok (.istore_n 3, 1) := okD_get dqb_29 31 rfl
theorem dX8_harvestOf_56 : decode cX8_harvestOf 56 = .ok (.iinc 4 1, 3) := okD_get dqb_29 32 rfl
theorem dX8_harvestOf_59 : decode cX8_harvestOf 59 = .ok (.goto (-48), 3) := okD_get dqb_29 33 rfl
theorem dX8_harvestOf_62 : decode cX8_harvestOf 62 = .ok (.iload_n 3, 1) := okD_get dqb_29 34 rfl
theorem dX8_harvestOf_63 : decode cX8_harvestOf 63 = .ok (.ifCond .ge 7, 3) := okD_get dqb_29 35 rfl
theorem dX8_harvestOf_66 : decode cX8_harvestOf 66 = .ok (.iconst 0, 1) := okD_get dqb_29 36 rfl
theorem dX8_harvestOf_67 : decode cX8_harvestOf 67 = .ok (.goto 16, 3) := okD_get dqb_29 37 rfl
theorem dX8_harvestOf_70 : decode cX8_harvestOf 70 = .ok (.aload_n 0, 1) := okD_get dqb_29 38 rfl
theorem dX8_harvestOf_71 : decode cX8_harvestOf 71 = .ok (.getfield 25, 3) := okD_get dqb_29 39 rfl
theorem dqb_30 : okD cX8_harvestOf [(74, (.iload_n 1, 1)), (75, (.iaload, 1)), (76, (.aload_n 0, 1)), (77, (.getfield 41, 3)), (80, (.iload_n 3, 1)), (81, (.iaload, 1)), (82, (.imul, 1)), (83, (.ireturn, 1))] = true := by decide +kernel
theorem dX8_harvestOf_74 : decode cX8_harvestOf 74 = .ok (.iload_n 1, 1) := okD_get dqb_30 0 rfl
theorem dX8_harvestOf_75 : decode cX8_harvestOf 75 = .ok (.iaload, 1) := okD_get dqb_30 1 rfl
theorem dX8_harvestOf_76 : decode cX8_harvestOf 76 = .ok (.aload_n 0, 1) := okD_get dqb_30 2 rfl
theorem dX8_harvestOf_77 : decode cX8_harvestOf 77 = .ok (.getfield 41, 3) := okD_get dqb_30 3 rfl
theorem dX8_harvestOf_80 : decode cX8_harvestOf 80 = .ok (.iload_n 3, 1) := okD_get dqb_30 4 rfl
theorem dX8_harvestOf_81 : decode cX8_harvestOf 81 = .ok (.iaload, 1) := okD_get dqb_30 5 rfl
theorem dX8_harvestOf_82 : decode cX8_harvestOf 82 = .ok (.imul, 1) := okD_get dqb_30 6 rfl
theorem dX8_harvestOf_83 : decode cX8_harvestOf 83 = .ok (.ireturn, 1) := okD_get dqb_30 7 rfl
theorem dqb_31 : okD cX8_wet [(0, (.aload_n 0, 1)), (1, (.iconst 0, 1)), (2, (.putfield 78, 3)), (5, (.aload_n 0, 1)), (6, (.iload_n 1, 1)), (7, (.invokevirtual 121, 3)), (10, (.ifCond .eq 10, 3)), (13, (.iload_n 2, 1)), (14, (.invokestatic 98, 3)), (17, (.ifCond .ne 5, 3)), (20, (.iconst (-1), 1)), (21, (.ireturn, 1)), (22, (.aload_n 0, 1)), (23, (.iload_n 2, 1)), (24, (.bipush 119, 2)), (26, (.invokevirtual 108, 3)), (29, (.aload_n 0, 1)), (30, (.iload_n 1, 1)), (31, (.invokevirtual 135, 3)), (34, (.ireturn, 1))] = true := by decide +kernel
theorem dX8_wet_0 : decode cX8_wet 0 = .ok (.aload_n 0, 1) := okD_get dqb_31 0 rfl
theorem dX8_wet_1 : decode cX8_wet 1 = .ok (.iconst 0, 1) := okD_get dqb_31 1 rfl
theorem dX8_wet_2 : decode cX8_wet 2 = .ok (.putfield 78, 3) := okD_get dqb_31 2 rfl
theorem dX8_wet_5 : decode cX8_wet 5 = .ok (.aload_n 0, 1) := okD_get dqb_31 3 rfl
theorem dX8_wet_6 : decode cX8_wet 6 = .ok (.iload_n 1, 1) := okD_get dqb_31 4 rfl
theorem dX8_wet_7 : decode cX8_wet 7 = .ok (.invokevirtual 121, 3) := okD_get dqb_31 5 rfl
theorem dX8_wet_10 : decode cX8_wet 10 = .ok (.ifCond .eq 10, 3) := okD_get dqb_31 6 rfl
theorem dX8_wet_13 : decode cX8_wet 13 = .ok (.iload_n 2, 1) := okD_get dqb_31 7 rfl
theorem dX8_wet_14 : decode cX8_wet 14 = .ok (.invokestatic 98, 3) := okD_get dqb_31 8 rfl
theorem dX8_wet_17 : decode cX8_wet 17 = .ok (.ifCond .ne 5, 3) := okD_get dqb_31 9 rfl
theorem dX8_wet_20 : decode cX8_wet 20 = .ok (.iconst (-1), 1) := okD_get dqb_31 10 rfl
theorem dX8_wet_21 : decode cX8_wet 21 = .ok (.ireturn, 1) := okD_get dqb_31 11 rfl
theorem dX8_wet_22 : decode cX8_wet 22 = .ok (.aload_n 0, 1) := okD_get dqb_31 12 rfl
theorem dX8_wet_23 : decode cX8_wet 23 = .ok (.iload_n 2, 1) := okD_get dqb_31 13 rfl
theorem dX8_wet_24 : decode cX8_wet 24 = .ok (.bipush 119, 2) := okD_get dqb_31 14 rfl
theorem dX8_wet_26 : decode cX8_wet 26 = .ok (.invokevirtual 108, 3) := okD_get dqb_31 15 rfl
theorem dX8_wet_29 : decode cX8_wet 29 = .ok (.aload_n 0, 1) := okD_get dqb_31 16 rfl
theorem dX8_wet_30 : decode cX8_wet 30 = .ok (.iload_n 1, 1) := okD_get dqb_31 17 rfl
theorem dX8_wet_31 : decode cX8_wet 31 = .ok (.invokevirtual 135, 3) := okD_get dqb_31 18 rfl
theorem dX8_wet_34 : decode cX8_wet 34 = .ok (.ireturn, 1) := okD_get dqb_31 19 rfl
theorem dqb_32 : okD cX8_harvest [(0, (.aload_n 0, 1)), (1, (.iconst 0, 1)), (2, (.putfield 78, 3)), (5, (.aload_n 0, 1)), (6, (.iload_n 1, 1)), (7, (.invokevirtual 121, 3)), (10, (.ifCond .eq 10, 3)), (13, (.iload_n 2, 1)), (14, (.invokestatic 98, 3)), (17, (.ifCond .ne 5, 3)), (20, (.iconst (-1), 1)), (21, (.ireturn, 1)), (22, (.aload_n 0, 1)), (23, (.iload_n 2, 1)), (24, (.bipush 119, 2)), (26, (.invokevirtual 108, 3)), (29, (.aload_n 0, 1)), (30, (.iload_n 1, 1)), (31, (.invokevirtual 138, 3)), (34, (.ireturn, 1))] = true := by decide +kernel
theorem dX8_harvest_0 : decode cX8_harvest 0 = .ok (.aload_n 0, 1) := okD_get dqb_32 0 rfl
theorem dX8_harvest_1 : decode cX8_harvest 1 = .ok (.iconst 0, 1) := okD_get dqb_32 1 rfl
theorem dX8_harvest_2 : decode cX8_harvest 2 = .ok (.putfield 78, 3) := okD_get dqb_32 2 rfl
theorem dX8_harvest_5 : decode cX8_harvest 5 = .ok (.aload_n 0, 1) := okD_get dqb_32 3 rfl
theorem dX8_harvest_6 : decode cX8_harvest 6 = .ok (.iload_n 1, 1) := okD_get dqb_32 4 rfl
theorem dX8_harvest_7 : decode cX8_harvest 7 = .ok (.invokevirtual 121, 3) := okD_get dqb_32 5 rfl
theorem dX8_harvest_10 : decode cX8_harvest 10 = .ok (.ifCond .eq 10, 3) := okD_get dqb_32 6 rfl
theorem dX8_harvest_13 : decode cX8_harvest 13 = .ok (.iload_n 2, 1) := okD_get dqb_32 7 rfl
theorem dX8_harvest_14 : decode cX8_harvest 14 = .ok (.invokestatic 98, 3) := okD_get dqb_32 8 rfl
theorem dX8_harvest_17 : decode cX8_harvest 17 = .ok (.ifCond .ne 5, 3) := okD_get dqb_32 9 rfl
theorem dX8_harvest_20 : decode cX8_harvest 20 = .ok (.iconst (-1), 1) := okD_get dqb_32 10 rfl
theorem dX8_harvest_21 : decode cX8_harvest 21 = .ok (.ireturn, 1) := okD_get dqb_32 11 rfl
theorem dX8_harvest_22 : decode cX8_harvest 22 = .ok (.aload_n 0, 1) := okD_get dqb_32 12 rfl
theorem dX8_harvest_23 : decode cX8_harvest 23 = .ok (.iload_n 2, 1) := okD_get dqb_32 13 rfl
theorem dX8_harvest_24 : decode cX8_harvest 24 = .ok (.bipush 119, 2) := okD_get dqb_32 14 rfl
theorem dX8_harvest_26 : decode cX8_harvest 26 = .ok (.invokevirtual 108, 3) := okD_get dqb_32 15 rfl
theorem dX8_harvest_29 : decode cX8_harvest 29 = .ok (.aload_n 0, 1) := okD_get dqb_32 16 rfl
theorem dX8_harvest_30 : decode cX8_harvest 30 = .ok (.iload_n 1, 1) := okD_get dqb_32 17 rfl
theorem dX8_harvest_31 : decode cX8_harvest 31 = .ok (.invokevirtual 138, 3) := okD_get dqb_32 18 rfl
theorem dX8_harvest_34 : decode cX8_harvest 34 = .ok (.ireturn, 1) := okD_get dqb_32 19 rfl
theorem dqb_33 : okD cX8_foretold [(0, (.aload_n 0, 1)), (1, (.iconst 0, 1)), (2, (.putfield 78, 3)), (5, (.aload_n 0, 1)), (6, (.iload_n 1, 1)), (7, (.invokevirtual 121, 3)), (10, (.ifCond .eq 10, 3)), (13, (.iload_n 2, 1)), (14, (.invokestatic 92, 3)), (17, (.ifCond .ne 5, 3)), (20, (.iconst (-1), 1)), (21, (.ireturn, 1)), (22, (.aload_n 0, 1)), (23, (.iload_n 2, 1)), (24, (.iload_n 2, 1)), (25, (.invokevirtual 108, 3)), (28, (.aload_n 0, 1)), (29, (.iload_n 1, 1)), (30, (.invokevirtual 138, 3)), (33, (.ireturn, 1))] = true := by decide +kernel
theorem dX8_foretold_0 : decode cX8_foretold 0 = .ok (.aload_n 0, 1) := okD_get dqb_33 0 rfl
theorem dX8_foretold_1 : decode cX8_foretold 1 = .ok (.iconst 0, 1) := okD_get dqb_33 1 rfl
theorem dX8_foretold_2 : decode cX8_foretold 2 = .ok (.putfield 78, 3) := okD_get dqb_33 2 rfl
theorem dX8_foretold_5 : decode cX8_foretold 5 = .ok (.aload_n 0, 1) := okD_get dqb_33 3 rfl
theorem dX8_foretold_6 : decode cX8_foretold 6 = .ok (.iload_n 1, 1) := okD_get dqb_33 4 rfl
theorem dX8_foretold_7 : decode cX8_foretold 7 = .ok (.invokevirtual 121, 3) := okD_get dqb_33 5 rfl
theorem dX8_foretold_10 : decode cX8_foretold 10 = .ok (.ifCond .eq 10, 3) := okD_get dqb_33 6 rfl
theorem dX8_foretold_13 : decode cX8_foretold 13 = .ok (.iload_n 2, 1) := okD_get dqb_33 7 rfl
theorem dX8_foretold_14 : decode cX8_foretold 14 = .ok (.invokestatic 92, 3) := okD_get dqb_33 8 rfl
theorem dX8_foretold_17 : decode cX8_foretold 17 = .ok (.ifCond .ne 5, 3) := okD_get dqb_33 9 rfl
theorem dX8_foretold_20 : decode cX8_foretold 20 = .ok (.iconst (-1), 1) := okD_get dqb_33 10 rfl
theorem dX8_foretold_21 : decode cX8_foretold 21 = .ok (.ireturn, 1) := okD_get dqb_33 11 rfl
theorem dX8_foretold_22 : decode cX8_foretold 22 = .ok (.aload_n 0, 1) := okD_get dqb_33 12 rfl
theorem dX8_foretold_23 : decode cX8_foretold 23 = .ok (.iload_n 2, 1) := okD_get dqb_33 13 rfl
theorem dX8_foretold_24 : decode cX8_foretold 24 = .ok (.iload_n 2, 1) := okD_get dqb_33 14 rfl
theorem dX8_foretold_25 : decode cX8_foretold 25 = .ok (.invokevirtual 108, 3) := okD_get dqb_33 15 rfl
theorem dX8_foretold_28 : decode cX8_foretold 28 = .ok (.aload_n 0, 1) := okD_get dqb_33 16 rfl
theorem dX8_foretold_29 : decode cX8_foretold 29 = .ok (.iload_n 1, 1) := okD_get dqb_33 17 rfl
theorem dX8_foretold_30 : decode cX8_foretold 30 = .ok (.invokevirtual 138, 3) := okD_get dqb_33 18 rfl
theorem dX8_foretold_33 : decode cX8_foretold 33 = .ok (.ireturn, 1) := okD_get dqb_33 19 rfl
theorem dqb_34 : okD cX8_four [(0, (.bipush 24, 2)), (2, (.istore_n 2, 1)), (3, (.iload_n 2, 1)), (4, (.ifCond .lt 35, 3)), (7, (.aload_n 0, 1)), (8, (.getfield 59, 3)), (11, (.aload_n 0, 1)), (12, (.getfield 141, 3)), (15, (.iload_n 1, 1)), (16, (.iload_n 2, 1)), (17, (.ishr, 1)), (18, (.sipush 255, 3)), (21, (.iand, 1)), (22, (.iastore, 1)), (23, (.aload_n 0, 1)), (24, (.dup, 1)), (25, (.getfield 141, 3)), (28, (.iconst 1, 1)), (29, (.iadd, 1)), (30, (.putfield 141, 3)), (33, (.iinc 2 (-8), 3)), (36, (.goto (-33), 3)), (39, (.return_, 1))] = true := by decide +kernel
theorem dX8_four_0 : decode cX8_four 0 = .ok (.bipush 24, 2) := okD_get dqb_34 0 rfl
theorem dX8_four_2 : decode cX8_four 2 = .ok (.istore_n 2, 1) := okD_get dqb_34 1 rfl
theorem dX8_four_3 : decode cX8_four 3 = .ok (.iload_n 2, 1) := okD_get dqb_34 2 rfl
theorem dX8_four_4 : decode cX8_four 4 = .ok (.ifCond .lt 35, 3) := okD_get dqb_34 3 rfl
theorem dX8_four_7 : decode cX8_four 7 = .ok (.aload_n 0, 1) := okD_get dqb_34 4 rfl
theorem dX8_four_8 : decode cX8_four 8 = .ok (.getfield 59, 3) := okD_get dqb_34 5 rfl
theorem dX8_four_11 : decode cX8_four 11 = .ok (.aload_n 0, 1) := okD_get dqb_34 6 rfl
theorem dX8_four_12 : decode cX8_four 12 = .ok (.getfield 141, 3) := okD_get dqb_34 7 rfl
theorem dX8_four_15 : decode cX8_four 15 = .ok (.iload_n 1, 1) := okD_get dqb_34 8 rfl
theorem dX8_four_16 : decode cX8_four 16 = .ok (.iload_n 2, 1) := okD_get dqb_34 9 rfl
theorem dX8_four_17 : decode cX8_four 17 = .ok (.ishr, 1) := okD_get dqb_34 10 rfl
theorem dX8_four_18 : decode cX8_four 18 = .ok (.sipush 255, 3) := okD_get dqb_34 11 rfl
theorem dX8_four_21 : decode cX8_four 21 = .ok (.iand, 1) := okD_get dqb_34 12 rfl
theorem dX8_four_22 : decode cX8_four 22 = .ok (.iastore, 1) := okD_get dqb_34 13 rfl
theorem dX8_four_23 : decode cX8_four 23 = .ok (.aload_n 0, 1) := okD_get dqb_34 14 rfl
theorem dX8_four_24 : decode cX8_four 24 = .ok (.dup, 1) := okD_get dqb_34 15 rfl
theorem dX8_four_25 : decode cX8_four 25 = .ok (.getfield 141, 3) := okD_get dqb_34 16 rfl
theorem dX8_four_28 : decode cX8_four 28 = .ok (.iconst 1, 1) := okD_get dqb_34 17 rfl
theorem dX8_four_29 : decode cX8_four 29 = .ok (.iadd, 1) := okD_get dqb_34 18 rfl
theorem dX8_four_30 : decode cX8_four 30 = .ok (.putfield 141, 3) := okD_get dqb_34 19 rfl
theorem dX8_four_33 : decode cX8_four 33 = .ok (.iinc 2 (-8), 3) := okD_get dqb_34 20 rfl
theorem dX8_four_36 : decode cX8_four 36 = .ok (.goto (-33), 3) := okD_get dqb_34 21 rfl
theorem dX8_four_39 : decode cX8_four 39 = .ok (.return_, 1) := okD_get dqb_34 22 rfl
theorem dqb_35 : okD cX8_feed [(0, (.aload_n 0, 1)), (1, (.iconst 0, 1)), (2, (.putfield 78, 3)), (5, (.aload_n 0, 1)), (6, (.getfield 141, 3)), (9, (.bipush 20, 2)), (11, (.iadd, 1)), (12, (.sipush 200, 3)), (15, (.if_icmp .le 5, 3)), (18, (.iconst (-1), 1)), (19, (.ireturn, 1)), (20, (.aload_n 0, 1)), (21, (.iload_n 1, 1)), (22, (.invokevirtual 144, 3)), (25, (.aload_n 0, 1)), (26, (.iload_n 2, 1)), (27, (.invokevirtual 144, 3)), (30, (.aload_n 0, 1)), (31, (.iload_n 3, 1)), (32, (.invokevirtual 144, 3)), (35, (.aload_n 0, 1)), (36, (.iload 4, 2)), (38, (.invokevirtual 144, 3)), (41, (.aload_n 0, 1)), (42, (.iload 5, 2)), (44, (.invokevirtual 144, 3)), (47, (.aload_n 0, 1)), (48, (.getfield 141, 3)), (51, (.ireturn, 1))] = true := by decide +kernel
theorem dX8_feed_0 : decode cX8_feed 0 = .ok (.aload_n 0, 1) := okD_get dqb_35 0 rfl
theorem dX8_feed_1 : decode cX8_feed 1 = .ok (.iconst 0, 1) := okD_get dqb_35 1 rfl
theorem dX8_feed_2 : decode cX8_feed 2 = .ok (.putfield 78, 3) := okD_get dqb_35 2 rfl
theorem dX8_feed_5 : decode cX8_feed 5 = .ok (.aload_n 0, 1) := okD_get dqb_35 3 rfl
theorem dX8_feed_6 : decode cX8_feed 6 = .ok (.getfield 141, 3) := okD_get dqb_35 4 rfl
theorem dX8_feed_9 : decode cX8_feed 9 = .ok (.bipush 20, 2) := okD_get dqb_35 5 rfl
theorem dX8_feed_11 : decode cX8_feed 11 = .ok (.iadd, 1) := okD_get dqb_35 6 rfl
theorem dX8_feed_12 : decode cX8_feed 12 = .ok (.sipush 200, 3) := okD_get dqb_35 7 rfl
theorem dX8_feed_15 : decode cX8_feed 15 = .ok (.if_icmp .le 5, 3) := okD_get dqb_35 8 rfl
theorem dX8_feed_18 : decode cX8_feed 18 = .ok (.iconst (-1), 1) := okD_get dqb_35 9 rfl
theorem dX8_feed_19 : decode cX8_feed 19 = .ok (.ireturn, 1) := okD_get dqb_35 10 rfl
theorem dX8_feed_20 : decode cX8_feed 20 = .ok (.aload_n 0, 1) := okD_get dqb_35 11 rfl
theorem dX8_feed_21 : decode cX8_feed 21 = .ok (.iload_n 1, 1) := okD_get dqb_35 12 rfl
theorem dX8_feed_22 : decode cX8_feed 22 = .ok (.invokevirtual 144, 3) := okD_get dqb_35 13 rfl
theorem dX8_feed_25 : decode cX8_feed 25 = .ok (.aload_n 0, 1) := okD_get dqb_35 14 rfl
theorem dX8_feed_26 : decode cX8_feed 26 = .ok (.iload_n 2, 1) := okD_get dqb_35 15 rfl
theorem dX8_feed_27 : decode cX8_feed 27 = .ok (.invokevirtual 144, 3) := okD_get dqb_35 16 rfl
theorem dX8_feed_30 : decode cX8_feed 30 = .ok (.aload_n 0, 1) := okD_get dqb_35 17 rfl
theorem dX8_feed_31 : decode cX8_feed 31 = .ok (.iload_n 3, 1) := okD_get dqb_35 18 rfl
theorem dX8_feed_32 : decode cX8_feed 32 = .ok (.invokevirtual 144, 3) := okD_get dqb_35 19 rfl
theorem dX8_feed_35 : decode cX8_feed 35 = .ok (.aload_n 0, 1) := okD_get dqb_35 20 rfl
theorem dX8_feed_36 : decode cX8_feed 36 = .ok (.iload 4, 2) := okD_get dqb_35 21 rfl
theorem dX8_feed_38 : decode cX8_feed 38 = .ok (.invokevirtual 144, 3) := okD_get dqb_35 22 rfl
theorem dX8_feed_41 : decode cX8_feed 41 = .ok (.aload_n 0, 1) := okD_get dqb_35 23 rfl
theorem dX8_feed_42 : decode cX8_feed 42 = .ok (.iload 5, 2) := okD_get dqb_35 24 rfl
theorem dX8_feed_44 : decode cX8_feed 44 = .ok (.invokevirtual 144, 3) := okD_get dqb_35 25 rfl
theorem dX8_feed_47 : decode cX8_feed 47 = .ok (.aload_n 0, 1) := okD_get dqb_35 26 rfl
theorem dX8_feed_48 : decode cX8_feed 48 = .ok (.getfield 141, 3) := okD_get dqb_35 27 rfl
theorem dX8_feed_51 : decode cX8_feed 51 = .ok (.ireturn, 1) := okD_get dqb_35 28 rfl
theorem dqb_36 : okD cX8_end [(0, (.aload_n 0, 1)), (1, (.iconst 0, 1)), (2, (.putfield 78, 3)), (5, (.iload_n 1, 1)), (6, (.ifCond .lt 11, 3)), (9, (.iload_n 1, 1)), (10, (.aload_n 0, 1)), (11, (.getfield 141, 3)), (14, (.if_icmp .le 5, 3)), (17, (.iconst (-1), 1)), (18, (.ireturn, 1)), (19, (.aload_n 0, 1)), (20, (.iload_n 1, 1)), (21, (.putfield 141, 3)), (24, (.iload_n 1, 1)), (25, (.ireturn, 1))] = true := by decide +kernel
theorem dX8_end_0 : decode cX8_end 0 = .ok (.aload_n 0, 1) := okD_get dqb_36 0 rfl
theorem dX8_end_1 : decode cX8_end 1 = .ok (.iconst 0, 1) := okD_get dqb_36 1 rfl
theorem dX8_end_2 : decode cX8_end 2 = .ok (.putfield 78, 3) := okD_get dqb_36 2 rfl
theorem dX8_end_5 : decode cX8_end 5 = .ok (.iload_n 1, 1) := okD_get dqb_36 3 rfl
theorem dX8_end_6 : decode cX8_end 6 = .ok (.ifCond .lt 11, 3) := okD_get dqb_36 4 rfl
theorem dX8_end_9 : decode cX8_end 9 = .ok (.iload_n 1, 1) := okD_get dqb_36 5 rfl
theorem dX8_end_10 : decode cX8_end 10 = .ok (.aload_n 0, 1) := okD_get dqb_36 6 rfl
theorem dX8_end_11 : decode cX8_end 11 = .ok (.getfield 141, 3) := okD_get dqb_36 7 rfl
theorem dX8_end_14 : decode cX8_end 14 = .ok (.if_icmp .le 5, 3) := okD_get dqb_36 8 rfl
theorem dX8_end_17 : decode cX8_end 17 = .ok (.iconst (-1), 1) := okD_get dqb_36 9 rfl
theorem dX8_end_18 : decode cX8_end 18 = .ok (.ireturn, 1) := okD_get dqb_36 10 rfl
theorem dX8_end_19 : decode cX8_end 19 = .ok (.aload_n 0, 1) := okD_get dqb_36 11 rfl
theorem dX8_end_20 : decode cX8_end 20 = .ok (.iload_n 1, 1) := okD_get dqb_36 12 rfl
theorem dX8_end_21 : decode cX8_end 21 = .ok (.putfield 141, 3) := okD_get dqb_36 13 rfl
theorem dX8_end_24 : decode cX8_end 24 = .ok (.iload_n 1, 1) := okD_get dqb_36 14 rfl
theorem dX8_end_25 : decode cX8_end 25 = .ok (.ireturn, 1) := okD_get dqb_36 15 rfl
theorem dqb_37 : okD cX8_isSmall [(0, (.iload_n 0, 1)), (1, (.bipush 97, 2)), (3, (.if_icmp .lt 13, 3)), (6, (.iload_n 0, 1)), (7, (.bipush 122, 2)), (9, (.if_icmp .gt 7, 3)), (12, (.iconst 1, 1)), (13, (.goto 4, 3)), (16, (.iconst 0, 1)), (17, (.ireturn, 1))] = true := by decide +kernel
theorem dX8_isSmall_0 : decode cX8_isSmall 0 = .ok (.iload_n 0, 1) := okD_get dqb_37 0 rfl
theorem dX8_isSmall_1 : decode cX8_isSmall 1 = .ok (.bipush 97, 2) := okD_get dqb_37 1 rfl
theorem dX8_isSmall_3 : decode cX8_isSmall 3 = .ok (.if_icmp .lt 13, 3) := okD_get dqb_37 2 rfl
theorem dX8_isSmall_6 : decode cX8_isSmall 6 = .ok (.iload_n 0, 1) := okD_get dqb_37 3 rfl
theorem dX8_isSmall_7 : decode cX8_isSmall 7 = .ok (.bipush 122, 2) := okD_get dqb_37 4 rfl
theorem dX8_isSmall_9 : decode cX8_isSmall 9 = .ok (.if_icmp .gt 7, 3) := okD_get dqb_37 5 rfl
theorem dX8_isSmall_12 : decode cX8_isSmall 12 = .ok (.iconst 1, 1) := okD_get dqb_37 6 rfl
theorem dX8_isSmall_13 : decode cX8_isSmall 13 = .ok (.goto 4, 3) := okD_get dqb_37 7 rfl
theorem dX8_isSmall_16 : decode cX8_isSmall 16 = .ok (.iconst 0, 1) := okD_get dqb_37 8 rfl
theorem dX8_isSmall_17 : decode cX8_isSmall 17 = .ok (.ireturn, 1) := okD_get dqb_37 9 rfl
theorem dqb_38 : okD cX8_isDigit [(0, (.iload_n 0, 1)), (1, (.bipush 48, 2)), (3, (.if_icmp .lt 13, 3)), (6, (.iload_n 0, 1)), (7, (.bipush 57, 2)), (9, (.if_icmp .gt 7, 3)), (12, (.iconst 1, 1)), (13, (.goto 4, 3)), (16, (.iconst 0, 1)), (17, (.ireturn, 1))] = true := by decide +kernel
theorem dX8_isDigit_0 : decode cX8_isDigit 0 = .ok (.iload_n 0, 1) := okD_get dqb_38 0 rfl
theorem dX8_isDigit_1 : decode cX8_isDigit 1 = .ok (.bipush 48, 2) := okD_get dqb_38 1 rfl
theorem dX8_isDigit_3 : decode cX8_isDigit 3 = .ok (.if_icmp .lt 13, 3) := okD_get dqb_38 2 rfl
theorem dX8_isDigit_6 : decode cX8_isDigit 6 = .ok (.iload_n 0, 1) := okD_get dqb_38 3 rfl
theorem dX8_isDigit_7 : decode cX8_isDigit 7 = .ok (.bipush 57, 2) := okD_get dqb_38 4 rfl
theorem dX8_isDigit_9 : decode cX8_isDigit 9 = .ok (.if_icmp .gt 7, 3) := okD_get dqb_38 5 rfl
theorem dX8_isDigit_12 : decode cX8_isDigit 12 = .ok (.iconst 1, 1) := okD_get dqb_38 6 rfl
theorem dX8_isDigit_13 : decode cX8_isDigit 13 = .ok (.goto 4, 3) := okD_get dqb_38 7 rfl
theorem dX8_isDigit_16 : decode cX8_isDigit 16 = .ok (.iconst 0, 1) := okD_get dqb_38 8 rfl
theorem dX8_isDigit_17 : decode cX8_isDigit 17 = .ok (.ireturn, 1) := okD_get dqb_38 9 rfl
theorem dqb_39 : okD cX8_next [(0, (.aload_n 0, 1)), (1, (.aload_n 0, 1)), (2, (.getfield 148, 3)), (5, (.putfield 151, 3)), (8, (.aload_n 0, 1)), (9, (.getfield 151, 3)), (12, (.aload_n 0, 1)), (13, (.getfield 141, 3)), (16, (.if_icmp .ge 30, 3)), (19, (.aload_n 0, 1)), (20, (.getfield 59, 3)), (23, (.aload_n 0, 1)), (24, (.getfield 151, 3)), (27, (.iaload, 1)), (28, (.bipush 32, 2)), (30, (.if_icmp .ne 16, 3)), (33, (.aload_n 0, 1)), (34, (.dup, 1)), (35, (.getfield 151, 3)), (38, (.iconst 1, 1)), (39, (.iadd, 1)), (40, (.putfield 151, 3)), (43, (.goto (-35), 3)), (46, (.aload_n 0, 1)), (47, (.aload_n 0, 1)), (48, (.getfield 151, 3)), (51, (.putfield 148, 3)), (54, (.aload_n 0, 1)), (55, (.lconst 0, 1)), (56, (.putfield 154, 3)), (59, (.aload_n 0, 1)), (60, (.aload_n 0, 1)), (61, (.getfield 151, 3)), (64, (.aload_n 0, 1)), (65, (.getfield 141, 3)), (68, (.if_icmp .ne 7, 3)), (71, (.iconst 0, 1)), (72, (.goto 42, 3)), (75, (.aload_n 0, 1)), (76, (.getfield 59, 3))] = true := by decide +kernel
theorem dX8_next_0 : decode cX8_next 0 = .ok (.aload_n 0, 1) := okD_get dqb_39 0 rfl
theorem dX8_next_1 : decode cX8_next 1 = .ok (.aload_n 0, 1) := okD_get dqb_39 1 rfl
theorem dX8_next_2 : decode cX8_next 2 = .ok (.getfield 148, 3) := okD_get dqb_39 2 rfl
theorem dX8_next_5 : decode cX8_next 5 = .ok (.putfield 151, 3) := okD_get dqb_39 3 rfl
theorem dX8_next_8 : decode cX8_next 8 = .ok (.aload_n 0, 1) := okD_get dqb_39 4 rfl
theorem dX8_next_9 : decode cX8_next 9 = .ok (.getfield 151, 3) := okD_get dqb_39 5 rfl
theorem dX8_next_12 : decode cX8_next 12 = .ok (.aload_n 0, 1) := okD_get dqb_39 6 rfl
theorem dX8_next_13 : decode cX8_next 13 = .ok (.getfield 141, 3) := okD_get dqb_39 7 rfl
theorem dX8_next_16 : decode cX8_next 16 = .ok (.if_icmp .ge 30, 3) := okD_get dqb_39 8 rfl
theorem dX8_next_19 : decode cX8_next 19 = .ok (.aload_n 0, 1) := okD_get dqb_39 9 rfl
theorem dX8_next_20 : decode cX8_next 20 = .ok (.getfield 59, 3) := okD_get dqb_39 10 rfl
theorem dX8_next_23 : decode cX8_next 23 = .ok (.aload_n 0, 1) := okD_get dqb_39 11 rfl
theorem dX8_next_24 : decode cX8_next 24 = .ok (.getfield 151, 3) := okD_get dqb_39 12 rfl
theorem dX8_next_27 : decode cX8_next 27 = .ok (.iaload, 1) := okD_get dqb_39 13 rfl
theorem dX8_next_28 : decode cX8_next 28 = .ok (.bipush 32, 2) := okD_get dqb_39 14 rfl
theorem dX8_next_30 : decode cX8_next 30 = .ok (.if_icmp .ne 16, 3) := okD_get dqb_39 15 rfl
theorem dX8_next_33 : decode cX8_next 33 = .ok (.aload_n 0, 1) := okD_get dqb_39 16 rfl
theorem dX8_next_34 : decode cX8_next 34 = .ok (.dup, 1) := okD_get dqb_39 17 rfl
theorem dX8_next_35 : decode cX8_next 35 = .ok (.getfield 151, 3) := okD_get dqb_39 18 rfl
theorem dX8_next_38 : decode cX8_next 38 = .ok (.iconst 1, 1) := okD_get dqb_39 19 rfl
theorem dX8_next_39 : decode cX8_next 39 = .ok (.iadd, 1) := okD_get dqb_39 20 rfl
theorem dX8_next_40 : decode cX8_next 40 = .ok (.putfield 151, 3) := okD_get dqb_39 21 rfl
theorem dX8_next_43 : decode cX8_next 43 = .ok (.goto (-35), 3) := okD_get dqb_39 22 rfl
theorem dX8_next_46 : decode cX8_next 46 = .ok (.aload_n 0, 1) := okD_get dqb_39 23 rfl
theorem dX8_next_47 : decode cX8_next 47 = .ok (.aload_n 0, 1) := okD_get dqb_39 24 rfl
theorem dX8_next_48 : decode cX8_next 48 = .ok (.getfield 151, 3) := okD_get dqb_39 25 rfl
theorem dX8_next_51 : decode cX8_next 51 = .ok (.putfield 148, 3) := okD_get dqb_39 26 rfl
theorem dX8_next_54 : decode cX8_next 54 = .ok (.aload_n 0, 1) := okD_get dqb_39 27 rfl
theorem dX8_next_55 : decode cX8_next 55 = .ok (.lconst 0, 1) := okD_get dqb_39 28 rfl
theorem dX8_next_56 : decode cX8_next 56 = .ok (.putfield 154, 3) := okD_get dqb_39 29 rfl
theorem dX8_next_59 : decode cX8_next 59 = .ok (.aload_n 0, 1) := okD_get dqb_39 30 rfl
theorem dX8_next_60 : decode cX8_next 60 = .ok (.aload_n 0, 1) := okD_get dqb_39 31 rfl
theorem dX8_next_61 : decode cX8_next 61 = .ok (.getfield 151, 3) := okD_get dqb_39 32 rfl
theorem dX8_next_64 : decode cX8_next 64 = .ok (.aload_n 0, 1) := okD_get dqb_39 33 rfl
theorem dX8_next_65 : decode cX8_next 65 = .ok (.getfield 141, 3) := okD_get dqb_39 34 rfl
theorem dX8_next_68 : decode cX8_next 68 = .ok (.if_icmp .ne 7, 3) := okD_get dqb_39 35 rfl
theorem dX8_next_71 : decode cX8_next 71 = .ok (.iconst 0, 1) := okD_get dqb_39 36 rfl
theorem dX8_next_72 : decode cX8_next 72 = .ok (.goto 42, 3) := okD_get dqb_39 37 rfl
theorem dX8_next_75 : decode cX8_next 75 = .ok (.aload_n 0, 1) := okD_get dqb_39 38 rfl
theorem dX8_next_76 : decode cX8_next 76 = .ok (.getfield 59, 3) := okD_get dqb_39 39 rfl
theorem dqb_40 : okD cX8_next [(79, (.aload_n 0, 1)), (80, (.getfield 151, 3)), (83, (.iaload, 1)), (84, (.invokestatic 158, 3)), (87, (.ifCond .eq 7, 3)), (90, (.iconst 1, 1)), (91, (.goto 23, 3)), (94, (.aload_n 0, 1)), (95, (.getfield 59, 3)), (98, (.aload_n 0, 1)), (99, (.getfield 151, 3)), (102, (.iaload, 1)), (103, (.invokestatic 161, 3)), (106, (.ifCond .eq 7, 3)), (109, (.iconst 2, 1)), (110, (.goto 4, 3)), (113, (.iconst 3, 1)), (114, (.putfield 164, 3)), (117, (.aload_n 0, 1)), (118, (.getfield 164, 3)), (121, (.iconst 3, 1)), (122, (.if_icmp .ne 27, 3)), (125, (.aload_n 0, 1)), (126, (.aload_n 0, 1)), (127, (.getfield 59, 3)), (130, (.aload_n 0, 1)), (131, (.getfield 151, 3)), (134, (.iaload, 1)), (135, (.i2l, 1)), (136, (.putfield 154, 3)), (139, (.aload_n 0, 1)), (140, (.dup, 1)), (141, (.getfield 148, 3)), (144, (.iconst 1, 1)), (145, (.iadd, 1)), (146, (.putfield 148, 3)), (149, (.aload_n 0, 1)), (150, (.getfield 164, 3)), (153, (.iconst 1, 1)), (154, (.if_icmp .ne 89, 3))] = true := by decide +kernel
theorem dX8_next_79 : decode cX8_next 79 = .ok (.aload_n 0, 1) := okD_get dqb_40 0 rfl
theorem dX8_next_80 : decode cX8_next 80 = .ok (.getfield 151, 3) := okD_get dqb_40 1 rfl
theorem dX8_next_83 : decode cX8_next 83 = .ok (.iaload, 1) := okD_get dqb_40 2 rfl
theorem dX8_next_84 : decode cX8_next 84 = .ok (.invokestatic 158, 3) := okD_get dqb_40 3 rfl
theorem dX8_next_87 : decode cX8_next 87 = .ok (.ifCond .eq 7, 3) := okD_get dqb_40 4 rfl
theorem dX8_next_90 : decode cX8_next 90 = .ok (.iconst 1, 1) := okD_get dqb_40 5 rfl
theorem dX8_next_91 : decode cX8_next 91 = .ok (.goto 23, 3) := okD_get dqb_40 6 rfl
theorem dX8_next_94 : decode cX8_next 94 = .ok (.aload_n 0, 1) := okD_get dqb_40 7 rfl
theorem dX8_next_95 : decode cX8_next 95 = .ok (.getfield 59, 3) := okD_get dqb_40 8 rfl
theorem dX8_next_98 : decode cX8_next 98 = .ok (.aload_n 0, 1) := okD_get dqb_40 9 rfl
theorem dX8_next_99 : decode cX8_next 99 = .ok (.getfield 151, 3) := okD_get dqb_40 10 rfl
theorem dX8_next_102 : decode cX8_next 102 = .ok (.iaload, 1) := okD_get dqb_40 11 rfl
theorem dX8_next_103 : decode cX8_next 103 = .ok (.invokestatic 161, 3) := okD_get dqb_40 12 rfl
theorem dX8_next_106 : decode cX8_next 106 = .ok (.ifCond .eq 7, 3) := okD_get dqb_40 13 rfl
theorem dX8_next_109 : decode cX8_next 109 = .ok (.iconst 2, 1) := okD_get dqb_40 14 rfl
theorem dX8_next_110 : decode cX8_next 110 = .ok (.goto 4, 3) := okD_get dqb_40 15 rfl
theorem dX8_next_113 : decode cX8_next 113 = .ok (.iconst 3, 1) := okD_get dqb_40 16 rfl
theorem dX8_next_114 : decode cX8_next 114 = .ok (.putfield 164, 3) := okD_get dqb_40 17 rfl
theorem dX8_next_117 : decode cX8_next 117 = .ok (.aload_n 0, 1) := okD_get dqb_40 18 rfl
theorem dX8_next_118 : decode cX8_next 118 = .ok (.getfield 164, 3) := okD_get dqb_40 19 rfl
theorem dX8_next_121 : decode cX8_next 121 = .ok (.iconst 3, 1) := okD_get dqb_40 20 rfl
theorem dX8_next_122 : decode cX8_next 122 = .ok (.if_icmp .ne 27, 3) := okD_get dqb_40 21 rfl
theorem dX8_next_125 : decode cX8_next 125 = .ok (.aload_n 0, 1) := okD_get dqb_40 22 rfl
theorem dX8_next_126 : decode cX8_next 126 = .ok (.aload_n 0, 1) := okD_get dqb_40 23 rfl
theorem dX8_next_127 : decode cX8_next 127 = .ok (.getfield 59, 3) := okD_get dqb_40 24 rfl
theorem dX8_next_130 : decode cX8_next 130 = .ok (.aload_n 0, 1) := okD_get dqb_40 25 rfl
theorem dX8_next_131 : decode cX8_next 131 = .ok (.getfield 151, 3) := okD_get dqb_40 26 rfl
theorem dX8_next_134 : decode cX8_next 134 = .ok (.iaload, 1) := okD_get dqb_40 27 rfl
theorem dX8_next_135 : decode cX8_next 135 = .ok (.i2l, 1) := okD_get dqb_40 28 rfl
theorem dX8_next_136 : decode cX8_next 136 = .ok (.putfield 154, 3) := okD_get dqb_40 29 rfl
theorem dX8_next_139 : decode cX8_next 139 = .ok (.aload_n 0, 1) := okD_get dqb_40 30 rfl
theorem dX8_next_140 : decode cX8_next 140 = .ok (.dup, 1) := okD_get dqb_40 31 rfl
theorem dX8_next_141 : decode cX8_next 141 = .ok (.getfield 148, 3) := okD_get dqb_40 32 rfl
theorem dX8_next_144 : decode cX8_next 144 = .ok (.iconst 1, 1) := okD_get dqb_40 33 rfl
theorem dX8_next_145 : decode cX8_next 145 = .ok (.iadd, 1) := okD_get dqb_40 34 rfl
theorem dX8_next_146 : decode cX8_next 146 = .ok (.putfield 148, 3) := okD_get dqb_40 35 rfl
theorem dX8_next_149 : decode cX8_next 149 = .ok (.aload_n 0, 1) := okD_get dqb_40 36 rfl
theorem dX8_next_150 : decode cX8_next 150 = .ok (.getfield 164, 3) := okD_get dqb_40 37 rfl
theorem dX8_next_153 : decode cX8_next 153 = .ok (.iconst 1, 1) := okD_get dqb_40 38 rfl
theorem dX8_next_154 : decode cX8_next 154 = .ok (.if_icmp .ne 89, 3) := okD_get dqb_40 39 rfl
theorem dqb_41 : okD cX8_next [(157, (.aload_n 0, 1)), (158, (.getfield 148, 3)), (161, (.aload_n 0, 1)), (162, (.getfield 141, 3)), (165, (.if_icmp .ge 78, 3)), (168, (.aload_n 0, 1)), (169, (.getfield 59, 3)), (172, (.aload_n 0, 1)), (173, (.getfield 148, 3)), (176, (.iaload, 1)), (177, (.invokestatic 158, 3)), (180, (.ifCond .eq 63, 3)), (183, (.aload_n 0, 1)), (184, (.aload_n 0, 1)), (185, (.getfield 148, 3)), (188, (.aload_n 0, 1)), (189, (.getfield 151, 3)), (192, (.isub, 1)), (193, (.bipush 8, 2)), (195, (.if_icmp .ge 29, 3)), (198, (.aload_n 0, 1)), (199, (.getfield 154, 3)), (202, (.ldc2_w 167, 3)), (205, (.lmul, 1)), (206, (.aload_n 0, 1)), (207, (.getfield 59, 3)), (210, (.aload_n 0, 1)), (211, (.getfield 148, 3)), (214, (.iaload, 1)), (215, (.i2l, 1)), (216, (.ladd, 1)), (217, (.ldc2_w 169, 3)), (220, (.lsub, 1)), (221, (.goto 6, 3)), (224, (.ldc2_w 171, 3)), (227, (.putfield 154, 3)), (230, (.aload_n 0, 1)), (231, (.dup, 1)), (232, (.getfield 148, 3)), (235, (.iconst 1, 1))] = true := by decide +kernel
theorem dX8_next_157 : decode cX8_next 157 = .ok (.aload_n 0, 1) := okD_get dqb_41 0 rfl
theorem dX8_next_158 : decode cX8_next 158 = .ok (.getfield 148, 3) := okD_get dqb_41 1 rfl
theorem dX8_next_161 : decode cX8_next 161 = .ok (.aload_n 0, 1) := okD_get dqb_41 2 rfl
theorem dX8_next_162 : decode cX8_next 162 = .ok (.getfield 141, 3) := okD_get dqb_41 3 rfl
theorem dX8_next_165 : decode cX8_next 165 = .ok (.if_icmp .ge 78, 3) := okD_get dqb_41 4 rfl
theorem dX8_next_168 : decode cX8_next 168 = .ok (.aload_n 0, 1) := okD_get dqb_41 5 rfl
theorem dX8_next_169 : decode cX8_next 169 = .ok (.getfield 59, 3) := okD_get dqb_41 6 rfl
theorem dX8_next_172 : decode cX8_next 172 = .ok (.aload_n 0, 1) := okD_get dqb_41 7 rfl
theorem dX8_next_173 : decode cX8_next 173 = .ok (.getfield 148, 3) := okD_get dqb_41 8 rfl
theorem dX8_next_176 : decode cX8_next 176 = .ok (.iaload, 1) := okD_get dqb_41 9 rfl
theorem dX8_next_177 : decode cX8_next 177 = .ok (.invokestatic 158, 3) := okD_get dqb_41 10 rfl
theorem dX8_next_180 : decode cX8_next 180 = .ok (.ifCond .eq 63, 3) := okD_get dqb_41 11 rfl
theorem dX8_next_183 : decode cX8_next 183 = .ok (.aload_n 0, 1) := okD_get dqb_41 12 rfl
theorem dX8_next_184 : decode cX8_next 184 = .ok (.aload_n 0, 1) := okD_get dqb_41 13 rfl
theorem dX8_next_185 : decode cX8_next 185 = .ok (.getfield 148, 3) := okD_get dqb_41 14 rfl
theorem dX8_next_188 : decode cX8_next 188 = .ok (.aload_n 0, 1) := okD_get dqb_41 15 rfl
theorem dX8_next_189 : decode cX8_next 189 = .ok (.getfield 151, 3) := okD_get dqb_41 16 rfl
theorem dX8_next_192 : decode cX8_next 192 = .ok (.isub, 1) := okD_get dqb_41 17 rfl
theorem dX8_next_193 : decode cX8_next 193 = .ok (.bipush 8, 2) := okD_get dqb_41 18 rfl
theorem dX8_next_195 : decode cX8_next 195 = .ok (.if_icmp .ge 29, 3) := okD_get dqb_41 19 rfl
theorem dX8_next_198 : decode cX8_next 198 = .ok (.aload_n 0, 1) := okD_get dqb_41 20 rfl
theorem dX8_next_199 : decode cX8_next 199 = .ok (.getfield 154, 3) := okD_get dqb_41 21 rfl
theorem dX8_next_202 : decode cX8_next 202 = .ok (.ldc2_w 167, 3) := okD_get dqb_41 22 rfl
theorem dX8_next_205 : decode cX8_next 205 = .ok (.lmul, 1) := okD_get dqb_41 23 rfl
theorem dX8_next_206 : decode cX8_next 206 = .ok (.aload_n 0, 1) := okD_get dqb_41 24 rfl
theorem dX8_next_207 : decode cX8_next 207 = .ok (.getfield 59, 3) := okD_get dqb_41 25 rfl
theorem dX8_next_210 : decode cX8_next 210 = .ok (.aload_n 0, 1) := okD_get dqb_41 26 rfl
theorem dX8_next_211 : decode cX8_next 211 = .ok (.getfield 148, 3) := okD_get dqb_41 27 rfl
theorem dX8_next_214 : decode cX8_next 214 = .ok (.iaload, 1) := okD_get dqb_41 28 rfl
theorem dX8_next_215 : decode cX8_next 215 = .ok (.i2l, 1) := okD_get dqb_41 29 rfl
theorem dX8_next_216 : decode cX8_next 216 = .ok (.ladd, 1) := okD_get dqb_41 30 rfl
theorem dX8_next_217 : decode cX8_next 217 = .ok (.ldc2_w 169, 3) := okD_get dqb_41 31 rfl
theorem dX8_next_220 : decode cX8_next 220 = .ok (.lsub, 1) := okD_get dqb_41 32 rfl
theorem dX8_next_221 : decode cX8_next 221 = .ok (.goto 6, 3) := okD_get dqb_41 33 rfl
theorem dX8_next_224 : decode cX8_next 224 = .ok (.ldc2_w 171, 3) := okD_get dqb_41 34 rfl
theorem dX8_next_227 : decode cX8_next 227 = .ok (.putfield 154, 3) := okD_get dqb_41 35 rfl
theorem dX8_next_230 : decode cX8_next 230 = .ok (.aload_n 0, 1) := okD_get dqb_41 36 rfl
theorem dX8_next_231 : decode cX8_next 231 = .ok (.dup, 1) := okD_get dqb_41 37 rfl
theorem dX8_next_232 : decode cX8_next 232 = .ok (.getfield 148, 3) := okD_get dqb_41 38 rfl
theorem dX8_next_235 : decode cX8_next 235 = .ok (.iconst 1, 1) := okD_get dqb_41 39 rfl
theorem dqb_42 : okD cX8_next [(236, (.iadd, 1)), (237, (.putfield 148, 3)), (240, (.goto (-91), 3)), (243, (.aload_n 0, 1)), (244, (.getfield 164, 3)), (247, (.iconst 2, 1)), (248, (.if_icmp .ne 87, 3)), (251, (.aload_n 0, 1)), (252, (.getfield 148, 3)), (255, (.aload_n 0, 1)), (256, (.getfield 141, 3)), (259, (.if_icmp .ge 76, 3)), (262, (.aload_n 0, 1)), (263, (.getfield 59, 3)), (266, (.aload_n 0, 1)), (267, (.getfield 148, 3)), (270, (.iaload, 1)), (271, (.invokestatic 161, 3)), (274, (.ifCond .eq 61, 3)), (277, (.aload_n 0, 1)), (278, (.aload_n 0, 1)), (279, (.getfield 154, 3)), (282, (.ldc2_w 127, 3)), (285, (.lcmp, 1)), (286, (.ifCond .le 10, 3)), (289, (.aload_n 0, 1)), (290, (.getfield 154, 3)), (293, (.goto 26, 3)), (296, (.aload_n 0, 1)), (297, (.getfield 154, 3)), (300, (.ldc2_w 173, 3)), (303, (.lmul, 1)), (304, (.aload_n 0, 1)), (305, (.getfield 59, 3)), (308, (.aload_n 0, 1)), (309, (.getfield 148, 3)), (312, (.iaload, 1)), (313, (.i2l, 1)), (314, (.ladd, 1)), (315, (.ldc2_w 175, 3))] = true := by decide +kernel
theorem dX8_next_236 : decode cX8_next 236 = .ok (.iadd, 1) := okD_get dqb_42 0 rfl
theorem dX8_next_237 : decode cX8_next 237 = .ok (.putfield 148, 3) := okD_get dqb_42 1 rfl
theorem dX8_next_240 : decode cX8_next 240 = .ok (.goto (-91), 3) := okD_get dqb_42 2 rfl
theorem dX8_next_243 : decode cX8_next 243 = .ok (.aload_n 0, 1) := okD_get dqb_42 3 rfl
theorem dX8_next_244 : decode cX8_next 244 = .ok (.getfield 164, 3) := okD_get dqb_42 4 rfl
theorem dX8_next_247 : decode cX8_next 247 = .ok (.iconst 2, 1) := okD_get dqb_42 5 rfl
theorem dX8_next_248 : decode cX8_next 248 = .ok (.if_icmp .ne 87, 3) := okD_get dqb_42 6 rfl
theorem dX8_next_251 : decode cX8_next 251 = .ok (.aload_n 0, 1) := okD_get dqb_42 7 rfl
theorem dX8_next_252 : decode cX8_next 252 = .ok (.getfield 148, 3) := okD_get dqb_42 8 rfl
theorem dX8_next_255 : decode cX8_next 255 = .ok (.aload_n 0, 1) := okD_get dqb_42 9 rfl
theorem dX8_next_256 : decode cX8_next 256 = .ok (.getfield 141, 3) := okD_get dqb_42 10 rfl
theorem dX8_next_259 : decode cX8_next 259 = .ok (.if_icmp .ge 76, 3) := okD_get dqb_42 11 rfl
theorem dX8_next_262 : decode cX8_next 262 = .ok (.aload_n 0, 1) := okD_get dqb_42 12 rfl
theorem dX8_next_263 : decode cX8_next 263 = .ok (.getfield 59, 3) := okD_get dqb_42 13 rfl
theorem dX8_next_266 : decode cX8_next 266 = .ok (.aload_n 0, 1) := okD_get dqb_42 14 rfl
theorem dX8_next_267 : decode cX8_next 267 = .ok (.getfield 148, 3) := okD_get dqb_42 15 rfl
theorem dX8_next_270 : decode cX8_next 270 = .ok (.iaload, 1) := okD_get dqb_42 16 rfl
theorem dX8_next_271 : decode cX8_next 271 = .ok (.invokestatic 161, 3) := okD_get dqb_42 17 rfl
theorem dX8_next_274 : decode cX8_next 274 = .ok (.ifCond .eq 61, 3) := okD_get dqb_42 18 rfl
theorem dX8_next_277 : decode cX8_next 277 = .ok (.aload_n 0, 1) := okD_get dqb_42 19 rfl
theorem dX8_next_278 : decode cX8_next 278 = .ok (.aload_n 0, 1) := okD_get dqb_42 20 rfl
theorem dX8_next_279 : decode cX8_next 279 = .ok (.getfield 154, 3) := okD_get dqb_42 21 rfl
theorem dX8_next_282 : decode cX8_next 282 = .ok (.ldc2_w 127, 3) := okD_get dqb_42 22 rfl
theorem dX8_next_285 : decode cX8_next 285 = .ok (.lcmp, 1) := okD_get dqb_42 23 rfl
theorem dX8_next_286 : decode cX8_next 286 = .ok (.ifCond .le 10, 3) := okD_get dqb_42 24 rfl
theorem dX8_next_289 : decode cX8_next 289 = .ok (.aload_n 0, 1) := okD_get dqb_42 25 rfl
theorem dX8_next_290 : decode cX8_next 290 = .ok (.getfield 154, 3) := okD_get dqb_42 26 rfl
theorem dX8_next_293 : decode cX8_next 293 = .ok (.goto 26, 3) := okD_get dqb_42 27 rfl
theorem dX8_next_296 : decode cX8_next 296 = .ok (.aload_n 0, 1) := okD_get dqb_42 28 rfl
theorem dX8_next_297 : decode cX8_next 297 = .ok (.getfield 154, 3) := okD_get dqb_42 29 rfl
theorem dX8_next_300 : decode cX8_next 300 = .ok (.ldc2_w 173, 3) := okD_get dqb_42 30 rfl
theorem dX8_next_303 : decode cX8_next 303 = .ok (.lmul, 1) := okD_get dqb_42 31 rfl
theorem dX8_next_304 : decode cX8_next 304 = .ok (.aload_n 0, 1) := okD_get dqb_42 32 rfl
theorem dX8_next_305 : decode cX8_next 305 = .ok (.getfield 59, 3) := okD_get dqb_42 33 rfl
theorem dX8_next_308 : decode cX8_next 308 = .ok (.aload_n 0, 1) := okD_get dqb_42 34 rfl
theorem dX8_next_309 : decode cX8_next 309 = .ok (.getfield 148, 3) := okD_get dqb_42 35 rfl
theorem dX8_next_312 : decode cX8_next 312 = .ok (.iaload, 1) := okD_get dqb_42 36 rfl
theorem dX8_next_313 : decode cX8_next 313 = .ok (.i2l, 1) := okD_get dqb_42 37 rfl
theorem dX8_next_314 : decode cX8_next 314 = .ok (.ladd, 1) := okD_get dqb_42 38 rfl
theorem dX8_next_315 : decode cX8_next 315 = .ok (.ldc2_w 175, 3) := okD_get dqb_42 39 rfl
theorem dqb_43 : okD cX8_next [(318, (.lsub, 1)), (319, (.putfield 154, 3)), (322, (.aload_n 0, 1)), (323, (.dup, 1)), (324, (.getfield 148, 3)), (327, (.iconst 1, 1)), (328, (.iadd, 1)), (329, (.putfield 148, 3)), (332, (.goto (-89), 3)), (335, (.return_, 1))] = true := by decide +kernel
theorem dX8_next_318 : decode cX8_next 318 = .ok (.lsub, 1) := okD_get dqb_43 0 rfl
theorem dX8_next_319 : decode cX8_next 319 = .ok (.putfield 154, 3) := okD_get dqb_43 1 rfl
theorem dX8_next_322 : decode cX8_next 322 = .ok (.aload_n 0, 1) := okD_get dqb_43 2 rfl
theorem dX8_next_323 : decode cX8_next 323 = .ok (.dup, 1) := okD_get dqb_43 3 rfl
theorem dX8_next_324 : decode cX8_next 324 = .ok (.getfield 148, 3) := okD_get dqb_43 4 rfl
theorem dX8_next_327 : decode cX8_next 327 = .ok (.iconst 1, 1) := okD_get dqb_43 5 rfl
theorem dX8_next_328 : decode cX8_next 328 = .ok (.iadd, 1) := okD_get dqb_43 6 rfl
theorem dX8_next_329 : decode cX8_next 329 = .ok (.putfield 148, 3) := okD_get dqb_43 7 rfl
theorem dX8_next_332 : decode cX8_next 332 = .ok (.goto (-89), 3) := okD_get dqb_43 8 rfl
theorem dX8_next_335 : decode cX8_next 335 = .ok (.return_, 1) := okD_get dqb_43 9 rfl
theorem dqb_44 : okD cX8_isWord [(0, (.iload_n 1, 1)), (1, (.i2l, 1)), (2, (.ldc2_w 169, 3)), (5, (.lsub, 1)), (6, (.ldc2_w 167, 3)), (9, (.lmul, 1)), (10, (.iload_n 2, 1)), (11, (.i2l, 1)), (12, (.ladd, 1)), (13, (.ldc2_w 169, 3)), (16, (.lsub, 1)), (17, (.lstore 8, 2)), (19, (.iload_n 3, 1)), (20, (.ifCond .ne 8, 3)), (23, (.lload 8, 2)), (25, (.goto 16, 3)), (28, (.lload 8, 2)), (30, (.ldc2_w 167, 3)), (33, (.lmul, 1)), (34, (.iload_n 3, 1)), (35, (.i2l, 1)), (36, (.ladd, 1)), (37, (.ldc2_w 169, 3)), (40, (.lsub, 1)), (41, (.lstore 8, 2)), (43, (.iload 4, 2)), (45, (.ifCond .ne 8, 3)), (48, (.lload 8, 2)), (50, (.goto 17, 3)), (53, (.lload 8, 2)), (55, (.ldc2_w 167, 3)), (58, (.lmul, 1)), (59, (.iload 4, 2)), (61, (.i2l, 1)), (62, (.ladd, 1)), (63, (.ldc2_w 169, 3)), (66, (.lsub, 1)), (67, (.lstore 8, 2)), (69, (.iload 5, 2)), (71, (.ifCond .ne 8, 3))] = true := by decide +kernel
theorem dX8_isWord_0 : decode cX8_isWord 0 = .ok (.iload_n 1, 1) := okD_get dqb_44 0 rfl
theorem dX8_isWord_1 : decode cX8_isWord 1 = .ok (.i2l, 1) := okD_get dqb_44 1 rfl
theorem dX8_isWord_2 : decode cX8_isWord 2 = .ok (.ldc2_w 169, 3) := okD_get dqb_44 2 rfl
theorem dX8_isWord_5 : decode cX8_isWord 5 = .ok (.lsub, 1) := okD_get dqb_44 3 rfl
theorem dX8_isWord_6 : decode cX8_isWord 6 = .ok (.ldc2_w 167, 3) := okD_get dqb_44 4 rfl
theorem dX8_isWord_9 : decode cX8_isWord 9 = .ok (.lmul, 1) := okD_get dqb_44 5 rfl
theorem dX8_isWord_10 : decode cX8_isWord 10 = .ok (.iload_n 2, 1) := okD_get dqb_44 6 rfl
theorem dX8_isWord_11 : decode cX8_isWord 11 = .ok (.i2l, 1) := okD_get dqb_44 7 rfl
theorem dX8_isWord_12 : decode cX8_isWord 12 = .ok (.ladd, 1) := okD_get dqb_44 8 rfl
theorem dX8_isWord_13 : decode cX8_isWord 13 = .ok (.ldc2_w 169, 3) := okD_get dqb_44 9 rfl
theorem dX8_isWord_16 : decode cX8_isWord 16 = .ok (.lsub, 1) := okD_get dqb_44 10 rfl
theorem dX8_isWord_17 : decode cX8_isWord 17 = .ok (.lstore 8, 2) := okD_get dqb_44 11 rfl
theorem dX8_isWord_19 : decode cX8_isWord 19 = .ok (.iload_n 3, 1) := okD_get dqb_44 12 rfl
theorem dX8_isWord_20 : decode cX8_isWord 20 = .ok (.ifCond .ne 8, 3) := okD_get dqb_44 13 rfl
theorem dX8_isWord_23 : decode cX8_isWord 23 = .ok (.lload 8, 2) := okD_get dqb_44 14 rfl
theorem dX8_isWord_25 : decode cX8_isWord 25 = .ok (.goto 16, 3) := okD_get dqb_44 15 rfl
theorem dX8_isWord_28 : decode cX8_isWord 28 = .ok (.lload 8, 2) := okD_get dqb_44 16 rfl
theorem dX8_isWord_30 : decode cX8_isWord 30 = .ok (.ldc2_w 167, 3) := okD_get dqb_44 17 rfl
theorem dX8_isWord_33 : decode cX8_isWord 33 = .ok (.lmul, 1) := okD_get dqb_44 18 rfl
theorem dX8_isWord_34 : decode cX8_isWord 34 = .ok (.iload_n 3, 1) := okD_get dqb_44 19 rfl
theorem dX8_isWord_35 : decode cX8_isWord 35 = .ok (.i2l, 1) := okD_get dqb_44 20 rfl
theorem dX8_isWord_36 : decode cX8_isWord 36 = .ok (.ladd, 1) := okD_get dqb_44 21 rfl
theorem dX8_isWord_37 : decode cX8_isWord 37 = .ok (.ldc2_w 169, 3) := okD_get dqb_44 22 rfl
theorem dX8_isWord_40 : decode cX8_isWord 40 = .ok (.lsub, 1) := okD_get dqb_44 23 rfl
theorem dX8_isWord_41 : decode cX8_isWord 41 = .ok (.lstore 8, 2) := okD_get dqb_44 24 rfl
theorem dX8_isWord_43 : decode cX8_isWord 43 = .ok (.iload 4, 2) := okD_get dqb_44 25 rfl
theorem dX8_isWord_45 : decode cX8_isWord 45 = .ok (.ifCond .ne 8, 3) := okD_get dqb_44 26 rfl
theorem dX8_isWord_48 : decode cX8_isWord 48 = .ok (.lload 8, 2) := okD_get dqb_44 27 rfl
theorem dX8_isWord_50 : decode cX8_isWord 50 = .ok (.goto 17, 3) := okD_get dqb_44 28 rfl
theorem dX8_isWord_53 : decode cX8_isWord 53 = .ok (.lload 8, 2) := okD_get dqb_44 29 rfl
theorem dX8_isWord_55 : decode cX8_isWord 55 = .ok (.ldc2_w 167, 3) := okD_get dqb_44 30 rfl
theorem dX8_isWord_58 : decode cX8_isWord 58 = .ok (.lmul, 1) := okD_get dqb_44 31 rfl
theorem dX8_isWord_59 : decode cX8_isWord 59 = .ok (.iload 4, 2) := okD_get dqb_44 32 rfl
theorem dX8_isWord_61 : decode cX8_isWord 61 = .ok (.i2l, 1) := okD_get dqb_44 33 rfl
theorem dX8_isWord_62 : decode cX8_isWord 62 = .ok (.ladd, 1) := okD_get dqb_44 34 rfl
theorem dX8_isWord_63 : decode cX8_isWord 63 = .ok (.ldc2_w 169, 3) := okD_get dqb_44 35 rfl
theorem dX8_isWord_66 : decode cX8_isWord 66 = .ok (.lsub, 1) := okD_get dqb_44 36 rfl
theorem dX8_isWord_67 : decode cX8_isWord 67 = .ok (.lstore 8, 2) := okD_get dqb_44 37 rfl
theorem dX8_isWord_69 : decode cX8_isWord 69 = .ok (.iload 5, 2) := okD_get dqb_44 38 rfl
theorem dX8_isWord_71 : decode cX8_isWord 71 = .ok (.ifCond .ne 8, 3) := okD_get dqb_44 39 rfl
theorem dqb_45 : okD cX8_isWord [(74, (.lload 8, 2)), (76, (.goto 17, 3)), (79, (.lload 8, 2)), (81, (.ldc2_w 167, 3)), (84, (.lmul, 1)), (85, (.iload 5, 2)), (87, (.i2l, 1)), (88, (.ladd, 1)), (89, (.ldc2_w 169, 3)), (92, (.lsub, 1)), (93, (.lstore 8, 2)), (95, (.iload 6, 2)), (97, (.ifCond .ne 8, 3)), (100, (.lload 8, 2)), (102, (.goto 17, 3)), (105, (.lload 8, 2)), (107, (.ldc2_w 167, 3)), (110, (.lmul, 1)), (111, (.iload 6, 2)), (113, (.i2l, 1)), (114, (.ladd, 1)), (115, (.ldc2_w 169, 3)), (118, (.lsub, 1)), (119, (.lstore 8, 2)), (121, (.iload 7, 2)), (123, (.ifCond .ne 8, 3)), (126, (.lload 8, 2)), (128, (.goto 17, 3)), (131, (.lload 8, 2)), (133, (.ldc2_w 167, 3)), (136, (.lmul, 1)), (137, (.iload 7, 2)), (139, (.i2l, 1)), (140, (.ladd, 1)), (141, (.ldc2_w 169, 3)), (144, (.lsub, 1)), (145, (.lstore 8, 2)), (147, (.aload_n 0, 1)), (148, (.getfield 164, 3)), (151, (.iconst 1, 1))] = true := by decide +kernel
theorem dX8_isWord_74 : decode cX8_isWord 74 = .ok (.lload 8, 2) := okD_get dqb_45 0 rfl
theorem dX8_isWord_76 : decode cX8_isWord 76 = .ok (.goto 17, 3) := okD_get dqb_45 1 rfl
theorem dX8_isWord_79 : decode cX8_isWord 79 = .ok (.lload 8, 2) := okD_get dqb_45 2 rfl
theorem dX8_isWord_81 : decode cX8_isWord 81 = .ok (.ldc2_w 167, 3) := okD_get dqb_45 3 rfl
theorem dX8_isWord_84 : decode cX8_isWord 84 = .ok (.lmul, 1) := okD_get dqb_45 4 rfl
theorem dX8_isWord_85 : decode cX8_isWord 85 = .ok (.iload 5, 2) := okD_get dqb_45 5 rfl
theorem dX8_isWord_87 : decode cX8_isWord 87 = .ok (.i2l, 1) := okD_get dqb_45 6 rfl
theorem dX8_isWord_88 : decode cX8_isWord 88 = .ok (.ladd, 1) := okD_get dqb_45 7 rfl
theorem dX8_isWord_89 : decode cX8_isWord 89 = .ok (.ldc2_w 169, 3) := okD_get dqb_45 8 rfl
theorem dX8_isWord_92 : decode cX8_isWord 92 = .ok (.lsub, 1) := okD_get dqb_45 9 rfl
theorem dX8_isWord_93 : decode cX8_isWord 93 = .ok (.lstore 8, 2) := okD_get dqb_45 10 rfl
theorem dX8_isWord_95 : decode cX8_isWord 95 = .ok (.iload 6, 2) := okD_get dqb_45 11 rfl
theorem dX8_isWord_97 : decode cX8_isWord 97 = .ok (.ifCond .ne 8, 3) := okD_get dqb_45 12 rfl
theorem dX8_isWord_100 : decode cX8_isWord 100 = .ok (.lload 8, 2) := okD_get dqb_45 13 rfl
theorem dX8_isWord_102 : decode cX8_isWord 102 = .ok (.goto 17, 3) := okD_get dqb_45 14 rfl
theorem dX8_isWord_105 : decode cX8_isWord 105 = .ok (.lload 8, 2) := okD_get dqb_45 15 rfl
theorem dX8_isWord_107 : decode cX8_isWord 107 = .ok (.ldc2_w 167, 3) := okD_get dqb_45 16 rfl
theorem dX8_isWord_110 : decode cX8_isWord 110 = .ok (.lmul, 1) := okD_get dqb_45 17 rfl
theorem dX8_isWord_111 : decode cX8_isWord 111 = .ok (.iload 6, 2) := okD_get dqb_45 18 rfl
theorem dX8_isWord_113 : decode cX8_isWord 113 = .ok (.i2l, 1) := okD_get dqb_45 19 rfl
theorem dX8_isWord_114 : decode cX8_isWord 114 = .ok (.ladd, 1) := okD_get dqb_45 20 rfl
theorem dX8_isWord_115 : decode cX8_isWord 115 = .ok (.ldc2_w 169, 3) := okD_get dqb_45 21 rfl
theorem dX8_isWord_118 : decode cX8_isWord 118 = .ok (.lsub, 1) := okD_get dqb_45 22 rfl
theorem dX8_isWord_119 : decode cX8_isWord 119 = .ok (.lstore 8, 2) := okD_get dqb_45 23 rfl
theorem dX8_isWord_121 : decode cX8_isWord 121 = .ok (.iload 7, 2) := okD_get dqb_45 24 rfl
theorem dX8_isWord_123 : decode cX8_isWord 123 = .ok (.ifCond .ne 8, 3) := okD_get dqb_45 25 rfl
theorem dX8_isWord_126 : decode cX8_isWord 126 = .ok (.lload 8, 2) := okD_get dqb_45 26 rfl
theorem dX8_isWord_128 : decode cX8_isWord 128 = .ok (.goto 17, 3) := okD_get dqb_45 27 rfl
theorem dX8_isWord_131 : decode cX8_isWord 131 = .ok (.lload 8, 2) := okD_get dqb_45 28 rfl
theorem dX8_isWord_133 : decode cX8_isWord 133 = .ok (.ldc2_w 167, 3) := okD_get dqb_45 29 rfl
theorem dX8_isWord_136 : decode cX8_isWord 136 = .ok (.lmul, 1) := okD_get dqb_45 30 rfl
theorem dX8_isWord_137 : decode cX8_isWord 137 = .ok (.iload 7, 2) := okD_get dqb_45 31 rfl
theorem dX8_isWord_139 : decode cX8_isWord 139 = .ok (.i2l, 1) := okD_get dqb_45 32 rfl
theorem dX8_isWord_140 : decode cX8_isWord 140 = .ok (.ladd, 1) := okD_get dqb_45 33 rfl
theorem dX8_isWord_141 : decode cX8_isWord 141 = .ok (.ldc2_w 169, 3) := okD_get dqb_45 34 rfl
theorem dX8_isWord_144 : decode cX8_isWord 144 = .ok (.lsub, 1) := okD_get dqb_45 35 rfl
theorem dX8_isWord_145 : decode cX8_isWord 145 = .ok (.lstore 8, 2) := okD_get dqb_45 36 rfl
theorem dX8_isWord_147 : decode cX8_isWord 147 = .ok (.aload_n 0, 1) := okD_get dqb_45 37 rfl
theorem dX8_isWord_148 : decode cX8_isWord 148 = .ok (.getfield 164, 3) := okD_get dqb_45 38 rfl
theorem dX8_isWord_151 : decode cX8_isWord 151 = .ok (.iconst 1, 1) := okD_get dqb_45 39 rfl
theorem dqb_46 : okD cX8_isWord [(152, (.if_icmp .ne 17, 3)), (155, (.aload_n 0, 1)), (156, (.getfield 154, 3)), (159, (.lload 8, 2)), (161, (.lcmp, 1)), (162, (.ifCond .ne 7, 3)), (165, (.iconst 1, 1)), (166, (.goto 4, 3)), (169, (.iconst 0, 1)), (170, (.ireturn, 1))] = true := by decide +kernel
theorem dX8_isWord_152 : decode cX8_isWord 152 = .ok (.if_icmp .ne 17, 3) := okD_get dqb_46 0 rfl
theorem dX8_isWord_155 : decode cX8_isWord 155 = .ok (.aload_n 0, 1) := okD_get dqb_46 1 rfl
theorem dX8_isWord_156 : decode cX8_isWord 156 = .ok (.getfield 154, 3) := okD_get dqb_46 2 rfl
theorem dX8_isWord_159 : decode cX8_isWord 159 = .ok (.lload 8, 2) := okD_get dqb_46 3 rfl
theorem dX8_isWord_161 : decode cX8_isWord 161 = .ok (.lcmp, 1) := okD_get dqb_46 4 rfl
theorem dX8_isWord_162 : decode cX8_isWord 162 = .ok (.ifCond .ne 7, 3) := okD_get dqb_46 5 rfl
theorem dX8_isWord_165 : decode cX8_isWord 165 = .ok (.iconst 1, 1) := okD_get dqb_46 6 rfl
theorem dX8_isWord_166 : decode cX8_isWord 166 = .ok (.goto 4, 3) := okD_get dqb_46 7 rfl
theorem dX8_isWord_169 : decode cX8_isWord 169 = .ok (.iconst 0, 1) := okD_get dqb_46 8 rfl
theorem dX8_isWord_170 : decode cX8_isWord 170 = .ok (.ireturn, 1) := okD_get dqb_46 9 rfl
theorem dqb_47 : okD cX8_must [(0, (.aload_n 0, 1)), (1, (.getfield 177, 3)), (4, (.ifCond .ne 20, 3)), (7, (.iload_n 1, 1)), (8, (.ifCond .ne 16, 3)), (11, (.aload_n 0, 1)), (12, (.iconst 1, 1)), (13, (.putfield 177, 3)), (16, (.aload_n 0, 1)), (17, (.aload_n 0, 1)), (18, (.getfield 151, 3)), (21, (.putfield 62, 3)), (24, (.aload_n 0, 1)), (25, (.getfield 177, 3)), (28, (.ifCond .ne 7, 3)), (31, (.aload_n 0, 1)), (32, (.invokevirtual 181, 3)), (35, (.return_, 1))] = true := by decide +kernel
theorem dX8_must_0 : decode cX8_must 0 = .ok (.aload_n 0, 1) := okD_get dqb_47 0 rfl
theorem dX8_must_1 : decode cX8_must 1 = .ok (.getfield 177, 3) := okD_get dqb_47 1 rfl
theorem dX8_must_4 : decode cX8_must 4 = .ok (.ifCond .ne 20, 3) := okD_get dqb_47 2 rfl
theorem dX8_must_7 : decode cX8_must 7 = .ok (.iload_n 1, 1) := okD_get dqb_47 3 rfl
theorem dX8_must_8 : decode cX8_must 8 = .ok (.ifCond .ne 16, 3) := okD_get dqb_47 4 rfl
theorem dX8_must_11 : decode cX8_must 11 = .ok (.aload_n 0, 1) := okD_get dqb_47 5 rfl
theorem dX8_must_12 : decode cX8_must 12 = .ok (.iconst 1, 1) := okD_get dqb_47 6 rfl
theorem dX8_must_13 : decode cX8_must 13 = .ok (.putfield 177, 3) := okD_get dqb_47 7 rfl
theorem dX8_must_16 : decode cX8_must 16 = .ok (.aload_n 0, 1) := okD_get dqb_47 8 rfl
theorem dX8_must_17 : decode cX8_must 17 = .ok (.aload_n 0, 1) := okD_get dqb_47 9 rfl
theorem dX8_must_18 : decode cX8_must 18 = .ok (.getfield 151, 3) := okD_get dqb_47 10 rfl
theorem dX8_must_21 : decode cX8_must 21 = .ok (.putfield 62, 3) := okD_get dqb_47 11 rfl
theorem dX8_must_24 : decode cX8_must 24 = .ok (.aload_n 0, 1) := okD_get dqb_47 12 rfl
theorem dX8_must_25 : decode cX8_must 25 = .ok (.getfield 177, 3) := okD_get dqb_47 13 rfl
theorem dX8_must_28 : decode cX8_must 28 = .ok (.ifCond .ne 7, 3) := okD_get dqb_47 14 rfl
theorem dX8_must_31 : decode cX8_must 31 = .ok (.aload_n 0, 1) := okD_get dqb_47 15 rfl
theorem dX8_must_32 : decode cX8_must 32 = .ok (.invokevirtual 181, 3) := okD_get dqb_47 16 rfl
theorem dX8_must_35 : decode cX8_must 35 = .ok (.return_, 1) := okD_get dqb_47 17 rfl
theorem dqb_48 : okD cX8_number [(0, (.aload_n 0, 1)), (1, (.getfield 154, 3)), (4, (.l2i, 1)), (5, (.istore_n 3, 1)), (6, (.aload_n 0, 1)), (7, (.aload_n 0, 1)), (8, (.getfield 164, 3)), (11, (.iconst 2, 1)), (12, (.if_icmp .ne 21, 3)), (15, (.aload_n 0, 1)), (16, (.getfield 154, 3)), (19, (.lload_n 1, 1)), (20, (.ldc2_w 127, 3)), (23, (.invokestatic 86, 3)), (26, (.ifCond .eq 7, 3)), (29, (.iconst 1, 1)), (30, (.goto 4, 3)), (33, (.iconst 0, 1)), (34, (.invokevirtual 184, 3)), (37, (.iload_n 3, 1)), (38, (.ireturn, 1))] = true := by decide +kernel
theorem dX8_number_0 : decode cX8_number 0 = .ok (.aload_n 0, 1) := okD_get dqb_48 0 rfl
theorem dX8_number_1 : decode cX8_number 1 = .ok (.getfield 154, 3) := okD_get dqb_48 1 rfl
theorem dX8_number_4 : decode cX8_number 4 = .ok (.l2i, 1) := okD_get dqb_48 2 rfl
theorem dX8_number_5 : decode cX8_number 5 = .ok (.istore_n 3, 1) := okD_get dqb_48 3 rfl
theorem dX8_number_6 : decode cX8_number 6 = .ok (.aload_n 0, 1) := okD_get dqb_48 4 rfl
theorem dX8_number_7 : decode cX8_number 7 = .ok (.aload_n 0, 1) := okD_get dqb_48 5 rfl
theorem dX8_number_8 : decode cX8_number 8 = .ok (.getfield 164, 3) := okD_get dqb_48 6 rfl
theorem dX8_number_11 : decode cX8_number 11 = .ok (.iconst 2, 1) := okD_get dqb_48 7 rfl
theorem dX8_number_12 : decode cX8_number 12 = .ok (.if_icmp .ne 21, 3) := okD_get dqb_48 8 rfl
theorem dX8_number_15 : decode cX8_number 15 = .ok (.aload_n 0, 1) := okD_get dqb_48 9 rfl
theorem dX8_number_16 : decode cX8_number 16 = .ok (.getfield 154, 3) := okD_get dqb_48 10 rfl
theorem dX8_number_19 : decode cX8_number 19 = .ok (.lload_n 1, 1) := okD_get dqb_48 11 rfl
theorem dX8_number_20 : decode cX8_number 20 = .ok (.ldc2_w 127, 3) := okD_get dqb_48 12 rfl
theorem dX8_number_23 : decode cX8_number 23 = .ok (.invokestatic 86, 3) := okD_get dqb_48 13 rfl
theorem dX8_number_26 : decode cX8_number 26 = .ok (.ifCond .eq 7, 3) := okD_get dqb_48 14 rfl
theorem dX8_number_29 : decode cX8_number 29 = .ok (.iconst 1, 1) := okD_get dqb_48 15 rfl
theorem dX8_number_30 : decode cX8_number 30 = .ok (.goto 4, 3) := okD_get dqb_48 16 rfl
theorem dX8_number_33 : decode cX8_number 33 = .ok (.iconst 0, 1) := okD_get dqb_48 17 rfl
theorem dX8_number_34 : decode cX8_number 34 = .ok (.invokevirtual 184, 3) := okD_get dqb_48 18 rfl
theorem dX8_number_37 : decode cX8_number 37 = .ok (.iload_n 3, 1) := okD_get dqb_48 19 rfl
theorem dX8_number_38 : decode cX8_number 38 = .ok (.ireturn, 1) := okD_get dqb_48 20 rfl
theorem dqb_49 : okD cX8_readDecree [(0, (.aload_n 0, 1)), (1, (.bipush 116, 2)), (3, (.bipush 97, 2)), (5, (.bipush 120, 2)), (7, (.iconst 0, 1)), (8, (.iconst 0, 1)), (9, (.iconst 0, 1)), (10, (.iconst 0, 1)), (11, (.invokevirtual 188, 3)), (14, (.ifCond .eq 7, 3)), (17, (.iconst 0, 1)), (18, (.goto 75, 3)), (21, (.aload_n 0, 1)), (22, (.bipush 114, 2)), (24, (.bipush 101, 2)), (26, (.bipush 108, 2)), (28, (.bipush 105, 2)), (30, (.bipush 101, 2)), (32, (.bipush 102, 2)), (34, (.iconst 0, 1)), (35, (.invokevirtual 188, 3)), (38, (.ifCond .eq 7, 3)), (41, (.iconst 1, 1)), (42, (.goto 51, 3)), (45, (.aload_n 0, 1)), (46, (.bipush 102, 2)), (48, (.bipush 114, 2)), (50, (.bipush 101, 2)), (52, (.bipush 101, 2)), (54, (.iconst 0, 1)), (55, (.iconst 0, 1)), (56, (.iconst 0, 1)), (57, (.invokevirtual 188, 3)), (60, (.ifCond .eq 7, 3)), (63, (.iconst 2, 1)), (64, (.goto 29, 3)), (67, (.aload_n 0, 1)), (68, (.bipush 111, 2)), (70, (.bipush 102, 2)), (72, (.bipush 102, 2))] = true := by decide +kernel
theorem dX8_readDecree_0 : decode cX8_readDecree 0 = .ok (.aload_n 0, 1) := okD_get dqb_49 0 rfl
theorem dX8_readDecree_1 : decode cX8_readDecree 1 = .ok (.bipush 116, 2) := okD_get dqb_49 1 rfl
theorem dX8_readDecree_3 : decode cX8_readDecree 3 = .ok (.bipush 97, 2) := okD_get dqb_49 2 rfl
theorem dX8_readDecree_5 : decode cX8_readDecree 5 = .ok (.bipush 120, 2) := okD_get dqb_49 3 rfl
theorem dX8_readDecree_7 : decode cX8_readDecree 7 = .ok (.iconst 0, 1) := okD_get dqb_49 4 rfl
theorem dX8_readDecree_8 : decode cX8_readDecree 8 = .ok (.iconst 0, 1) := okD_get dqb_49 5 rfl
theorem dX8_readDecree_9 : decode cX8_readDecree 9 = .ok (.iconst 0, 1) := okD_get dqb_49 6 rfl
theorem dX8_readDecree_10 : decode cX8_readDecree 10 = .ok (.iconst 0, 1) := okD_get dqb_49 7 rfl
theorem dX8_readDecree_11 : decode cX8_readDecree 11 = .ok (.invokevirtual 188, 3) := okD_get dqb_49 8 rfl
theorem dX8_readDecree_14 : decode cX8_readDecree 14 = .ok (.ifCond .eq 7, 3) := okD_get dqb_49 9 rfl
theorem dX8_readDecree_17 : decode cX8_readDecree 17 = .ok (.iconst 0, 1) := okD_get dqb_49 10 rfl
theorem dX8_readDecree_18 : decode cX8_readDecree 18 = .ok (.goto 75, 3) := okD_get dqb_49 11 rfl
theorem dX8_readDecree_21 : decode cX8_readDecree 21 = .ok (.aload_n 0, 1) := okD_get dqb_49 12 rfl
theorem dX8_readDecree_22 : decode cX8_readDecree 22 = .ok (.bipush 114, 2) := okD_get dqb_49 13 rfl
theorem dX8_readDecree_24 : decode cX8_readDecree 24 = .ok (.bipush 101, 2) := okD_get dqb_49 14 rfl
theorem dX8_readDecree_26 : decode cX8_readDecree 26 = .ok (.bipush 108, 2) := okD_get dqb_49 15 rfl
theorem dX8_readDecree_28 : decode cX8_readDecree 28 = .ok (.bipush 105, 2) := okD_get dqb_49 16 rfl
theorem dX8_readDecree_30 : decode cX8_readDecree 30 = .ok (.bipush 101, 2) := okD_get dqb_49 17 rfl
theorem dX8_readDecree_32 : decode cX8_readDecree 32 = .ok (.bipush 102, 2) := okD_get dqb_49 18 rfl
theorem dX8_readDecree_34 : decode cX8_readDecree 34 = .ok (.iconst 0, 1) := okD_get dqb_49 19 rfl
theorem dX8_readDecree_35 : decode cX8_readDecree 35 = .ok (.invokevirtual 188, 3) := okD_get dqb_49 20 rfl
theorem dX8_readDecree_38 : decode cX8_readDecree 38 = .ok (.ifCond .eq 7, 3) := okD_get dqb_49 21 rfl
theorem dX8_readDecree_41 : decode cX8_readDecree 41 = .ok (.iconst 1, 1) := okD_get dqb_49 22 rfl
theorem dX8_readDecree_42 : decode cX8_readDecree 42 = .ok (.goto 51, 3) := okD_get dqb_49 23 rfl
theorem dX8_readDecree_45 : decode cX8_readDecree 45 = .ok (.aload_n 0, 1) := okD_get dqb_49 24 rfl
theorem dX8_readDecree_46 : decode cX8_readDecree 46 = .ok (.bipush 102, 2) := okD_get dqb_49 25 rfl
theorem dX8_readDecree_48 : decode cX8_readDecree 48 = .ok (.bipush 114, 2) := okD_get dqb_49 26 rfl
theorem dX8_readDecree_50 : decode cX8_readDecree 50 = .ok (.bipush 101, 2) := okD_get dqb_49 27 rfl
theorem dX8_readDecree_52 : decode cX8_readDecree 52 = .ok (.bipush 101, 2) := okD_get dqb_49 28 rfl
theorem dX8_readDecree_54 : decode cX8_readDecree 54 = .ok (.iconst 0, 1) := okD_get dqb_49 29 rfl
theorem dX8_readDecree_55 : decode cX8_readDecree 55 = .ok (.iconst 0, 1) := okD_get dqb_49 30 rfl
theorem dX8_readDecree_56 : decode cX8_readDecree 56 = .ok (.iconst 0, 1) := okD_get dqb_49 31 rfl
theorem dX8_readDecree_57 : decode cX8_readDecree 57 = .ok (.invokevirtual 188, 3) := okD_get dqb_49 32 rfl
theorem dX8_readDecree_60 : decode cX8_readDecree 60 = .ok (.ifCond .eq 7, 3) := okD_get dqb_49 33 rfl
theorem dX8_readDecree_63 : decode cX8_readDecree 63 = .ok (.iconst 2, 1) := okD_get dqb_49 34 rfl
theorem dX8_readDecree_64 : decode cX8_readDecree 64 = .ok (.goto 29, 3) := okD_get dqb_49 35 rfl
theorem dX8_readDecree_67 : decode cX8_readDecree 67 = .ok (.aload_n 0, 1) := okD_get dqb_49 36 rfl
theorem dX8_readDecree_68 : decode cX8_readDecree 68 = .ok (.bipush 111, 2) := okD_get dqb_49 37 rfl
theorem dX8_readDecree_70 : decode cX8_readDecree 70 = .ok (.bipush 102, 2) := okD_get dqb_49 38 rfl
theorem dX8_readDecree_72 : decode cX8_readDecree 72 = .ok (.bipush 102, 2) := okD_get dqb_49 39 rfl
theorem dqb_50 : okD cX8_readDecree [(74, (.bipush 105, 2)), (76, (.bipush 99, 2)), (78, (.bipush 101, 2)), (80, (.bipush 114, 2)), (82, (.invokevirtual 188, 3)), (85, (.ifCond .eq 7, 3)), (88, (.iconst 3, 1)), (89, (.goto 4, 3)), (92, (.iconst (-1), 1)), (93, (.istore_n 1, 1)), (94, (.aload_n 0, 1)), (95, (.iload_n 1, 1)), (96, (.ifCond .lt 16, 3)), (99, (.aload_n 0, 1)), (100, (.getfield 192, 3)), (103, (.bipush 20, 2)), (105, (.if_icmp .ge 7, 3)), (108, (.iconst 1, 1)), (109, (.goto 4, 3)), (112, (.iconst 0, 1)), (113, (.invokevirtual 184, 3)), (116, (.aload_n 0, 1)), (117, (.lconst 0, 1)), (118, (.invokevirtual 195, 3)), (121, (.istore_n 2, 1)), (122, (.iconst 0, 1)), (123, (.istore_n 3, 1)), (124, (.iconst 0, 1)), (125, (.istore 4, 2)), (127, (.iload_n 1, 1)), (128, (.iconst 2, 1)), (129, (.if_icmp .eq 36, 3)), (132, (.aload_n 0, 1)), (133, (.aload_n 0, 1)), (134, (.bipush 111, 2)), (136, (.bipush 102, 2)), (138, (.iconst 0, 1)), (139, (.iconst 0, 1)), (140, (.iconst 0, 1)), (141, (.iconst 0, 1))] = true := by decide +kernel
theorem dX8_readDecree_74 : decode cX8_readDecree 74 = .ok (.bipush 105, 2) := okD_get dqb_50 0 rfl
theorem dX8_readDecree_76 : decode cX8_readDecree 76 = .ok (.bipush 99, 2) := okD_get dqb_50 1 rfl
theorem dX8_readDecree_78 : decode cX8_readDecree 78 = .ok (.bipush 101, 2) := okD_get dqb_50 2 rfl
theorem dX8_readDecree_80 : decode cX8_readDecree 80 = .ok (.bipush 114, 2) := okD_get dqb_50 3 rfl
theorem dX8_readDecree_82 : decode cX8_readDecree 82 = .ok (.invokevirtual 188, 3) := okD_get dqb_50 4 rfl
theorem dX8_readDecree_85 : decode cX8_readDecree 85 = .ok (.ifCond .eq 7, 3) := okD_get dqb_50 5 rfl
theorem dX8_readDecree_88 : decode cX8_readDecree 88 = .ok (.iconst 3, 1) := okD_get dqb_50 6 rfl
theorem dX8_readDecree_89 : decode cX8_readDecree 89 = .ok (.goto 4, 3) := okD_get dqb_50 7 rfl
theorem dX8_readDecree_92 : decode cX8_readDecree 92 = .ok (.iconst (-1), 1) := okD_get dqb_50 8 rfl
theorem dX8_readDecree_93 : decode cX8_readDecree 93 = .ok (.istore_n 1, 1) := okD_get dqb_50 9 rfl
theorem dX8_readDecree_94 : decode cX8_readDecree 94 = .ok (.aload_n 0, 1) := okD_get dqb_50 10 rfl
theorem dX8_readDecree_95 : decode cX8_readDecree 95 = .ok (.iload_n 1, 1) := okD_get dqb_50 11 rfl
theorem dX8_readDecree_96 : decode cX8_readDecree 96 = .ok (.ifCond .lt 16, 3) := okD_get dqb_50 12 rfl
theorem dX8_readDecree_99 : decode cX8_readDecree 99 = .ok (.aload_n 0, 1) := okD_get dqb_50 13 rfl
theorem dX8_readDecree_100 : decode cX8_readDecree 100 = .ok (.getfield 192, 3) := okD_get dqb_50 14 rfl
theorem dX8_readDecree_103 : decode cX8_readDecree 103 = .ok (.bipush 20, 2) := okD_get dqb_50 15 rfl
theorem dX8_readDecree_105 : decode cX8_readDecree 105 = .ok (.if_icmp .ge 7, 3) := okD_get dqb_50 16 rfl
theorem dX8_readDecree_108 : decode cX8_readDecree 108 = .ok (.iconst 1, 1) := okD_get dqb_50 17 rfl
theorem dX8_readDecree_109 : decode cX8_readDecree 109 = .ok (.goto 4, 3) := okD_get dqb_50 18 rfl
theorem dX8_readDecree_112 : decode cX8_readDecree 112 = .ok (.iconst 0, 1) := okD_get dqb_50 19 rfl
theorem dX8_readDecree_113 : decode cX8_readDecree 113 = .ok (.invokevirtual 184, 3) := okD_get dqb_50 20 rfl
theorem dX8_readDecree_116 : decode cX8_readDecree 116 = .ok (.aload_n 0, 1) := okD_get dqb_50 21 rfl
theorem dX8_readDecree_117 : decode cX8_readDecree 117 = .ok (.lconst 0, 1) := okD_get dqb_50 22 rfl
theorem dX8_readDecree_118 : decode cX8_readDecree 118 = .ok (.invokevirtual 195, 3) := okD_get dqb_50 23 rfl
theorem dX8_readDecree_121 : decode cX8_readDecree 121 = .ok (.istore_n 2, 1) := okD_get dqb_50 24 rfl
theorem dX8_readDecree_122 : decode cX8_readDecree 122 = .ok (.iconst 0, 1) := okD_get dqb_50 25 rfl
theorem dX8_readDecree_123 : decode cX8_readDecree 123 = .ok (.istore_n 3, 1) := okD_get dqb_50 26 rfl
theorem dX8_readDecree_124 : decode cX8_readDecree 124 = .ok (.iconst 0, 1) := okD_get dqb_50 27 rfl
theorem dX8_readDecree_125 : decode cX8_readDecree 125 = .ok (.istore 4, 2) := okD_get dqb_50 28 rfl
theorem dX8_readDecree_127 : decode cX8_readDecree 127 = .ok (.iload_n 1, 1) := okD_get dqb_50 29 rfl
theorem dX8_readDecree_128 : decode cX8_readDecree 128 = .ok (.iconst 2, 1) := okD_get dqb_50 30 rfl
theorem dX8_readDecree_129 : decode cX8_readDecree 129 = .ok (.if_icmp .eq 36, 3) := okD_get dqb_50 31 rfl
theorem dX8_readDecree_132 : decode cX8_readDecree 132 = .ok (.aload_n 0, 1) := okD_get dqb_50 32 rfl
theorem dX8_readDecree_133 : decode cX8_readDecree 133 = .ok (.aload_n 0, 1) := okD_get dqb_50 33 rfl
theorem dX8_readDecree_134 : decode cX8_readDecree 134 = .ok (.bipush 111, 2) := okD_get dqb_50 34 rfl
theorem dX8_readDecree_136 : decode cX8_readDecree 136 = .ok (.bipush 102, 2) := okD_get dqb_50 35 rfl
theorem dX8_readDecree_138 : decode cX8_readDecree 138 = .ok (.iconst 0, 1) := okD_get dqb_50 36 rfl
theorem dX8_readDecree_139 : decode cX8_readDecree 139 = .ok (.iconst 0, 1) := okD_get dqb_50 37 rfl
theorem dX8_readDecree_140 : decode cX8_readDecree 140 = .ok (.iconst 0, 1) := okD_get dqb_50 38 rfl
theorem dX8_readDecree_141 : decode cX8_readDecree 141 = .ok (.iconst 0, 1) := okD_get dqb_50 39 rfl
theorem dqb_51 : okD cX8_readDecree [(142, (.iconst 0, 1)), (143, (.invokevirtual 188, 3)), (146, (.invokevirtual 184, 3)), (149, (.aload_n 0, 1)), (150, (.iload_n 2, 1)), (151, (.iconst 1, 1)), (152, (.if_icmp .ge 7, 3)), (155, (.lconst 1, 1)), (156, (.goto 5, 3)), (159, (.iload_n 2, 1)), (160, (.i2l, 1)), (161, (.invokevirtual 195, 3)), (164, (.istore_n 3, 1)), (165, (.iload_n 1, 1)), (166, (.iconst 2, 1)), (167, (.if_icmp .ge 52, 3)), (170, (.aload_n 0, 1)), (171, (.iload_n 1, 1)), (172, (.ifCond .ne 21, 3)), (175, (.aload_n 0, 1)), (176, (.bipush 102, 2)), (178, (.bipush 114, 2)), (180, (.bipush 111, 2)), (182, (.bipush 109, 2)), (184, (.iconst 0, 1)), (185, (.iconst 0, 1)), (186, (.iconst 0, 1)), (187, (.invokevirtual 188, 3)), (190, (.goto 19, 3)), (193, (.aload_n 0, 1)), (194, (.bipush 98, 2)), (196, (.bipush 101, 2)), (198, (.bipush 108, 2)), (200, (.bipush 111, 2)), (202, (.bipush 119, 2)), (204, (.iconst 0, 1)), (205, (.iconst 0, 1)), (206, (.invokevirtual 188, 3)), (209, (.invokevirtual 184, 3)), (212, (.aload_n 0, 1))] = true := by decide +kernel
theorem dX8_readDecree_142 : decode cX8_readDecree 142 = .ok (.iconst 0, 1) := okD_get dqb_51 0 rfl
theorem dX8_readDecree_143 : decode cX8_readDecree 143 = .ok (.invokevirtual 188, 3) := okD_get dqb_51 1 rfl
theorem dX8_readDecree_146 : decode cX8_readDecree 146 = .ok (.invokevirtual 184, 3) := okD_get dqb_51 2 rfl
theorem dX8_readDecree_149 : decode cX8_readDecree 149 = .ok (.aload_n 0, 1) := okD_get dqb_51 3 rfl
theorem dX8_readDecree_150 : decode cX8_readDecree 150 = .ok (.iload_n 2, 1) := okD_get dqb_51 4 rfl
theorem dX8_readDecree_151 : decode cX8_readDecree 151 = .ok (.iconst 1, 1) := okD_get dqb_51 5 rfl
theorem dX8_readDecree_152 : decode cX8_readDecree 152 = .ok (.if_icmp .ge 7, 3) := okD_get dqb_51 6 rfl
theorem dX8_readDecree_155 : decode cX8_readDecree 155 = .ok (.lconst 1, 1) := okD_get dqb_51 7 rfl
theorem dX8_readDecree_156 : decode cX8_readDecree 156 = .ok (.goto 5, 3) := okD_get dqb_51 8 rfl
theorem dX8_readDecree_159 : decode cX8_readDecree 159 = .ok (.iload_n 2, 1) := okD_get dqb_51 9 rfl
theorem dX8_readDecree_160 : decode cX8_readDecree 160 = .ok (.i2l, 1) := okD_get dqb_51 10 rfl
theorem dX8_readDecree_161 : decode cX8_readDecree 161 = .ok (.invokevirtual 195, 3) := okD_get dqb_51 11 rfl
theorem dX8_readDecree_164 : decode cX8_readDecree 164 = .ok (.istore_n 3, 1) := okD_get dqb_51 12 rfl
theorem dX8_readDecree_165 : decode cX8_readDecree 165 = .ok (.iload_n 1, 1) := okD_get dqb_51 13 rfl
theorem dX8_readDecree_166 : decode cX8_readDecree 166 = .ok (.iconst 2, 1) := okD_get dqb_51 14 rfl
theorem dX8_readDecree_167 : decode cX8_readDecree 167 = .ok (.if_icmp .ge 52, 3) := okD_get dqb_51 15 rfl
theorem dX8_readDecree_170 : decode cX8_readDecree 170 = .ok (.aload_n 0, 1) := okD_get dqb_51 16 rfl
theorem dX8_readDecree_171 : decode cX8_readDecree 171 = .ok (.iload_n 1, 1) := okD_get dqb_51 17 rfl
theorem dX8_readDecree_172 : decode cX8_readDecree 172 = .ok (.ifCond .ne 21, 3) := okD_get dqb_51 18 rfl
theorem dX8_readDecree_175 : decode cX8_readDecree 175 = .ok (.aload_n 0, 1) := okD_get dqb_51 19 rfl
theorem dX8_readDecree_176 : decode cX8_readDecree 176 = .ok (.bipush 102, 2) := okD_get dqb_51 20 rfl
theorem dX8_readDecree_178 : decode cX8_readDecree 178 = .ok (.bipush 114, 2) := okD_get dqb_51 21 rfl
theorem dX8_readDecree_180 : decode cX8_readDecree 180 = .ok (.bipush 111, 2) := okD_get dqb_51 22 rfl
theorem dX8_readDecree_182 : decode cX8_readDecree 182 = .ok (.bipush 109, 2) := okD_get dqb_51 23 rfl
theorem dX8_readDecree_184 : decode cX8_readDecree 184 = .ok (.iconst 0, 1) := okD_get dqb_51 24 rfl
theorem dX8_readDecree_185 : decode cX8_readDecree 185 = .ok (.iconst 0, 1) := okD_get dqb_51 25 rfl
theorem dX8_readDecree_186 : decode cX8_readDecree 186 = .ok (.iconst 0, 1) := okD_get dqb_51 26 rfl
theorem dX8_readDecree_187 : decode cX8_readDecree 187 = .ok (.invokevirtual 188, 3) := okD_get dqb_51 27 rfl
theorem dX8_readDecree_190 : decode cX8_readDecree 190 = .ok (.goto 19, 3) := okD_get dqb_51 28 rfl
theorem dX8_readDecree_193 : decode cX8_readDecree 193 = .ok (.aload_n 0, 1) := okD_get dqb_51 29 rfl
theorem dX8_readDecree_194 : decode cX8_readDecree 194 = .ok (.bipush 98, 2) := okD_get dqb_51 30 rfl
theorem dX8_readDecree_196 : decode cX8_readDecree 196 = .ok (.bipush 101, 2) := okD_get dqb_51 31 rfl
theorem dX8_readDecree_198 : decode cX8_readDecree 198 = .ok (.bipush 108, 2) := okD_get dqb_51 32 rfl
theorem dX8_readDecree_200 : decode cX8_readDecree 200 = .ok (.bipush 111, 2) := okD_get dqb_51 33 rfl
theorem dX8_readDecree_202 : decode cX8_readDecree 202 = .ok (.bipush 119, 2) := okD_get dqb_51 34 rfl
theorem dX8_readDecree_204 : decode cX8_readDecree 204 = .ok (.iconst 0, 1) := okD_get dqb_51 35 rfl
theorem dX8_readDecree_205 : decode cX8_readDecree 205 = .ok (.iconst 0, 1) := okD_get dqb_51 36 rfl
theorem dX8_readDecree_206 : decode cX8_readDecree 206 = .ok (.invokevirtual 188, 3) := okD_get dqb_51 37 rfl
theorem dX8_readDecree_209 : decode cX8_readDecree 209 = .ok (.invokevirtual 184, 3) := okD_get dqb_51 38 rfl
theorem dX8_readDecree_212 : decode cX8_readDecree 212 = .ok (.aload_n 0, 1) := okD_get dqb_51 39 rfl
theorem dqb_52 : okD cX8_readDecree [(213, (.lconst 0, 1)), (214, (.invokevirtual 195, 3)), (217, (.istore 4, 2)), (219, (.aload_n 0, 1)), (220, (.getfield 177, 3)), (223, (.ifCond .eq 4, 3)), (226, (.return_, 1)), (227, (.aload_n 0, 1)), (228, (.getfield 56, 3)), (231, (.iconst 4, 1)), (232, (.aload_n 0, 1)), (233, (.getfield 192, 3)), (236, (.imul, 1)), (237, (.iload_n 1, 1)), (238, (.iastore, 1)), (239, (.aload_n 0, 1)), (240, (.getfield 56, 3)), (243, (.iconst 4, 1)), (244, (.aload_n 0, 1)), (245, (.getfield 192, 3)), (248, (.imul, 1)), (249, (.iconst 1, 1)), (250, (.iadd, 1)), (251, (.iload_n 2, 1)), (252, (.iastore, 1)), (253, (.aload_n 0, 1)), (254, (.getfield 56, 3)), (257, (.iconst 4, 1)), (258, (.aload_n 0, 1)), (259, (.getfield 192, 3)), (262, (.imul, 1)), (263, (.iconst 2, 1)), (264, (.iadd, 1)), (265, (.iload_n 3, 1)), (266, (.iastore, 1)), (267, (.aload_n 0, 1)), (268, (.getfield 56, 3)), (271, (.iconst 4, 1)), (272, (.aload_n 0, 1)), (273, (.getfield 192, 3))] = true := by decide +kernel
theorem dX8_readDecree_213 : decode cX8_readDecree 213 = .ok (.lconst 0, 1) := okD_get dqb_52 0 rfl
theorem dX8_readDecree_214 : decode cX8_readDecree 214 = .ok (.invokevirtual 195, 3) := okD_get dqb_52 1 rfl
theorem dX8_readDecree_217 : decode cX8_readDecree 217 = .ok (.istore 4, 2) := okD_get dqb_52 2 rfl
theorem dX8_readDecree_219 : decode cX8_readDecree 219 = .ok (.aload_n 0, 1) := okD_get dqb_52 3 rfl
theorem dX8_readDecree_220 : decode cX8_readDecree 220 = .ok (.getfield 177, 3) := okD_get dqb_52 4 rfl
theorem dX8_readDecree_223 : decode cX8_readDecree 223 = .ok (.ifCond .eq 4, 3) := okD_get dqb_52 5 rfl
theorem dX8_readDecree_226 : decode cX8_readDecree 226 = .ok (.return_, 1) := okD_get dqb_52 6 rfl
theorem dX8_readDecree_227 : decode cX8_readDecree 227 = .ok (.aload_n 0, 1) := okD_get dqb_52 7 rfl
theorem dX8_readDecree_228 : decode cX8_readDecree 228 = .ok (.getfield 56, 3) := okD_get dqb_52 8 rfl
theorem dX8_readDecree_231 : decode cX8_readDecree 231 = .ok (.iconst 4, 1) := okD_get dqb_52 9 rfl
theorem dX8_readDecree_232 : decode cX8_readDecree 232 = .ok (.aload_n 0, 1) := okD_get dqb_52 10 rfl
theorem dX8_readDecree_233 : decode cX8_readDecree 233 = .ok (.getfield 192, 3) := okD_get dqb_52 11 rfl
theorem dX8_readDecree_236 : decode cX8_readDecree 236 = .ok (.imul, 1) := okD_get dqb_52 12 rfl
theorem dX8_readDecree_237 : decode cX8_readDecree 237 = .ok (.iload_n 1, 1) := okD_get dqb_52 13 rfl
theorem dX8_readDecree_238 : decode cX8_readDecree 238 = .ok (.iastore, 1) := okD_get dqb_52 14 rfl
theorem dX8_readDecree_239 : decode cX8_readDecree 239 = .ok (.aload_n 0, 1) := okD_get dqb_52 15 rfl
theorem dX8_readDecree_240 : decode cX8_readDecree 240 = .ok (.getfield 56, 3) := okD_get dqb_52 16 rfl
theorem dX8_readDecree_243 : decode cX8_readDecree 243 = .ok (.iconst 4, 1) := okD_get dqb_52 17 rfl
theorem dX8_readDecree_244 : decode cX8_readDecree 244 = .ok (.aload_n 0, 1) := okD_get dqb_52 18 rfl
theorem dX8_readDecree_245 : decode cX8_readDecree 245 = .ok (.getfield 192, 3) := okD_get dqb_52 19 rfl
theorem dX8_readDecree_248 : decode cX8_readDecree 248 = .ok (.imul, 1) := okD_get dqb_52 20 rfl
theorem dX8_readDecree_249 : decode cX8_readDecree 249 = .ok (.iconst 1, 1) := okD_get dqb_52 21 rfl
theorem dX8_readDecree_250 : decode cX8_readDecree 250 = .ok (.iadd, 1) := okD_get dqb_52 22 rfl
theorem dX8_readDecree_251 : decode cX8_readDecree 251 = .ok (.iload_n 2, 1) := okD_get dqb_52 23 rfl
theorem dX8_readDecree_252 : decode cX8_readDecree 252 = .ok (.iastore, 1) := okD_get dqb_52 24 rfl
theorem dX8_readDecree_253 : decode cX8_readDecree 253 = .ok (.aload_n 0, 1) := okD_get dqb_52 25 rfl
theorem dX8_readDecree_254 : decode cX8_readDecree 254 = .ok (.getfield 56, 3) := okD_get dqb_52 26 rfl
theorem dX8_readDecree_257 : decode cX8_readDecree 257 = .ok (.iconst 4, 1) := okD_get dqb_52 27 rfl
theorem dX8_readDecree_258 : decode cX8_readDecree 258 = .ok (.aload_n 0, 1) := okD_get dqb_52 28 rfl
theorem dX8_readDecree_259 : decode cX8_readDecree 259 = .ok (.getfield 192, 3) := okD_get dqb_52 29 rfl
theorem dX8_readDecree_262 : decode cX8_readDecree 262 = .ok (.imul, 1) := okD_get dqb_52 30 rfl
theorem dX8_readDecree_263 : decode cX8_readDecree 263 = .ok (.iconst 2, 1) := okD_get dqb_52 31 rfl
theorem dX8_readDecree_264 : decode cX8_readDecree 264 = .ok (.iadd, 1) := okD_get dqb_52 32 rfl
theorem dX8_readDecree_265 : decode cX8_readDecree 265 = .ok (.iload_n 3, 1) := okD_get dqb_52 33 rfl
theorem dX8_readDecree_266 : decode cX8_readDecree 266 = .ok (.iastore, 1) := okD_get dqb_52 34 rfl
theorem dX8_readDecree_267 : decode cX8_readDecree 267 = .ok (.aload_n 0, 1) := okD_get dqb_52 35 rfl
theorem dX8_readDecree_268 : decode cX8_readDecree 268 = .ok (.getfield 56, 3) := okD_get dqb_52 36 rfl
theorem dX8_readDecree_271 : decode cX8_readDecree 271 = .ok (.iconst 4, 1) := okD_get dqb_52 37 rfl
theorem dX8_readDecree_272 : decode cX8_readDecree 272 = .ok (.aload_n 0, 1) := okD_get dqb_52 38 rfl
theorem dX8_readDecree_273 : decode cX8_readDecree 273 = .ok (.getfield 192, 3) := okD_get dqb_52 39 rfl
theorem dqb_53 : okD cX8_readDecree [(276, (.imul, 1)), (277, (.iconst 3, 1)), (278, (.iadd, 1)), (279, (.iload 4, 2)), (281, (.iastore, 1)), (282, (.aload_n 0, 1)), (283, (.dup, 1)), (284, (.getfield 192, 3)), (287, (.iconst 1, 1)), (288, (.iadd, 1)), (289, (.putfield 192, 3)), (292, (.return_, 1))] = true := by decide +kernel
theorem dX8_readDecree_276 : decode cX8_readDecree 276 = .ok (.imul, 1) := okD_get dqb_53 0 rfl
theorem dX8_readDecree_277 : decode cX8_readDecree 277 = .ok (.iconst 3, 1) := okD_get dqb_53 1 rfl
theorem dX8_readDecree_278 : decode cX8_readDecree 278 = .ok (.iadd, 1) := okD_get dqb_53 2 rfl
theorem dX8_readDecree_279 : decode cX8_readDecree 279 = .ok (.iload 4, 2) := okD_get dqb_53 3 rfl
theorem dX8_readDecree_281 : decode cX8_readDecree 281 = .ok (.iastore, 1) := okD_get dqb_53 4 rfl
theorem dX8_readDecree_282 : decode cX8_readDecree 282 = .ok (.aload_n 0, 1) := okD_get dqb_53 5 rfl
theorem dX8_readDecree_283 : decode cX8_readDecree 283 = .ok (.dup, 1) := okD_get dqb_53 6 rfl
theorem dX8_readDecree_284 : decode cX8_readDecree 284 = .ok (.getfield 192, 3) := okD_get dqb_53 7 rfl
theorem dX8_readDecree_287 : decode cX8_readDecree 287 = .ok (.iconst 1, 1) := okD_get dqb_53 8 rfl
theorem dX8_readDecree_288 : decode cX8_readDecree 288 = .ok (.iadd, 1) := okD_get dqb_53 9 rfl
theorem dX8_readDecree_289 : decode cX8_readDecree 289 = .ok (.putfield 192, 3) := okD_get dqb_53 10 rfl
theorem dX8_readDecree_292 : decode cX8_readDecree 292 = .ok (.return_, 1) := okD_get dqb_53 11 rfl
theorem dqb_54 : okD cX8_decrees [(0, (.aload_n 0, 1)), (1, (.iconst 0, 1)), (2, (.putfield 78, 3)), (5, (.aload_n 0, 1)), (6, (.iconst 0, 1)), (7, (.putfield 148, 3)), (10, (.aload_n 0, 1)), (11, (.iconst 0, 1)), (12, (.putfield 177, 3)), (15, (.aload_n 0, 1)), (16, (.iconst (-1), 1)), (17, (.putfield 62, 3)), (20, (.aload_n 0, 1)), (21, (.iconst 0, 1)), (22, (.putfield 192, 3)), (25, (.aload_n 0, 1)), (26, (.invokevirtual 181, 3)), (29, (.aload_n 0, 1)), (30, (.getfield 164, 3)), (33, (.ifCond .eq 63, 3)), (36, (.aload_n 0, 1)), (37, (.invokevirtual 199, 3)), (40, (.aload_n 0, 1)), (41, (.getfield 177, 3)), (44, (.ifCond .ne 33, 3)), (47, (.aload_n 0, 1)), (48, (.getfield 164, 3)), (51, (.iconst 3, 1)), (52, (.if_icmp .ne 25, 3)), (55, (.aload_n 0, 1)), (56, (.getfield 154, 3)), (59, (.ldc2_w 202, 3)), (62, (.lcmp, 1)), (63, (.ifCond .ne 14, 3)), (66, (.aload_n 0, 1)), (67, (.invokevirtual 181, 3)), (70, (.aload_n 0, 1)), (71, (.invokevirtual 199, 3)), (74, (.goto (-34), 3)), (77, (.aload_n 0, 1))] = true := by decide +kernel
theorem dX8_decrees_0 : decode cX8_decrees 0 = .ok (.aload_n 0, 1) := okD_get dqb_54 0 rfl
theorem dX8_decrees_1 : decode cX8_decrees 1 = .ok (.iconst 0, 1) := okD_get dqb_54 1 rfl
theorem dX8_decrees_2 : decode cX8_decrees 2 = .ok (.putfield 78, 3) := okD_get dqb_54 2 rfl
theorem dX8_decrees_5 : decode cX8_decrees 5 = .ok (.aload_n 0, 1) := okD_get dqb_54 3 rfl
theorem dX8_decrees_6 : decode cX8_decrees 6 = .ok (.iconst 0, 1) := okD_get dqb_54 4 rfl
theorem dX8_decrees_7 : decode cX8_decrees 7 = .ok (.putfield 148, 3) := okD_get dqb_54 5 rfl
theorem dX8_decrees_10 : decode cX8_decrees 10 = .ok (.aload_n 0, 1) := okD_get dqb_54 6 rfl
theorem dX8_decrees_11 : decode cX8_decrees 11 = .ok (.iconst 0, 1) := okD_get dqb_54 7 rfl
theorem dX8_decrees_12 : decode cX8_decrees 12 = .ok (.putfield 177, 3) := okD_get dqb_54 8 rfl
theorem dX8_decrees_15 : decode cX8_decrees 15 = .ok (.aload_n 0, 1) := okD_get dqb_54 9 rfl
theorem dX8_decrees_16 : decode cX8_decrees 16 = .ok (.iconst (-1), 1) := okD_get dqb_54 10 rfl
theorem dX8_decrees_17 : decode cX8_decrees 17 = .ok (.putfield 62, 3) := okD_get dqb_54 11 rfl
theorem dX8_decrees_20 : decode cX8_decrees 20 = .ok (.aload_n 0, 1) := okD_get dqb_54 12 rfl
theorem dX8_decrees_21 : decode cX8_decrees 21 = .ok (.iconst 0, 1) := okD_get dqb_54 13 rfl
theorem dX8_decrees_22 : decode cX8_decrees 22 = .ok (.putfield 192, 3) := okD_get dqb_54 14 rfl
theorem dX8_decrees_25 : decode cX8_decrees 25 = .ok (.aload_n 0, 1) := okD_get dqb_54 15 rfl
theorem dX8_decrees_26 : decode cX8_decrees 26 = .ok (.invokevirtual 181, 3) := okD_get dqb_54 16 rfl
theorem dX8_decrees_29 : decode cX8_decrees 29 = .ok (.aload_n 0, 1) := okD_get dqb_54 17 rfl
theorem dX8_decrees_30 : decode cX8_decrees 30 = .ok (.getfield 164, 3) := okD_get dqb_54 18 rfl
theorem dX8_decrees_33 : decode cX8_decrees 33 = .ok (.ifCond .eq 63, 3) := okD_get dqb_54 19 rfl
theorem dX8_decrees_36 : decode cX8_decrees 36 = .ok (.aload_n 0, 1) := okD_get dqb_54 20 rfl
theorem dX8_decrees_37 : decode cX8_decrees 37 = .ok (.invokevirtual 199, 3) := okD_get dqb_54 21 rfl
theorem dX8_decrees_40 : decode cX8_decrees 40 = .ok (.aload_n 0, 1) := okD_get dqb_54 22 rfl
theorem dX8_decrees_41 : decode cX8_decrees 41 = .ok (.getfield 177, 3) := okD_get dqb_54 23 rfl
theorem dX8_decrees_44 : decode cX8_decrees 44 = .ok (.ifCond .ne 33, 3) := okD_get dqb_54 24 rfl
theorem dX8_decrees_47 : decode cX8_decrees 47 = .ok (.aload_n 0, 1) := okD_get dqb_54 25 rfl
theorem dX8_decrees_48 : decode cX8_decrees 48 = .ok (.getfield 164, 3) := okD_get dqb_54 26 rfl
theorem dX8_decrees_51 : decode cX8_decrees 51 = .ok (.iconst 3, 1) := okD_get dqb_54 27 rfl
theorem dX8_decrees_52 : decode cX8_decrees 52 = .ok (.if_icmp .ne 25, 3) := okD_get dqb_54 28 rfl
theorem dX8_decrees_55 : decode cX8_decrees 55 = .ok (.aload_n 0, 1) := okD_get dqb_54 29 rfl
theorem dX8_decrees_56 : decode cX8_decrees 56 = .ok (.getfield 154, 3) := okD_get dqb_54 30 rfl
theorem dX8_decrees_59 : decode cX8_decrees 59 = .ok (.ldc2_w 202, 3) := okD_get dqb_54 31 rfl
theorem dX8_decrees_62 : decode cX8_decrees 62 = .ok (.lcmp, 1) := okD_get dqb_54 32 rfl
theorem dX8_decrees_63 : decode cX8_decrees 63 = .ok (.ifCond .ne 14, 3) := okD_get dqb_54 33 rfl
theorem dX8_decrees_66 : decode cX8_decrees 66 = .ok (.aload_n 0, 1) := okD_get dqb_54 34 rfl
theorem dX8_decrees_67 : decode cX8_decrees 67 = .ok (.invokevirtual 181, 3) := okD_get dqb_54 35 rfl
theorem dX8_decrees_70 : decode cX8_decrees 70 = .ok (.aload_n 0, 1) := okD_get dqb_54 36 rfl
theorem dX8_decrees_71 : decode cX8_decrees 71 = .ok (.invokevirtual 199, 3) := okD_get dqb_54 37 rfl
theorem dX8_decrees_74 : decode cX8_decrees 74 = .ok (.goto (-34), 3) := okD_get dqb_54 38 rfl
theorem dX8_decrees_77 : decode cX8_decrees 77 = .ok (.aload_n 0, 1) := okD_get dqb_54 39 rfl
theorem dqb_55 : okD cX8_decrees [(78, (.getfield 177, 3)), (81, (.ifCond .ne 15, 3)), (84, (.aload_n 0, 1)), (85, (.getfield 164, 3)), (88, (.ifCond .eq 8, 3)), (91, (.aload_n 0, 1)), (92, (.iconst 0, 1)), (93, (.invokevirtual 184, 3)), (96, (.aload_n 0, 1)), (97, (.iconst 0, 1)), (98, (.putfield 141, 3)), (101, (.aload_n 0, 1)), (102, (.getfield 177, 3)), (105, (.ifCond .eq 10, 3)), (108, (.aload_n 0, 1)), (109, (.bipush (-6), 2)), (111, (.invokevirtual 101, 3)), (114, (.ireturn, 1)), (115, (.aload_n 0, 1)), (116, (.aload_n 0, 1)), (117, (.getfield 192, 3)), (120, (.putfield 204, 3)), (123, (.iconst 0, 1)), (124, (.istore_n 1, 1)), (125, (.iload_n 1, 1)), (126, (.aload_n 0, 1)), (127, (.getfield 204, 3)), (130, (.if_icmp .ge 71, 3)), (133, (.aload_n 0, 1)), (134, (.getfield 44, 3)), (137, (.iload_n 1, 1)), (138, (.aload_n 0, 1)), (139, (.getfield 56, 3)), (142, (.iconst 4, 1)), (143, (.iload_n 1, 1)), (144, (.imul, 1)), (145, (.iaload, 1)), (146, (.iastore, 1)), (147, (.aload_n 0, 1)), (148, (.getfield 47, 3))] = true := by decide +kernel
theorem dX8_decrees_78 : decode cX8_decrees 78 = .ok (.getfield 177, 3) := okD_get dqb_55 0 rfl
theorem dX8_decrees_81 : decode cX8_decrees 81 = .ok (.ifCond .ne 15, 3) := okD_get dqb_55 1 rfl
theorem dX8_decrees_84 : decode cX8_decrees 84 = .ok (.aload_n 0, 1) := okD_get dqb_55 2 rfl
theorem dX8_decrees_85 : decode cX8_decrees 85 = .ok (.getfield 164, 3) := okD_get dqb_55 3 rfl
theorem dX8_decrees_88 : decode cX8_decrees 88 = .ok (.ifCond .eq 8, 3) := okD_get dqb_55 4 rfl
theorem dX8_decrees_91 : decode cX8_decrees 91 = .ok (.aload_n 0, 1) := okD_get dqb_55 5 rfl
theorem dX8_decrees_92 : decode cX8_decrees 92 = .ok (.iconst 0, 1) := okD_get dqb_55 6 rfl
theorem dX8_decrees_93 : decode cX8_decrees 93 = .ok (.invokevirtual 184, 3) := okD_get dqb_55 7 rfl
theorem dX8_decrees_96 : decode cX8_decrees 96 = .ok (.aload_n 0, 1) := okD_get dqb_55 8 rfl
theorem dX8_decrees_97 : decode cX8_decrees 97 = .ok (.iconst 0, 1) := okD_get dqb_55 9 rfl
theorem dX8_decrees_98 : decode cX8_decrees 98 = .ok (.putfield 141, 3) := okD_get dqb_55 10 rfl
theorem dX8_decrees_101 : decode cX8_decrees 101 = .ok (.aload_n 0, 1) := okD_get dqb_55 11 rfl
theorem dX8_decrees_102 : decode cX8_decrees 102 = .ok (.getfield 177, 3) := okD_get dqb_55 12 rfl
theorem dX8_decrees_105 : decode cX8_decrees 105 = .ok (.ifCond .eq 10, 3) := okD_get dqb_55 13 rfl
theorem dX8_decrees_108 : decode cX8_decrees 108 = .ok (.aload_n 0, 1) := okD_get dqb_55 14 rfl
theorem dX8_decrees_109 : decode cX8_decrees 109 = .ok (.bipush (-6), 2) := okD_get dqb_55 15 rfl
theorem dX8_decrees_111 : decode cX8_decrees 111 = .ok (.invokevirtual 101, 3) := okD_get dqb_55 16 rfl
theorem dX8_decrees_114 : decode cX8_decrees 114 = .ok (.ireturn, 1) := okD_get dqb_55 17 rfl
theorem dX8_decrees_115 : decode cX8_decrees 115 = .ok (.aload_n 0, 1) := okD_get dqb_55 18 rfl
theorem dX8_decrees_116 : decode cX8_decrees 116 = .ok (.aload_n 0, 1) := okD_get dqb_55 19 rfl
theorem dX8_decrees_117 : decode cX8_decrees 117 = .ok (.getfield 192, 3) := okD_get dqb_55 20 rfl
theorem dX8_decrees_120 : decode cX8_decrees 120 = .ok (.putfield 204, 3) := okD_get dqb_55 21 rfl
theorem dX8_decrees_123 : decode cX8_decrees 123 = .ok (.iconst 0, 1) := okD_get dqb_55 22 rfl
theorem dX8_decrees_124 : decode cX8_decrees 124 = .ok (.istore_n 1, 1) := okD_get dqb_55 23 rfl
theorem dX8_decrees_125 : decode cX8_decrees 125 = .ok (.iload_n 1, 1) := okD_get dqb_55 24 rfl
theorem dX8_decrees_126 : decode cX8_decrees 126 = .ok (.aload_n 0, 1) := okD_get dqb_55 25 rfl
theorem dX8_decrees_127 : decode cX8_decrees 127 = .ok (.getfield 204, 3) := okD_get dqb_55 26 rfl
theorem dX8_decrees_130 : decode cX8_decrees 130 = .ok (.if_icmp .ge 71, 3) := okD_get dqb_55 27 rfl
theorem dX8_decrees_133 : decode cX8_decrees 133 = .ok (.aload_n 0, 1) := okD_get dqb_55 28 rfl
theorem dX8_decrees_134 : decode cX8_decrees 134 = .ok (.getfield 44, 3) := okD_get dqb_55 29 rfl
theorem dX8_decrees_137 : decode cX8_decrees 137 = .ok (.iload_n 1, 1) := okD_get dqb_55 30 rfl
theorem dX8_decrees_138 : decode cX8_decrees 138 = .ok (.aload_n 0, 1) := okD_get dqb_55 31 rfl
theorem dX8_decrees_139 : decode cX8_decrees 139 = .ok (.getfield 56, 3) := okD_get dqb_55 32 rfl
theorem dX8_decrees_142 : decode cX8_decrees 142 = .ok (.iconst 4, 1) := okD_get dqb_55 33 rfl
theorem dX8_decrees_143 : decode cX8_decrees 143 = .ok (.iload_n 1, 1) := okD_get dqb_55 34 rfl
theorem dX8_decrees_144 : decode cX8_decrees 144 = .ok (.imul, 1) := okD_get dqb_55 35 rfl
theorem dX8_decrees_145 : decode cX8_decrees 145 = .ok (.iaload, 1) := okD_get dqb_55 36 rfl
theorem dX8_decrees_146 : decode cX8_decrees 146 = .ok (.iastore, 1) := okD_get dqb_55 37 rfl
theorem dX8_decrees_147 : decode cX8_decrees 147 = .ok (.aload_n 0, 1) := okD_get dqb_55 38 rfl
theorem dX8_decrees_148 : decode cX8_decrees 148 = .ok (.getfield 47, 3) := okD_get dqb_55 39 rfl
theorem dqb_56 : okD cX8_decrees [(151, (.iload_n 1, 1)), (152, (.aload_n 0, 1)), (153, (.getfield 56, 3)), (156, (.iconst 4, 1)), (157, (.iload_n 1, 1)), (158, (.imul, 1)), (159, (.iconst 1, 1)), (160, (.iadd, 1)), (161, (.iaload, 1)), (162, (.iastore, 1)), (163, (.aload_n 0, 1)), (164, (.getfield 50, 3)), (167, (.iload_n 1, 1)), (168, (.aload_n 0, 1)), (169, (.getfield 56, 3)), (172, (.iconst 4, 1)), (173, (.iload_n 1, 1)), (174, (.imul, 1)), (175, (.iconst 2, 1)), (176, (.iadd, 1)), (177, (.iaload, 1)), (178, (.iastore, 1)), (179, (.aload_n 0, 1)), (180, (.getfield 53, 3)), (183, (.iload_n 1, 1)), (184, (.aload_n 0, 1)), (185, (.getfield 56, 3)), (188, (.iconst 4, 1)), (189, (.iload_n 1, 1)), (190, (.imul, 1)), (191, (.iconst 3, 1)), (192, (.iadd, 1)), (193, (.iaload, 1)), (194, (.iastore, 1)), (195, (.iinc 1 1, 3)), (198, (.goto (-73), 3)), (201, (.aload_n 0, 1)), (202, (.aload_n 0, 1)), (203, (.getfield 204, 3)), (206, (.invokevirtual 101, 3))] = true := by decide +kernel
theorem dX8_decrees_151 : decode cX8_decrees 151 = .ok (.iload_n 1, 1) := okD_get dqb_56 0 rfl
theorem dX8_decrees_152 : decode cX8_decrees 152 = .ok (.aload_n 0, 1) := okD_get dqb_56 1 rfl
theorem dX8_decrees_153 : decode cX8_decrees 153 = .ok (.getfield 56, 3) := okD_get dqb_56 2 rfl
theorem dX8_decrees_156 : decode cX8_decrees 156 = .ok (.iconst 4, 1) := okD_get dqb_56 3 rfl
theorem dX8_decrees_157 : decode cX8_decrees 157 = .ok (.iload_n 1, 1) := okD_get dqb_56 4 rfl
theorem dX8_decrees_158 : decode cX8_decrees 158 = .ok (.imul, 1) := okD_get dqb_56 5 rfl
theorem dX8_decrees_159 : decode cX8_decrees 159 = .ok (.iconst 1, 1) := okD_get dqb_56 6 rfl
theorem dX8_decrees_160 : decode cX8_decrees 160 = .ok (.iadd, 1) := okD_get dqb_56 7 rfl
theorem dX8_decrees_161 : decode cX8_decrees 161 = .ok (.iaload, 1) := okD_get dqb_56 8 rfl
theorem dX8_decrees_162 : decode cX8_decrees 162 = .ok (.iastore, 1) := okD_get dqb_56 9 rfl
theorem dX8_decrees_163 : decode cX8_decrees 163 = .ok (.aload_n 0, 1) := okD_get dqb_56 10 rfl
theorem dX8_decrees_164 : decode cX8_decrees 164 = .ok (.getfield 50, 3) := okD_get dqb_56 11 rfl
theorem dX8_decrees_167 : decode cX8_decrees 167 = .ok (.iload_n 1, 1) := okD_get dqb_56 12 rfl
theorem dX8_decrees_168 : decode cX8_decrees 168 = .ok (.aload_n 0, 1) := okD_get dqb_56 13 rfl
theorem dX8_decrees_169 : decode cX8_decrees 169 = .ok (.getfield 56, 3) := okD_get dqb_56 14 rfl
theorem dX8_decrees_172 : decode cX8_decrees 172 = .ok (.iconst 4, 1) := okD_get dqb_56 15 rfl
theorem dX8_decrees_173 : decode cX8_decrees 173 = .ok (.iload_n 1, 1) := okD_get dqb_56 16 rfl
theorem dX8_decrees_174 : decode cX8_decrees 174 = .ok (.imul, 1) := okD_get dqb_56 17 rfl
theorem dX8_decrees_175 : decode cX8_decrees 175 = .ok (.iconst 2, 1) := okD_get dqb_56 18 rfl
theorem dX8_decrees_176 : decode cX8_decrees 176 = .ok (.iadd, 1) := okD_get dqb_56 19 rfl
theorem dX8_decrees_177 : decode cX8_decrees 177 = .ok (.iaload, 1) := okD_get dqb_56 20 rfl
theorem dX8_decrees_178 : decode cX8_decrees 178 = .ok (.iastore, 1) := okD_get dqb_56 21 rfl
theorem dX8_decrees_179 : decode cX8_decrees 179 = .ok (.aload_n 0, 1) := okD_get dqb_56 22 rfl
theorem dX8_decrees_180 : decode cX8_decrees 180 = .ok (.getfield 53, 3) := okD_get dqb_56 23 rfl
theorem dX8_decrees_183 : decode cX8_decrees 183 = .ok (.iload_n 1, 1) := okD_get dqb_56 24 rfl
theorem dX8_decrees_184 : decode cX8_decrees 184 = .ok (.aload_n 0, 1) := okD_get dqb_56 25 rfl
theorem dX8_decrees_185 : decode cX8_decrees 185 = .ok (.getfield 56, 3) := okD_get dqb_56 26 rfl
theorem dX8_decrees_188 : decode cX8_decrees 188 = .ok (.iconst 4, 1) := okD_get dqb_56 27 rfl
theorem dX8_decrees_189 : decode cX8_decrees 189 = .ok (.iload_n 1, 1) := okD_get dqb_56 28 rfl
theorem dX8_decrees_190 : decode cX8_decrees 190 = .ok (.imul, 1) := okD_get dqb_56 29 rfl
theorem dX8_decrees_191 : decode cX8_decrees 191 = .ok (.iconst 3, 1) := okD_get dqb_56 30 rfl
theorem dX8_decrees_192 : decode cX8_decrees 192 = .ok (.iadd, 1) := okD_get dqb_56 31 rfl
theorem dX8_decrees_193 : decode cX8_decrees 193 = .ok (.iaload, 1) := okD_get dqb_56 32 rfl
theorem dX8_decrees_194 : decode cX8_decrees 194 = .ok (.iastore, 1) := okD_get dqb_56 33 rfl
theorem dX8_decrees_195 : decode cX8_decrees 195 = .ok (.iinc 1 1, 3) := okD_get dqb_56 34 rfl
theorem dX8_decrees_198 : decode cX8_decrees 198 = .ok (.goto (-73), 3) := okD_get dqb_56 35 rfl
theorem dX8_decrees_201 : decode cX8_decrees 201 = .ok (.aload_n 0, 1) := okD_get dqb_56 36 rfl
theorem dX8_decrees_202 : decode cX8_decrees 202 = .ok (.aload_n 0, 1) := okD_get dqb_56 37 rfl
theorem dX8_decrees_203 : decode cX8_decrees 203 = .ok (.getfield 204, 3) := okD_get dqb_56 38 rfl
theorem dX8_decrees_206 : decode cX8_decrees 206 = .ok (.invokevirtual 101, 3) := okD_get dqb_56 39 rfl
theorem dqb_57 : okD cX8_decrees [(209, (.ireturn, 1))] = true := by decide +kernel
theorem dX8_decrees_209 : decode cX8_decrees 209 = .ok (.ireturn, 1) := okD_get dqb_57 0 rfl
theorem dqb_58 : okD cX8_fault [(0, (.aload_n 0, 1)), (1, (.iconst 0, 1)), (2, (.putfield 78, 3)), (5, (.aload_n 0, 1)), (6, (.getfield 62, 3)), (9, (.ireturn, 1))] = true := by decide +kernel
theorem dX8_fault_0 : decode cX8_fault 0 = .ok (.aload_n 0, 1) := okD_get dqb_58 0 rfl
theorem dX8_fault_1 : decode cX8_fault 1 = .ok (.iconst 0, 1) := okD_get dqb_58 1 rfl
theorem dX8_fault_2 : decode cX8_fault 2 = .ok (.putfield 78, 3) := okD_get dqb_58 2 rfl
theorem dX8_fault_5 : decode cX8_fault 5 = .ok (.aload_n 0, 1) := okD_get dqb_58 3 rfl
theorem dX8_fault_6 : decode cX8_fault 6 = .ok (.getfield 62, 3) := okD_get dqb_58 4 rfl
theorem dX8_fault_9 : decode cX8_fault 9 = .ok (.ireturn, 1) := okD_get dqb_58 5 rfl
theorem dqb_59 : okD cX8_reckon [(0, (.aload_n 0, 1)), (1, (.aload_n 0, 1)), (2, (.iload_n 1, 1)), (3, (.invokevirtual 138, 3)), (6, (.putfield 207, 3)), (9, (.aload_n 0, 1)), (10, (.iload_n 1, 1)), (11, (.invokevirtual 135, 3)), (14, (.istore_n 2, 1)), (15, (.aload_n 0, 1)), (16, (.invokevirtual 112, 3)), (19, (.istore_n 3, 1)), (20, (.iconst (-1), 1)), (21, (.istore 4, 2)), (23, (.iconst (-1), 1)), (24, (.istore 5, 2)), (26, (.iconst 0, 1)), (27, (.istore 6, 2)), (29, (.iconst (-1), 1)), (30, (.istore 7, 2)), (32, (.iconst 0, 1)), (33, (.istore 8, 2)), (35, (.iload 8, 2)), (37, (.aload_n 0, 1)), (38, (.getfield 204, 3)), (41, (.if_icmp .ge 149, 3)), (44, (.aload_n 0, 1)), (45, (.getfield 44, 3)), (48, (.iload 8, 2)), (50, (.iaload, 1)), (51, (.ifCond .ne 40, 3)), (54, (.aload_n 0, 1)), (55, (.getfield 53, 3)), (58, (.iload 8, 2)), (60, (.iaload, 1)), (61, (.iload_n 3, 1)), (62, (.if_icmp .gt 29, 3)), (65, (.iload 4, 2)), (67, (.ifCond .lt 20, 3)), (70, (.aload_n 0, 1))] = true := by decide +kernel
theorem dX8_reckon_0 : decode cX8_reckon 0 = .ok (.aload_n 0, 1) := okD_get dqb_59 0 rfl
theorem dX8_reckon_1 : decode cX8_reckon 1 = .ok (.aload_n 0, 1) := okD_get dqb_59 1 rfl
theorem dX8_reckon_2 : decode cX8_reckon 2 = .ok (.iload_n 1, 1) := okD_get dqb_59 2 rfl
theorem dX8_reckon_3 : decode cX8_reckon 3 = .ok (.invokevirtual 138, 3) := okD_get dqb_59 3 rfl
theorem dX8_reckon_6 : decode cX8_reckon 6 = .ok (.putfield 207, 3) := okD_get dqb_59 4 rfl
theorem dX8_reckon_9 : decode cX8_reckon 9 = .ok (.aload_n 0, 1) := okD_get dqb_59 5 rfl
theorem dX8_reckon_10 : decode cX8_reckon 10 = .ok (.iload_n 1, 1) := okD_get dqb_59 6 rfl
theorem dX8_reckon_11 : decode cX8_reckon 11 = .ok (.invokevirtual 135, 3) := okD_get dqb_59 7 rfl
theorem dX8_reckon_14 : decode cX8_reckon 14 = .ok (.istore_n 2, 1) := okD_get dqb_59 8 rfl
theorem dX8_reckon_15 : decode cX8_reckon 15 = .ok (.aload_n 0, 1) := okD_get dqb_59 9 rfl
theorem dX8_reckon_16 : decode cX8_reckon 16 = .ok (.invokevirtual 112, 3) := okD_get dqb_59 10 rfl
theorem dX8_reckon_19 : decode cX8_reckon 19 = .ok (.istore_n 3, 1) := okD_get dqb_59 11 rfl
theorem dX8_reckon_20 : decode cX8_reckon 20 = .ok (.iconst (-1), 1) := okD_get dqb_59 12 rfl
theorem dX8_reckon_21 : decode cX8_reckon 21 = .ok (.istore 4, 2) := okD_get dqb_59 13 rfl
theorem dX8_reckon_23 : decode cX8_reckon 23 = .ok (.iconst (-1), 1) := okD_get dqb_59 14 rfl
theorem dX8_reckon_24 : decode cX8_reckon 24 = .ok (.istore 5, 2) := okD_get dqb_59 15 rfl
theorem dX8_reckon_26 : decode cX8_reckon 26 = .ok (.iconst 0, 1) := okD_get dqb_59 16 rfl
theorem dX8_reckon_27 : decode cX8_reckon 27 = .ok (.istore 6, 2) := okD_get dqb_59 17 rfl
theorem dX8_reckon_29 : decode cX8_reckon 29 = .ok (.iconst (-1), 1) := okD_get dqb_59 18 rfl
theorem dX8_reckon_30 : decode cX8_reckon 30 = .ok (.istore 7, 2) := okD_get dqb_59 19 rfl
theorem dX8_reckon_32 : decode cX8_reckon 32 = .ok (.iconst 0, 1) := okD_get dqb_59 20 rfl
theorem dX8_reckon_33 : decode cX8_reckon 33 = .ok (.istore 8, 2) := okD_get dqb_59 21 rfl
theorem dX8_reckon_35 : decode cX8_reckon 35 = .ok (.iload 8, 2) := okD_get dqb_59 22 rfl
theorem dX8_reckon_37 : decode cX8_reckon 37 = .ok (.aload_n 0, 1) := okD_get dqb_59 23 rfl
theorem dX8_reckon_38 : decode cX8_reckon 38 = .ok (.getfield 204, 3) := okD_get dqb_59 24 rfl
theorem dX8_reckon_41 : decode cX8_reckon 41 = .ok (.if_icmp .ge 149, 3) := okD_get dqb_59 25 rfl
theorem dX8_reckon_44 : decode cX8_reckon 44 = .ok (.aload_n 0, 1) := okD_get dqb_59 26 rfl
theorem dX8_reckon_45 : decode cX8_reckon 45 = .ok (.getfield 44, 3) := okD_get dqb_59 27 rfl
theorem dX8_reckon_48 : decode cX8_reckon 48 = .ok (.iload 8, 2) := okD_get dqb_59 28 rfl
theorem dX8_reckon_50 : decode cX8_reckon 50 = .ok (.iaload, 1) := okD_get dqb_59 29 rfl
theorem dX8_reckon_51 : decode cX8_reckon 51 = .ok (.ifCond .ne 40, 3) := okD_get dqb_59 30 rfl
theorem dX8_reckon_54 : decode cX8_reckon 54 = .ok (.aload_n 0, 1) := okD_get dqb_59 31 rfl
theorem dX8_reckon_55 : decode cX8_reckon 55 = .ok (.getfield 53, 3) := okD_get dqb_59 32 rfl
theorem dX8_reckon_58 : decode cX8_reckon 58 = .ok (.iload 8, 2) := okD_get dqb_59 33 rfl
theorem dX8_reckon_60 : decode cX8_reckon 60 = .ok (.iaload, 1) := okD_get dqb_59 34 rfl
theorem dX8_reckon_61 : decode cX8_reckon 61 = .ok (.iload_n 3, 1) := okD_get dqb_59 35 rfl
theorem dX8_reckon_62 : decode cX8_reckon 62 = .ok (.if_icmp .gt 29, 3) := okD_get dqb_59 36 rfl
theorem dX8_reckon_65 : decode cX8_reckon 65 = .ok (.iload 4, 2) := okD_get dqb_59 37 rfl
theorem dX8_reckon_67 : decode cX8_reckon 67 = .ok (.ifCond .lt 20, 3) := okD_get dqb_59 38 rfl
theorem dX8_reckon_70 : decode cX8_reckon 70 = .ok (.aload_n 0, 1) := okD_get dqb_59 39 rfl
theorem dqb_60 : okD cX8_reckon [(71, (.getfield 53, 3)), (74, (.iload 8, 2)), (76, (.iaload, 1)), (77, (.aload_n 0, 1)), (78, (.getfield 53, 3)), (81, (.iload 4, 2)), (83, (.iaload, 1)), (84, (.if_icmp .lt 7, 3)), (87, (.iload 8, 2)), (89, (.istore 4, 2)), (91, (.aload_n 0, 1)), (92, (.getfield 44, 3)), (95, (.iload 8, 2)), (97, (.iaload, 1)), (98, (.iconst 1, 1)), (99, (.if_icmp .ne 40, 3)), (102, (.aload_n 0, 1)), (103, (.getfield 53, 3)), (106, (.iload 8, 2)), (108, (.iaload, 1)), (109, (.iload_n 2, 1)), (110, (.if_icmp .le 29, 3)), (113, (.iload 5, 2)), (115, (.ifCond .lt 20, 3)), (118, (.aload_n 0, 1)), (119, (.getfield 53, 3)), (122, (.iload 8, 2)), (124, (.iaload, 1)), (125, (.aload_n 0, 1)), (126, (.getfield 53, 3)), (129, (.iload 5, 2)), (131, (.iaload, 1)), (132, (.if_icmp .gt 7, 3)), (135, (.iload 8, 2)), (137, (.istore 5, 2)), (139, (.aload_n 0, 1)), (140, (.getfield 44, 3)), (143, (.iload 8, 2)), (145, (.iaload, 1)), (146, (.iconst 2, 1))] = true := by decide +kernel
theorem dX8_reckon_71 : decode cX8_reckon 71 = .ok (.getfield 53, 3) := okD_get dqb_60 0 rfl
theorem dX8_reckon_74 : decode cX8_reckon 74 = .ok (.iload 8, 2) := okD_get dqb_60 1 rfl
theorem dX8_reckon_76 : decode cX8_reckon 76 = .ok (.iaload, 1) := okD_get dqb_60 2 rfl
theorem dX8_reckon_77 : decode cX8_reckon 77 = .ok (.aload_n 0, 1) := okD_get dqb_60 3 rfl
theorem dX8_reckon_78 : decode cX8_reckon 78 = .ok (.getfield 53, 3) := okD_get dqb_60 4 rfl
theorem dX8_reckon_81 : decode cX8_reckon 81 = .ok (.iload 4, 2) := okD_get dqb_60 5 rfl
theorem dX8_reckon_83 : decode cX8_reckon 83 = .ok (.iaload, 1) := okD_get dqb_60 6 rfl
theorem dX8_reckon_84 : decode cX8_reckon 84 = .ok (.if_icmp .lt 7, 3) := okD_get dqb_60 7 rfl
theorem dX8_reckon_87 : decode cX8_reckon 87 = .ok (.iload 8, 2) := okD_get dqb_60 8 rfl
theorem dX8_reckon_89 : decode cX8_reckon 89 = .ok (.istore 4, 2) := okD_get dqb_60 9 rfl
theorem dX8_reckon_91 : decode cX8_reckon 91 = .ok (.aload_n 0, 1) := okD_get dqb_60 10 rfl
theorem dX8_reckon_92 : decode cX8_reckon 92 = .ok (.getfield 44, 3) := okD_get dqb_60 11 rfl
theorem dX8_reckon_95 : decode cX8_reckon 95 = .ok (.iload 8, 2) := okD_get dqb_60 12 rfl
theorem dX8_reckon_97 : decode cX8_reckon 97 = .ok (.iaload, 1) := okD_get dqb_60 13 rfl
theorem dX8_reckon_98 : decode cX8_reckon 98 = .ok (.iconst 1, 1) := okD_get dqb_60 14 rfl
theorem dX8_reckon_99 : decode cX8_reckon 99 = .ok (.if_icmp .ne 40, 3) := okD_get dqb_60 15 rfl
theorem dX8_reckon_102 : decode cX8_reckon 102 = .ok (.aload_n 0, 1) := okD_get dqb_60 16 rfl
theorem dX8_reckon_103 : decode cX8_reckon 103 = .ok (.getfield 53, 3) := okD_get dqb_60 17 rfl
theorem dX8_reckon_106 : decode cX8_reckon 106 = .ok (.iload 8, 2) := okD_get dqb_60 18 rfl
theorem dX8_reckon_108 : decode cX8_reckon 108 = .ok (.iaload, 1) := okD_get dqb_60 19 rfl
theorem dX8_reckon_109 : decode cX8_reckon 109 = .ok (.iload_n 2, 1) := okD_get dqb_60 20 rfl
theorem dX8_reckon_110 : decode cX8_reckon 110 = .ok (.if_icmp .le 29, 3) := okD_get dqb_60 21 rfl
theorem dX8_reckon_113 : decode cX8_reckon 113 = .ok (.iload 5, 2) := okD_get dqb_60 22 rfl
theorem dX8_reckon_115 : decode cX8_reckon 115 = .ok (.ifCond .lt 20, 3) := okD_get dqb_60 23 rfl
theorem dX8_reckon_118 : decode cX8_reckon 118 = .ok (.aload_n 0, 1) := okD_get dqb_60 24 rfl
theorem dX8_reckon_119 : decode cX8_reckon 119 = .ok (.getfield 53, 3) := okD_get dqb_60 25 rfl
theorem dX8_reckon_122 : decode cX8_reckon 122 = .ok (.iload 8, 2) := okD_get dqb_60 26 rfl
theorem dX8_reckon_124 : decode cX8_reckon 124 = .ok (.iaload, 1) := okD_get dqb_60 27 rfl
theorem dX8_reckon_125 : decode cX8_reckon 125 = .ok (.aload_n 0, 1) := okD_get dqb_60 28 rfl
theorem dX8_reckon_126 : decode cX8_reckon 126 = .ok (.getfield 53, 3) := okD_get dqb_60 29 rfl
theorem dX8_reckon_129 : decode cX8_reckon 129 = .ok (.iload 5, 2) := okD_get dqb_60 30 rfl
theorem dX8_reckon_131 : decode cX8_reckon 131 = .ok (.iaload, 1) := okD_get dqb_60 31 rfl
theorem dX8_reckon_132 : decode cX8_reckon 132 = .ok (.if_icmp .gt 7, 3) := okD_get dqb_60 32 rfl
theorem dX8_reckon_135 : decode cX8_reckon 135 = .ok (.iload 8, 2) := okD_get dqb_60 33 rfl
theorem dX8_reckon_137 : decode cX8_reckon 137 = .ok (.istore 5, 2) := okD_get dqb_60 34 rfl
theorem dX8_reckon_139 : decode cX8_reckon 139 = .ok (.aload_n 0, 1) := okD_get dqb_60 35 rfl
theorem dX8_reckon_140 : decode cX8_reckon 140 = .ok (.getfield 44, 3) := okD_get dqb_60 36 rfl
theorem dX8_reckon_143 : decode cX8_reckon 143 = .ok (.iload 8, 2) := okD_get dqb_60 37 rfl
theorem dX8_reckon_145 : decode cX8_reckon 145 = .ok (.iaload, 1) := okD_get dqb_60 38 rfl
theorem dX8_reckon_146 : decode cX8_reckon 146 = .ok (.iconst 2, 1) := okD_get dqb_60 39 rfl
theorem dqb_61 : okD cX8_reckon [(147, (.if_icmp .ne 13, 3)), (150, (.aload_n 0, 1)), (151, (.getfield 47, 3)), (154, (.iload 8, 2)), (156, (.iaload, 1)), (157, (.goto 5, 3)), (160, (.iload 6, 2)), (162, (.istore 6, 2)), (164, (.aload_n 0, 1)), (165, (.getfield 44, 3)), (168, (.iload 8, 2)), (170, (.iaload, 1)), (171, (.iconst 3, 1)), (172, (.if_icmp .ne 8, 3)), (175, (.iload 8, 2)), (177, (.goto 5, 3)), (180, (.iload 7, 2)), (182, (.istore 7, 2)), (184, (.iinc 8 1, 3)), (187, (.goto (-152), 3)), (190, (.aload_n 0, 1)), (191, (.getfield 207, 3)), (194, (.iload 6, 2)), (196, (.if_icmp .lt 8, 3)), (199, (.iload 4, 2)), (201, (.ifCond .ge 7, 3)), (204, (.iconst 0, 1)), (205, (.goto 27, 3)), (208, (.aload_n 0, 1)), (209, (.getfield 207, 3)), (212, (.i2l, 1)), (213, (.aload_n 0, 1)), (214, (.getfield 47, 3)), (217, (.iload 4, 2)), (219, (.iaload, 1)), (220, (.i2l, 1)), (221, (.lmul, 1)), (222, (.aload_n 0, 1)), (223, (.getfield 50, 3)), (226, (.iload 4, 2))] = true := by decide +kernel
theorem dX8_reckon_147 : decode cX8_reckon 147 = .ok (.if_icmp .ne 13, 3) := okD_get dqb_61 0 rfl
theorem dX8_reckon_150 : decode cX8_reckon 150 = .ok (.aload_n 0, 1) := okD_get dqb_61 1 rfl
theorem dX8_reckon_151 : decode cX8_reckon 151 = .ok (.getfield 47, 3) := okD_get dqb_61 2 rfl
theorem dX8_reckon_154 : decode cX8_reckon 154 = .ok (.iload 8, 2) := okD_get dqb_61 3 rfl
theorem dX8_reckon_156 : decode cX8_reckon 156 = .ok (.iaload, 1) := okD_get dqb_61 4 rfl
theorem dX8_reckon_157 : decode cX8_reckon 157 = .ok (.goto 5, 3) := okD_get dqb_61 5 rfl
theorem dX8_reckon_160 : decode cX8_reckon 160 = .ok (.iload 6, 2) := okD_get dqb_61 6 rfl
theorem dX8_reckon_162 : decode cX8_reckon 162 = .ok (.istore 6, 2) := okD_get dqb_61 7 rfl
theorem dX8_reckon_164 : decode cX8_reckon 164 = .ok (.aload_n 0, 1) := okD_get dqb_61 8 rfl
theorem dX8_reckon_165 : decode cX8_reckon 165 = .ok (.getfield 44, 3) := okD_get dqb_61 9 rfl
theorem dX8_reckon_168 : decode cX8_reckon 168 = .ok (.iload 8, 2) := okD_get dqb_61 10 rfl
theorem dX8_reckon_170 : decode cX8_reckon 170 = .ok (.iaload, 1) := okD_get dqb_61 11 rfl
theorem dX8_reckon_171 : decode cX8_reckon 171 = .ok (.iconst 3, 1) := okD_get dqb_61 12 rfl
theorem dX8_reckon_172 : decode cX8_reckon 172 = .ok (.if_icmp .ne 8, 3) := okD_get dqb_61 13 rfl
theorem dX8_reckon_175 : decode cX8_reckon 175 = .ok (.iload 8, 2) := okD_get dqb_61 14 rfl
theorem dX8_reckon_177 : decode cX8_reckon 177 = .ok (.goto 5, 3) := okD_get dqb_61 15 rfl
theorem dX8_reckon_180 : decode cX8_reckon 180 = .ok (.iload 7, 2) := okD_get dqb_61 16 rfl
theorem dX8_reckon_182 : decode cX8_reckon 182 = .ok (.istore 7, 2) := okD_get dqb_61 17 rfl
theorem dX8_reckon_184 : decode cX8_reckon 184 = .ok (.iinc 8 1, 3) := okD_get dqb_61 18 rfl
theorem dX8_reckon_187 : decode cX8_reckon 187 = .ok (.goto (-152), 3) := okD_get dqb_61 19 rfl
theorem dX8_reckon_190 : decode cX8_reckon 190 = .ok (.aload_n 0, 1) := okD_get dqb_61 20 rfl
theorem dX8_reckon_191 : decode cX8_reckon 191 = .ok (.getfield 207, 3) := okD_get dqb_61 21 rfl
theorem dX8_reckon_194 : decode cX8_reckon 194 = .ok (.iload 6, 2) := okD_get dqb_61 22 rfl
theorem dX8_reckon_196 : decode cX8_reckon 196 = .ok (.if_icmp .lt 8, 3) := okD_get dqb_61 23 rfl
theorem dX8_reckon_199 : decode cX8_reckon 199 = .ok (.iload 4, 2) := okD_get dqb_61 24 rfl
theorem dX8_reckon_201 : decode cX8_reckon 201 = .ok (.ifCond .ge 7, 3) := okD_get dqb_61 25 rfl
theorem dX8_reckon_204 : decode cX8_reckon 204 = .ok (.iconst 0, 1) := okD_get dqb_61 26 rfl
theorem dX8_reckon_205 : decode cX8_reckon 205 = .ok (.goto 27, 3) := okD_get dqb_61 27 rfl
theorem dX8_reckon_208 : decode cX8_reckon 208 = .ok (.aload_n 0, 1) := okD_get dqb_61 28 rfl
theorem dX8_reckon_209 : decode cX8_reckon 209 = .ok (.getfield 207, 3) := okD_get dqb_61 29 rfl
theorem dX8_reckon_212 : decode cX8_reckon 212 = .ok (.i2l, 1) := okD_get dqb_61 30 rfl
theorem dX8_reckon_213 : decode cX8_reckon 213 = .ok (.aload_n 0, 1) := okD_get dqb_61 31 rfl
theorem dX8_reckon_214 : decode cX8_reckon 214 = .ok (.getfield 47, 3) := okD_get dqb_61 32 rfl
theorem dX8_reckon_217 : decode cX8_reckon 217 = .ok (.iload 4, 2) := okD_get dqb_61 33 rfl
theorem dX8_reckon_219 : decode cX8_reckon 219 = .ok (.iaload, 1) := okD_get dqb_61 34 rfl
theorem dX8_reckon_220 : decode cX8_reckon 220 = .ok (.i2l, 1) := okD_get dqb_61 35 rfl
theorem dX8_reckon_221 : decode cX8_reckon 221 = .ok (.lmul, 1) := okD_get dqb_61 36 rfl
theorem dX8_reckon_222 : decode cX8_reckon 222 = .ok (.aload_n 0, 1) := okD_get dqb_61 37 rfl
theorem dX8_reckon_223 : decode cX8_reckon 223 = .ok (.getfield 50, 3) := okD_get dqb_61 38 rfl
theorem dX8_reckon_226 : decode cX8_reckon 226 = .ok (.iload 4, 2) := okD_get dqb_61 39 rfl
theorem dqb_62 : okD cX8_reckon [(228, (.iaload, 1)), (229, (.i2l, 1)), (230, (.ldiv, 1)), (231, (.l2i, 1)), (232, (.istore 8, 2)), (234, (.aload_n 0, 1)), (235, (.iload 5, 2)), (237, (.ifCond .ge 7, 3)), (240, (.iconst 0, 1)), (241, (.goto 25, 3)), (244, (.iload 8, 2)), (246, (.i2l, 1)), (247, (.aload_n 0, 1)), (248, (.getfield 47, 3)), (251, (.iload 5, 2)), (253, (.iaload, 1)), (254, (.i2l, 1)), (255, (.lmul, 1)), (256, (.aload_n 0, 1)), (257, (.getfield 50, 3)), (260, (.iload 5, 2)), (262, (.iaload, 1)), (263, (.i2l, 1)), (264, (.ldiv, 1)), (265, (.l2i, 1)), (266, (.putfield 210, 3)), (269, (.aload_n 0, 1)), (270, (.iload 8, 2)), (272, (.aload_n 0, 1)), (273, (.getfield 210, 3)), (276, (.isub, 1)), (277, (.putfield 213, 3)), (280, (.aload_n 0, 1)), (281, (.iload 7, 2)), (283, (.ifCond .ge 7, 3)), (286, (.iconst 0, 1)), (287, (.goto 27, 3)), (290, (.aload_n 0, 1)), (291, (.getfield 213, 3)), (294, (.i2l, 1))] = true := by decide +kernel
theorem dX8_reckon_228 : decode cX8_reckon 228 = .ok (.iaload, 1) := okD_get dqb_62 0 rfl
theorem dX8_reckon_229 : decode cX8_reckon 229 = .ok (.i2l, 1) := okD_get dqb_62 1 rfl
theorem dX8_reckon_230 : decode cX8_reckon 230 = .ok (.ldiv, 1) := okD_get dqb_62 2 rfl
theorem dX8_reckon_231 : decode cX8_reckon 231 = .ok (.l2i, 1) := okD_get dqb_62 3 rfl
theorem dX8_reckon_232 : decode cX8_reckon 232 = .ok (.istore 8, 2) := okD_get dqb_62 4 rfl
theorem dX8_reckon_234 : decode cX8_reckon 234 = .ok (.aload_n 0, 1) := okD_get dqb_62 5 rfl
theorem dX8_reckon_235 : decode cX8_reckon 235 = .ok (.iload 5, 2) := okD_get dqb_62 6 rfl
theorem dX8_reckon_237 : decode cX8_reckon 237 = .ok (.ifCond .ge 7, 3) := okD_get dqb_62 7 rfl
theorem dX8_reckon_240 : decode cX8_reckon 240 = .ok (.iconst 0, 1) := okD_get dqb_62 8 rfl
theorem dX8_reckon_241 : decode cX8_reckon 241 = .ok (.goto 25, 3) := okD_get dqb_62 9 rfl
theorem dX8_reckon_244 : decode cX8_reckon 244 = .ok (.iload 8, 2) := okD_get dqb_62 10 rfl
theorem dX8_reckon_246 : decode cX8_reckon 246 = .ok (.i2l, 1) := okD_get dqb_62 11 rfl
theorem dX8_reckon_247 : decode cX8_reckon 247 = .ok (.aload_n 0, 1) := okD_get dqb_62 12 rfl
theorem dX8_reckon_248 : decode cX8_reckon 248 = .ok (.getfield 47, 3) := okD_get dqb_62 13 rfl
theorem dX8_reckon_251 : decode cX8_reckon 251 = .ok (.iload 5, 2) := okD_get dqb_62 14 rfl
theorem dX8_reckon_253 : decode cX8_reckon 253 = .ok (.iaload, 1) := okD_get dqb_62 15 rfl
theorem dX8_reckon_254 : decode cX8_reckon 254 = .ok (.i2l, 1) := okD_get dqb_62 16 rfl
theorem dX8_reckon_255 : decode cX8_reckon 255 = .ok (.lmul, 1) := okD_get dqb_62 17 rfl
theorem dX8_reckon_256 : decode cX8_reckon 256 = .ok (.aload_n 0, 1) := okD_get dqb_62 18 rfl
theorem dX8_reckon_257 : decode cX8_reckon 257 = .ok (.getfield 50, 3) := okD_get dqb_62 19 rfl
theorem dX8_reckon_260 : decode cX8_reckon 260 = .ok (.iload 5, 2) := okD_get dqb_62 20 rfl
theorem dX8_reckon_262 : decode cX8_reckon 262 = .ok (.iaload, 1) := okD_get dqb_62 21 rfl
theorem dX8_reckon_263 : decode cX8_reckon 263 = .ok (.i2l, 1) := okD_get dqb_62 22 rfl
theorem dX8_reckon_264 : decode cX8_reckon 264 = .ok (.ldiv, 1) := okD_get dqb_62 23 rfl
theorem dX8_reckon_265 : decode cX8_reckon 265 = .ok (.l2i, 1) := okD_get dqb_62 24 rfl
theorem dX8_reckon_266 : decode cX8_reckon 266 = .ok (.putfield 210, 3) := okD_get dqb_62 25 rfl
theorem dX8_reckon_269 : decode cX8_reckon 269 = .ok (.aload_n 0, 1) := okD_get dqb_62 26 rfl
theorem dX8_reckon_270 : decode cX8_reckon 270 = .ok (.iload 8, 2) := okD_get dqb_62 27 rfl
theorem dX8_reckon_272 : decode cX8_reckon 272 = .ok (.aload_n 0, 1) := okD_get dqb_62 28 rfl
theorem dX8_reckon_273 : decode cX8_reckon 273 = .ok (.getfield 210, 3) := okD_get dqb_62 29 rfl
theorem dX8_reckon_276 : decode cX8_reckon 276 = .ok (.isub, 1) := okD_get dqb_62 30 rfl
theorem dX8_reckon_277 : decode cX8_reckon 277 = .ok (.putfield 213, 3) := okD_get dqb_62 31 rfl
theorem dX8_reckon_280 : decode cX8_reckon 280 = .ok (.aload_n 0, 1) := okD_get dqb_62 32 rfl
theorem dX8_reckon_281 : decode cX8_reckon 281 = .ok (.iload 7, 2) := okD_get dqb_62 33 rfl
theorem dX8_reckon_283 : decode cX8_reckon 283 = .ok (.ifCond .ge 7, 3) := okD_get dqb_62 34 rfl
theorem dX8_reckon_286 : decode cX8_reckon 286 = .ok (.iconst 0, 1) := okD_get dqb_62 35 rfl
theorem dX8_reckon_287 : decode cX8_reckon 287 = .ok (.goto 27, 3) := okD_get dqb_62 36 rfl
theorem dX8_reckon_290 : decode cX8_reckon 290 = .ok (.aload_n 0, 1) := okD_get dqb_62 37 rfl
theorem dX8_reckon_291 : decode cX8_reckon 291 = .ok (.getfield 213, 3) := okD_get dqb_62 38 rfl
theorem dX8_reckon_294 : decode cX8_reckon 294 = .ok (.i2l, 1) := okD_get dqb_62 39 rfl
theorem dqb_63 : okD cX8_reckon [(295, (.aload_n 0, 1)), (296, (.getfield 47, 3)), (299, (.iload 7, 2)), (301, (.iaload, 1)), (302, (.i2l, 1)), (303, (.lmul, 1)), (304, (.aload_n 0, 1)), (305, (.getfield 50, 3)), (308, (.iload 7, 2)), (310, (.iaload, 1)), (311, (.i2l, 1)), (312, (.ldiv, 1)), (313, (.l2i, 1)), (314, (.putfield 216, 3)), (317, (.return_, 1))] = true := by decide +kernel
theorem dX8_reckon_295 : decode cX8_reckon 295 = .ok (.aload_n 0, 1) := okD_get dqb_63 0 rfl
theorem dX8_reckon_296 : decode cX8_reckon 296 = .ok (.getfield 47, 3) := okD_get dqb_63 1 rfl
theorem dX8_reckon_299 : decode cX8_reckon 299 = .ok (.iload 7, 2) := okD_get dqb_63 2 rfl
theorem dX8_reckon_301 : decode cX8_reckon 301 = .ok (.iaload, 1) := okD_get dqb_63 3 rfl
theorem dX8_reckon_302 : decode cX8_reckon 302 = .ok (.i2l, 1) := okD_get dqb_63 4 rfl
theorem dX8_reckon_303 : decode cX8_reckon 303 = .ok (.lmul, 1) := okD_get dqb_63 5 rfl
theorem dX8_reckon_304 : decode cX8_reckon 304 = .ok (.aload_n 0, 1) := okD_get dqb_63 6 rfl
theorem dX8_reckon_305 : decode cX8_reckon 305 = .ok (.getfield 50, 3) := okD_get dqb_63 7 rfl
theorem dX8_reckon_308 : decode cX8_reckon 308 = .ok (.iload 7, 2) := okD_get dqb_63 8 rfl
theorem dX8_reckon_310 : decode cX8_reckon 310 = .ok (.iaload, 1) := okD_get dqb_63 9 rfl
theorem dX8_reckon_311 : decode cX8_reckon 311 = .ok (.i2l, 1) := okD_get dqb_63 10 rfl
theorem dX8_reckon_312 : decode cX8_reckon 312 = .ok (.ldiv, 1) := okD_get dqb_63 11 rfl
theorem dX8_reckon_313 : decode cX8_reckon 313 = .ok (.l2i, 1) := okD_get dqb_63 12 rfl
theorem dX8_reckon_314 : decode cX8_reckon 314 = .ok (.putfield 216, 3) := okD_get dqb_63 13 rfl
theorem dX8_reckon_317 : decode cX8_reckon 317 = .ok (.return_, 1) := okD_get dqb_63 14 rfl
theorem dqb_64 : okD cX8_tax [(0, (.aload_n 0, 1)), (1, (.iconst 0, 1)), (2, (.putfield 78, 3)), (5, (.aload_n 0, 1)), (6, (.iload_n 1, 1)), (7, (.invokevirtual 121, 3)), (10, (.ifCond .eq 10, 3)), (13, (.iload_n 2, 1)), (14, (.invokestatic 98, 3)), (17, (.ifCond .ne 5, 3)), (20, (.iconst (-1), 1)), (21, (.ireturn, 1)), (22, (.aload_n 0, 1)), (23, (.iload_n 2, 1)), (24, (.bipush 119, 2)), (26, (.invokevirtual 108, 3)), (29, (.aload_n 0, 1)), (30, (.iload_n 1, 1)), (31, (.invokevirtual 219, 3)), (34, (.iload_n 3, 1)), (35, (.tableswitch 68 0 4 #[33, 38, 43, 48, 58], 33)), (68, (.aload_n 0, 1)), (69, (.getfield 213, 3)), (72, (.ireturn, 1)), (73, (.aload_n 0, 1)), (74, (.getfield 210, 3)), (77, (.ireturn, 1)), (78, (.aload_n 0, 1)), (79, (.getfield 216, 3)), (82, (.ireturn, 1)), (83, (.aload_n 0, 1)), (84, (.getfield 213, 3)), (87, (.aload_n 0, 1)), (88, (.getfield 216, 3)), (91, (.isub, 1)), (92, (.ireturn, 1)), (93, (.aload_n 0, 1)), (94, (.getfield 207, 3)), (97, (.aload_n 0, 1)), (98, (.getfield 213, 3))] = true := by decide +kernel
theorem dX8_tax_0 : decode cX8_tax 0 = .ok (.aload_n 0, 1) := okD_get dqb_64 0 rfl
theorem dX8_tax_1 : decode cX8_tax 1 = .ok (.iconst 0, 1) := okD_get dqb_64 1 rfl
theorem dX8_tax_2 : decode cX8_tax 2 = .ok (.putfield 78, 3) := okD_get dqb_64 2 rfl
theorem dX8_tax_5 : decode cX8_tax 5 = .ok (.aload_n 0, 1) := okD_get dqb_64 3 rfl
theorem dX8_tax_6 : decode cX8_tax 6 = .ok (.iload_n 1, 1) := okD_get dqb_64 4 rfl
theorem dX8_tax_7 : decode cX8_tax 7 = .ok (.invokevirtual 121, 3) := okD_get dqb_64 5 rfl
theorem dX8_tax_10 : decode cX8_tax 10 = .ok (.ifCond .eq 10, 3) := okD_get dqb_64 6 rfl
theorem dX8_tax_13 : decode cX8_tax 13 = .ok (.iload_n 2, 1) := okD_get dqb_64 7 rfl
theorem dX8_tax_14 : decode cX8_tax 14 = .ok (.invokestatic 98, 3) := okD_get dqb_64 8 rfl
theorem dX8_tax_17 : decode cX8_tax 17 = .ok (.ifCond .ne 5, 3) := okD_get dqb_64 9 rfl
theorem dX8_tax_20 : decode cX8_tax 20 = .ok (.iconst (-1), 1) := okD_get dqb_64 10 rfl
theorem dX8_tax_21 : decode cX8_tax 21 = .ok (.ireturn, 1) := okD_get dqb_64 11 rfl
theorem dX8_tax_22 : decode cX8_tax 22 = .ok (.aload_n 0, 1) := okD_get dqb_64 12 rfl
theorem dX8_tax_23 : decode cX8_tax 23 = .ok (.iload_n 2, 1) := okD_get dqb_64 13 rfl
theorem dX8_tax_24 : decode cX8_tax 24 = .ok (.bipush 119, 2) := okD_get dqb_64 14 rfl
theorem dX8_tax_26 : decode cX8_tax 26 = .ok (.invokevirtual 108, 3) := okD_get dqb_64 15 rfl
theorem dX8_tax_29 : decode cX8_tax 29 = .ok (.aload_n 0, 1) := okD_get dqb_64 16 rfl
theorem dX8_tax_30 : decode cX8_tax 30 = .ok (.iload_n 1, 1) := okD_get dqb_64 17 rfl
theorem dX8_tax_31 : decode cX8_tax 31 = .ok (.invokevirtual 219, 3) := okD_get dqb_64 18 rfl
theorem dX8_tax_34 : decode cX8_tax 34 = .ok (.iload_n 3, 1) := okD_get dqb_64 19 rfl
theorem dX8_tax_35 : decode cX8_tax 35 = .ok (.tableswitch 68 0 4 #[33, 38, 43, 48, 58], 33) := okD_get dqb_64 20 rfl
theorem dX8_tax_68 : decode cX8_tax 68 = .ok (.aload_n 0, 1) := okD_get dqb_64 21 rfl
theorem dX8_tax_69 : decode cX8_tax 69 = .ok (.getfield 213, 3) := okD_get dqb_64 22 rfl
theorem dX8_tax_72 : decode cX8_tax 72 = .ok (.ireturn, 1) := okD_get dqb_64 23 rfl
theorem dX8_tax_73 : decode cX8_tax 73 = .ok (.aload_n 0, 1) := okD_get dqb_64 24 rfl
theorem dX8_tax_74 : decode cX8_tax 74 = .ok (.getfield 210, 3) := okD_get dqb_64 25 rfl
theorem dX8_tax_77 : decode cX8_tax 77 = .ok (.ireturn, 1) := okD_get dqb_64 26 rfl
theorem dX8_tax_78 : decode cX8_tax 78 = .ok (.aload_n 0, 1) := okD_get dqb_64 27 rfl
theorem dX8_tax_79 : decode cX8_tax 79 = .ok (.getfield 216, 3) := okD_get dqb_64 28 rfl
theorem dX8_tax_82 : decode cX8_tax 82 = .ok (.ireturn, 1) := okD_get dqb_64 29 rfl
theorem dX8_tax_83 : decode cX8_tax 83 = .ok (.aload_n 0, 1) := okD_get dqb_64 30 rfl
theorem dX8_tax_84 : decode cX8_tax 84 = .ok (.getfield 213, 3) := okD_get dqb_64 31 rfl
theorem dX8_tax_87 : decode cX8_tax 87 = .ok (.aload_n 0, 1) := okD_get dqb_64 32 rfl
theorem dX8_tax_88 : decode cX8_tax 88 = .ok (.getfield 216, 3) := okD_get dqb_64 33 rfl
theorem dX8_tax_91 : decode cX8_tax 91 = .ok (.isub, 1) := okD_get dqb_64 34 rfl
theorem dX8_tax_92 : decode cX8_tax 92 = .ok (.ireturn, 1) := okD_get dqb_64 35 rfl
theorem dX8_tax_93 : decode cX8_tax 93 = .ok (.aload_n 0, 1) := okD_get dqb_64 36 rfl
theorem dX8_tax_94 : decode cX8_tax 94 = .ok (.getfield 207, 3) := okD_get dqb_64 37 rfl
theorem dX8_tax_97 : decode cX8_tax 97 = .ok (.aload_n 0, 1) := okD_get dqb_64 38 rfl
theorem dX8_tax_98 : decode cX8_tax 98 = .ok (.getfield 213, 3) := okD_get dqb_64 39 rfl
theorem dqb_65 : okD cX8_tax [(101, (.isub, 1)), (102, (.ireturn, 1)), (103, (.iconst (-1), 1)), (104, (.ireturn, 1))] = true := by decide +kernel
theorem dX8_tax_101 : decode cX8_tax 101 = .ok (.isub, 1) := okD_get dqb_65 0 rfl
theorem dX8_tax_102 : decode cX8_tax 102 = .ok (.ireturn, 1) := okD_get dqb_65 1 rfl
theorem dX8_tax_103 : decode cX8_tax 103 = .ok (.iconst (-1), 1) := okD_get dqb_65 2 rfl
theorem dX8_tax_104 : decode cX8_tax 104 = .ok (.ireturn, 1) := okD_get dqb_65 3 rfl
theorem dqb_66 : okD cX8_take [(0, (.aload_n 0, 1)), (1, (.iconst 0, 1)), (2, (.putfield 78, 3)), (5, (.iload_n 1, 1)), (6, (.i2l, 1)), (7, (.lconst 0, 1)), (8, (.ldc2_w 222, 3)), (11, (.invokestatic 86, 3)), (14, (.ifCond .eq 23, 3)), (17, (.iload_n 3, 1)), (18, (.i2l, 1)), (19, (.lconst 0, 1)), (20, (.ldc2_w 224, 3)), (23, (.invokestatic 86, 3)), (26, (.ifCond .eq 11, 3)), (29, (.iload 4, 2)), (31, (.invokestatic 98, 3)), (34, (.ifCond .ne 9, 3)), (37, (.aload_n 0, 1)), (38, (.iconst (-1), 1)), (39, (.invokevirtual 101, 3)), (42, (.ireturn, 1)), (43, (.aload_n 0, 1)), (44, (.iload_n 2, 1)), (45, (.invokevirtual 121, 3)), (48, (.ifCond .ne 10, 3)), (51, (.aload_n 0, 1)), (52, (.bipush (-2), 2)), (54, (.invokevirtual 101, 3)), (57, (.ireturn, 1)), (58, (.aload_n 0, 1)), (59, (.getfield 226, 3)), (62, (.sipush 200, 3)), (65, (.if_icmp .ne 10, 3)), (68, (.aload_n 0, 1)), (69, (.bipush (-5), 2)), (71, (.invokevirtual 101, 3)), (74, (.ireturn, 1)), (75, (.aload_n 0, 1)), (76, (.getfield 66, 3))] = true := by decide +kernel
theorem dX8_take_0 : decode cX8_take 0 = .ok (.aload_n 0, 1) := okD_get dqb_66 0 rfl
theorem dX8_take_1 : decode cX8_take 1 = .ok (.iconst 0, 1) := okD_get dqb_66 1 rfl
theorem dX8_take_2 : decode cX8_take 2 = .ok (.putfield 78, 3) := okD_get dqb_66 2 rfl
theorem dX8_take_5 : decode cX8_take 5 = .ok (.iload_n 1, 1) := okD_get dqb_66 3 rfl
theorem dX8_take_6 : decode cX8_take 6 = .ok (.i2l, 1) := okD_get dqb_66 4 rfl
theorem dX8_take_7 : decode cX8_take 7 = .ok (.lconst 0, 1) := okD_get dqb_66 5 rfl
theorem dX8_take_8 : decode cX8_take 8 = .ok (.ldc2_w 222, 3) := okD_get dqb_66 6 rfl
theorem dX8_take_11 : decode cX8_take 11 = .ok (.invokestatic 86, 3) := okD_get dqb_66 7 rfl
theorem dX8_take_14 : decode cX8_take 14 = .ok (.ifCond .eq 23, 3) := okD_get dqb_66 8 rfl
theorem dX8_take_17 : decode cX8_take 17 = .ok (.iload_n 3, 1) := okD_get dqb_66 9 rfl
theorem dX8_take_18 : decode cX8_take 18 = .ok (.i2l, 1) := okD_get dqb_66 10 rfl
theorem dX8_take_19 : decode cX8_take 19 = .ok (.lconst 0, 1) := okD_get dqb_66 11 rfl
theorem dX8_take_20 : decode cX8_take 20 = .ok (.ldc2_w 224, 3) := okD_get dqb_66 12 rfl
theorem dX8_take_23 : decode cX8_take 23 = .ok (.invokestatic 86, 3) := okD_get dqb_66 13 rfl
theorem dX8_take_26 : decode cX8_take 26 = .ok (.ifCond .eq 11, 3) := okD_get dqb_66 14 rfl
theorem dX8_take_29 : decode cX8_take 29 = .ok (.iload 4, 2) := okD_get dqb_66 15 rfl
theorem dX8_take_31 : decode cX8_take 31 = .ok (.invokestatic 98, 3) := okD_get dqb_66 16 rfl
theorem dX8_take_34 : decode cX8_take 34 = .ok (.ifCond .ne 9, 3) := okD_get dqb_66 17 rfl
theorem dX8_take_37 : decode cX8_take 37 = .ok (.aload_n 0, 1) := okD_get dqb_66 18 rfl
theorem dX8_take_38 : decode cX8_take 38 = .ok (.iconst (-1), 1) := okD_get dqb_66 19 rfl
theorem dX8_take_39 : decode cX8_take 39 = .ok (.invokevirtual 101, 3) := okD_get dqb_66 20 rfl
theorem dX8_take_42 : decode cX8_take 42 = .ok (.ireturn, 1) := okD_get dqb_66 21 rfl
theorem dX8_take_43 : decode cX8_take 43 = .ok (.aload_n 0, 1) := okD_get dqb_66 22 rfl
theorem dX8_take_44 : decode cX8_take 44 = .ok (.iload_n 2, 1) := okD_get dqb_66 23 rfl
theorem dX8_take_45 : decode cX8_take 45 = .ok (.invokevirtual 121, 3) := okD_get dqb_66 24 rfl
theorem dX8_take_48 : decode cX8_take 48 = .ok (.ifCond .ne 10, 3) := okD_get dqb_66 25 rfl
theorem dX8_take_51 : decode cX8_take 51 = .ok (.aload_n 0, 1) := okD_get dqb_66 26 rfl
theorem dX8_take_52 : decode cX8_take 52 = .ok (.bipush (-2), 2) := okD_get dqb_66 27 rfl
theorem dX8_take_54 : decode cX8_take 54 = .ok (.invokevirtual 101, 3) := okD_get dqb_66 28 rfl
theorem dX8_take_57 : decode cX8_take 57 = .ok (.ireturn, 1) := okD_get dqb_66 29 rfl
theorem dX8_take_58 : decode cX8_take 58 = .ok (.aload_n 0, 1) := okD_get dqb_66 30 rfl
theorem dX8_take_59 : decode cX8_take 59 = .ok (.getfield 226, 3) := okD_get dqb_66 31 rfl
theorem dX8_take_62 : decode cX8_take 62 = .ok (.sipush 200, 3) := okD_get dqb_66 32 rfl
theorem dX8_take_65 : decode cX8_take 65 = .ok (.if_icmp .ne 10, 3) := okD_get dqb_66 33 rfl
theorem dX8_take_68 : decode cX8_take 68 = .ok (.aload_n 0, 1) := okD_get dqb_66 34 rfl
theorem dX8_take_69 : decode cX8_take 69 = .ok (.bipush (-5), 2) := okD_get dqb_66 35 rfl
theorem dX8_take_71 : decode cX8_take 71 = .ok (.invokevirtual 101, 3) := okD_get dqb_66 36 rfl
theorem dX8_take_74 : decode cX8_take 74 = .ok (.ireturn, 1) := okD_get dqb_66 37 rfl
theorem dX8_take_75 : decode cX8_take 75 = .ok (.aload_n 0, 1) := okD_get dqb_66 38 rfl
theorem dX8_take_76 : decode cX8_take 76 = .ok (.getfield 66, 3) := okD_get dqb_66 39 rfl
theorem dqb_67 : okD cX8_take [(79, (.aload_n 0, 1)), (80, (.getfield 226, 3)), (83, (.iload_n 1, 1)), (84, (.iastore, 1)), (85, (.aload_n 0, 1)), (86, (.getfield 69, 3)), (89, (.aload_n 0, 1)), (90, (.getfield 226, 3)), (93, (.iload_n 2, 1)), (94, (.iastore, 1)), (95, (.aload_n 0, 1)), (96, (.getfield 72, 3)), (99, (.aload_n 0, 1)), (100, (.getfield 226, 3)), (103, (.iload_n 3, 1)), (104, (.iastore, 1)), (105, (.aload_n 0, 1)), (106, (.getfield 75, 3)), (109, (.aload_n 0, 1)), (110, (.getfield 226, 3)), (113, (.iload 4, 2)), (115, (.iastore, 1)), (116, (.aload_n 0, 1)), (117, (.dup, 1)), (118, (.getfield 226, 3)), (121, (.iconst 1, 1)), (122, (.iadd, 1)), (123, (.putfield 226, 3)), (126, (.aload_n 0, 1)), (127, (.aload_n 0, 1)), (128, (.getfield 226, 3)), (131, (.invokevirtual 101, 3)), (134, (.ireturn, 1))] = true := by decide +kernel
theorem dX8_take_79 : decode cX8_take 79 = .ok (.aload_n 0, 1) := okD_get dqb_67 0 rfl
theorem dX8_take_80 : decode cX8_take 80 = .ok (.getfield 226, 3) := okD_get dqb_67 1 rfl
theorem dX8_take_83 : decode cX8_take 83 = .ok (.iload_n 1, 1) := okD_get dqb_67 2 rfl
theorem dX8_take_84 : decode cX8_take 84 = .ok (.iastore, 1) := okD_get dqb_67 3 rfl
theorem dX8_take_85 : decode cX8_take 85 = .ok (.aload_n 0, 1) := okD_get dqb_67 4 rfl
theorem dX8_take_86 : decode cX8_take 86 = .ok (.getfield 69, 3) := okD_get dqb_67 5 rfl
theorem dX8_take_89 : decode cX8_take 89 = .ok (.aload_n 0, 1) := okD_get dqb_67 6 rfl
theorem dX8_take_90 : decode cX8_take 90 = .ok (.getfield 226, 3) := okD_get dqb_67 7 rfl
theorem dX8_take_93 : decode cX8_take 93 = .ok (.iload_n 2, 1) := okD_get dqb_67 8 rfl
theorem dX8_take_94 : decode cX8_take 94 = .ok (.iastore, 1) := okD_get dqb_67 9 rfl
theorem dX8_take_95 : decode cX8_take 95 = .ok (.aload_n 0, 1) := okD_get dqb_67 10 rfl
theorem dX8_take_96 : decode cX8_take 96 = .ok (.getfield 72, 3) := okD_get dqb_67 11 rfl
theorem dX8_take_99 : decode cX8_take 99 = .ok (.aload_n 0, 1) := okD_get dqb_67 12 rfl
theorem dX8_take_100 : decode cX8_take 100 = .ok (.getfield 226, 3) := okD_get dqb_67 13 rfl
theorem dX8_take_103 : decode cX8_take 103 = .ok (.iload_n 3, 1) := okD_get dqb_67 14 rfl
theorem dX8_take_104 : decode cX8_take 104 = .ok (.iastore, 1) := okD_get dqb_67 15 rfl
theorem dX8_take_105 : decode cX8_take 105 = .ok (.aload_n 0, 1) := okD_get dqb_67 16 rfl
theorem dX8_take_106 : decode cX8_take 106 = .ok (.getfield 75, 3) := okD_get dqb_67 17 rfl
theorem dX8_take_109 : decode cX8_take 109 = .ok (.aload_n 0, 1) := okD_get dqb_67 18 rfl
theorem dX8_take_110 : decode cX8_take 110 = .ok (.getfield 226, 3) := okD_get dqb_67 19 rfl
theorem dX8_take_113 : decode cX8_take 113 = .ok (.iload 4, 2) := okD_get dqb_67 20 rfl
theorem dX8_take_115 : decode cX8_take 115 = .ok (.iastore, 1) := okD_get dqb_67 21 rfl
theorem dX8_take_116 : decode cX8_take 116 = .ok (.aload_n 0, 1) := okD_get dqb_67 22 rfl
theorem dX8_take_117 : decode cX8_take 117 = .ok (.dup, 1) := okD_get dqb_67 23 rfl
theorem dX8_take_118 : decode cX8_take 118 = .ok (.getfield 226, 3) := okD_get dqb_67 24 rfl
theorem dX8_take_121 : decode cX8_take 121 = .ok (.iconst 1, 1) := okD_get dqb_67 25 rfl
theorem dX8_take_122 : decode cX8_take 122 = .ok (.iadd, 1) := okD_get dqb_67 26 rfl
theorem dX8_take_123 : decode cX8_take 123 = .ok (.putfield 226, 3) := okD_get dqb_67 27 rfl
theorem dX8_take_126 : decode cX8_take 126 = .ok (.aload_n 0, 1) := okD_get dqb_67 28 rfl
theorem dX8_take_127 : decode cX8_take 127 = .ok (.aload_n 0, 1) := okD_get dqb_67 29 rfl
theorem dX8_take_128 : decode cX8_take 128 = .ok (.getfield 226, 3) := okD_get dqb_67 30 rfl
theorem dX8_take_131 : decode cX8_take 131 = .ok (.invokevirtual 101, 3) := okD_get dqb_67 31 rfl
theorem dX8_take_134 : decode cX8_take 134 = .ok (.ireturn, 1) := okD_get dqb_67 32 rfl
theorem dqb_68 : okD cX8_gain [(0, (.aload_n 0, 1)), (1, (.iconst 0, 1)), (2, (.putfield 78, 3)), (5, (.iload_n 1, 1)), (6, (.i2l, 1)), (7, (.lconst 0, 1)), (8, (.ldc2_w 222, 3)), (11, (.invokestatic 86, 3)), (14, (.ifCond .eq 10, 3)), (17, (.iload_n 2, 1)), (18, (.invokestatic 98, 3)), (21, (.ifCond .ne 7, 3)), (24, (.ldc2_w 171, 3)), (27, (.lreturn, 1)), (28, (.aload_n 0, 1)), (29, (.iload_n 2, 1)), (30, (.bipush 119, 2)), (32, (.invokevirtual 108, 3)), (35, (.lconst 0, 1)), (36, (.lstore_n 3, 1)), (37, (.iconst 0, 1)), (38, (.istore 5, 2)), (40, (.iload 5, 2)), (42, (.aload_n 0, 1)), (43, (.getfield 116, 3)), (46, (.if_icmp .ge 142, 3)), (49, (.lconst 0, 1)), (50, (.lstore 6, 2)), (52, (.lconst 0, 1)), (53, (.lstore 8, 2)), (55, (.iconst 0, 1)), (56, (.istore 10, 2)), (58, (.iload 10, 2)), (60, (.aload_n 0, 1)), (61, (.getfield 226, 3)), (64, (.if_icmp .ge 73, 3)), (67, (.aload_n 0, 1)), (68, (.getfield 69, 3)), (71, (.iload 10, 2)), (73, (.iaload, 1))] = true := by decide +kernel
theorem dX8_gain_0 : decode cX8_gain 0 = .ok (.aload_n 0, 1) := okD_get dqb_68 0 rfl
theorem dX8_gain_1 : decode cX8_gain 1 = .ok (.iconst 0, 1) := okD_get dqb_68 1 rfl
theorem dX8_gain_2 : decode cX8_gain 2 = .ok (.putfield 78, 3) := okD_get dqb_68 2 rfl
theorem dX8_gain_5 : decode cX8_gain 5 = .ok (.iload_n 1, 1) := okD_get dqb_68 3 rfl
theorem dX8_gain_6 : decode cX8_gain 6 = .ok (.i2l, 1) := okD_get dqb_68 4 rfl
theorem dX8_gain_7 : decode cX8_gain 7 = .ok (.lconst 0, 1) := okD_get dqb_68 5 rfl
theorem dX8_gain_8 : decode cX8_gain 8 = .ok (.ldc2_w 222, 3) := okD_get dqb_68 6 rfl
theorem dX8_gain_11 : decode cX8_gain 11 = .ok (.invokestatic 86, 3) := okD_get dqb_68 7 rfl
theorem dX8_gain_14 : decode cX8_gain 14 = .ok (.ifCond .eq 10, 3) := okD_get dqb_68 8 rfl
theorem dX8_gain_17 : decode cX8_gain 17 = .ok (.iload_n 2, 1) := okD_get dqb_68 9 rfl
theorem dX8_gain_18 : decode cX8_gain 18 = .ok (.invokestatic 98, 3) := okD_get dqb_68 10 rfl
theorem dX8_gain_21 : decode cX8_gain 21 = .ok (.ifCond .ne 7, 3) := okD_get dqb_68 11 rfl
theorem dX8_gain_24 : decode cX8_gain 24 = .ok (.ldc2_w 171, 3) := okD_get dqb_68 12 rfl
theorem dX8_gain_27 : decode cX8_gain 27 = .ok (.lreturn, 1) := okD_get dqb_68 13 rfl
theorem dX8_gain_28 : decode cX8_gain 28 = .ok (.aload_n 0, 1) := okD_get dqb_68 14 rfl
theorem dX8_gain_29 : decode cX8_gain 29 = .ok (.iload_n 2, 1) := okD_get dqb_68 15 rfl
theorem dX8_gain_30 : decode cX8_gain 30 = .ok (.bipush 119, 2) := okD_get dqb_68 16 rfl
theorem dX8_gain_32 : decode cX8_gain 32 = .ok (.invokevirtual 108, 3) := okD_get dqb_68 17 rfl
theorem dX8_gain_35 : decode cX8_gain 35 = .ok (.lconst 0, 1) := okD_get dqb_68 18 rfl
theorem dX8_gain_36 : decode cX8_gain 36 = .ok (.lstore_n 3, 1) := okD_get dqb_68 19 rfl
theorem dX8_gain_37 : decode cX8_gain 37 = .ok (.iconst 0, 1) := okD_get dqb_68 20 rfl
theorem dX8_gain_38 : decode cX8_gain 38 = .ok (.istore 5, 2) := okD_get dqb_68 21 rfl
theorem dX8_gain_40 : decode cX8_gain 40 = .ok (.iload 5, 2) := okD_get dqb_68 22 rfl
theorem dX8_gain_42 : decode cX8_gain 42 = .ok (.aload_n 0, 1) := okD_get dqb_68 23 rfl
theorem dX8_gain_43 : decode cX8_gain 43 = .ok (.getfield 116, 3) := okD_get dqb_68 24 rfl
theorem dX8_gain_46 : decode cX8_gain 46 = .ok (.if_icmp .ge 142, 3) := okD_get dqb_68 25 rfl
theorem dX8_gain_49 : decode cX8_gain 49 = .ok (.lconst 0, 1) := okD_get dqb_68 26 rfl
theorem dX8_gain_50 : decode cX8_gain 50 = .ok (.lstore 6, 2) := okD_get dqb_68 27 rfl
theorem dX8_gain_52 : decode cX8_gain 52 = .ok (.lconst 0, 1) := okD_get dqb_68 28 rfl
theorem dX8_gain_53 : decode cX8_gain 53 = .ok (.lstore 8, 2) := okD_get dqb_68 29 rfl
theorem dX8_gain_55 : decode cX8_gain 55 = .ok (.iconst 0, 1) := okD_get dqb_68 30 rfl
theorem dX8_gain_56 : decode cX8_gain 56 = .ok (.istore 10, 2) := okD_get dqb_68 31 rfl
theorem dX8_gain_58 : decode cX8_gain 58 = .ok (.iload 10, 2) := okD_get dqb_68 32 rfl
theorem dX8_gain_60 : decode cX8_gain 60 = .ok (.aload_n 0, 1) := okD_get dqb_68 33 rfl
theorem dX8_gain_61 : decode cX8_gain 61 = .ok (.getfield 226, 3) := okD_get dqb_68 34 rfl
theorem dX8_gain_64 : decode cX8_gain 64 = .ok (.if_icmp .ge 73, 3) := okD_get dqb_68 35 rfl
theorem dX8_gain_67 : decode cX8_gain 67 = .ok (.aload_n 0, 1) := okD_get dqb_68 36 rfl
theorem dX8_gain_68 : decode cX8_gain 68 = .ok (.getfield 69, 3) := okD_get dqb_68 37 rfl
theorem dX8_gain_71 : decode cX8_gain 71 = .ok (.iload 10, 2) := okD_get dqb_68 38 rfl
theorem dX8_gain_73 : decode cX8_gain 73 = .ok (.iaload, 1) := okD_get dqb_68 39 rfl
theorem dqb_69 : okD cX8_gain [(74, (.iload 5, 2)), (76, (.if_icmp .ne 55, 3)), (79, (.aload_n 0, 1)), (80, (.getfield 75, 3)), (83, (.iload 10, 2)), (85, (.iaload, 1)), (86, (.iload_n 2, 1)), (87, (.if_icmp .gt 44, 3)), (90, (.lload 6, 2)), (92, (.aload_n 0, 1)), (93, (.getfield 72, 3)), (96, (.iload 10, 2)), (98, (.iaload, 1)), (99, (.i2l, 1)), (100, (.ladd, 1)), (101, (.lstore 6, 2)), (103, (.lload 8, 2)), (105, (.aload_n 0, 1)), (106, (.getfield 66, 3)), (109, (.iload 10, 2)), (111, (.iaload, 1)), (112, (.iload_n 1, 1)), (113, (.if_icmp .ne 14, 3)), (116, (.aload_n 0, 1)), (117, (.getfield 72, 3)), (120, (.iload 10, 2)), (122, (.iaload, 1)), (123, (.i2l, 1)), (124, (.goto 4, 3)), (127, (.lconst 0, 1)), (128, (.ladd, 1)), (129, (.lstore 8, 2)), (131, (.iinc 10 1, 3)), (134, (.goto (-76), 3)), (137, (.aload_n 0, 1)), (138, (.iload 5, 2)), (140, (.invokevirtual 219, 3)), (143, (.lload_n 3, 1)), (144, (.lload 6, 2)), (146, (.aload_n 0, 1))] = true := by decide +kernel
theorem dX8_gain_74 : decode cX8_gain 74 = .ok (.iload 5, 2) := okD_get dqb_69 0 rfl
theorem dX8_gain_76 : decode cX8_gain 76 = .ok (.if_icmp .ne 55, 3) := okD_get dqb_69 1 rfl
theorem dX8_gain_79 : decode cX8_gain 79 = .ok (.aload_n 0, 1) := okD_get dqb_69 2 rfl
theorem dX8_gain_80 : decode cX8_gain 80 = .ok (.getfield 75, 3) := okD_get dqb_69 3 rfl
theorem dX8_gain_83 : decode cX8_gain 83 = .ok (.iload 10, 2) := okD_get dqb_69 4 rfl
theorem dX8_gain_85 : decode cX8_gain 85 = .ok (.iaload, 1) := okD_get dqb_69 5 rfl
theorem dX8_gain_86 : decode cX8_gain 86 = .ok (.iload_n 2, 1) := okD_get dqb_69 6 rfl
theorem dX8_gain_87 : decode cX8_gain 87 = .ok (.if_icmp .gt 44, 3) := okD_get dqb_69 7 rfl
theorem dX8_gain_90 : decode cX8_gain 90 = .ok (.lload 6, 2) := okD_get dqb_69 8 rfl
theorem dX8_gain_92 : decode cX8_gain 92 = .ok (.aload_n 0, 1) := okD_get dqb_69 9 rfl
theorem dX8_gain_93 : decode cX8_gain 93 = .ok (.getfield 72, 3) := okD_get dqb_69 10 rfl
theorem dX8_gain_96 : decode cX8_gain 96 = .ok (.iload 10, 2) := okD_get dqb_69 11 rfl
theorem dX8_gain_98 : decode cX8_gain 98 = .ok (.iaload, 1) := okD_get dqb_69 12 rfl
theorem dX8_gain_99 : decode cX8_gain 99 = .ok (.i2l, 1) := okD_get dqb_69 13 rfl
theorem dX8_gain_100 : decode cX8_gain 100 = .ok (.ladd, 1) := okD_get dqb_69 14 rfl
theorem dX8_gain_101 : decode cX8_gain 101 = .ok (.lstore 6, 2) := okD_get dqb_69 15 rfl
theorem dX8_gain_103 : decode cX8_gain 103 = .ok (.lload 8, 2) := okD_get dqb_69 16 rfl
theorem dX8_gain_105 : decode cX8_gain 105 = .ok (.aload_n 0, 1) := okD_get dqb_69 17 rfl
theorem dX8_gain_106 : decode cX8_gain 106 = .ok (.getfield 66, 3) := okD_get dqb_69 18 rfl
theorem dX8_gain_109 : decode cX8_gain 109 = .ok (.iload 10, 2) := okD_get dqb_69 19 rfl
theorem dX8_gain_111 : decode cX8_gain 111 = .ok (.iaload, 1) := okD_get dqb_69 20 rfl
theorem dX8_gain_112 : decode cX8_gain 112 = .ok (.iload_n 1, 1) := okD_get dqb_69 21 rfl
theorem dX8_gain_113 : decode cX8_gain 113 = .ok (.if_icmp .ne 14, 3) := okD_get dqb_69 22 rfl
theorem dX8_gain_116 : decode cX8_gain 116 = .ok (.aload_n 0, 1) := okD_get dqb_69 23 rfl
theorem dX8_gain_117 : decode cX8_gain 117 = .ok (.getfield 72, 3) := okD_get dqb_69 24 rfl
theorem dX8_gain_120 : decode cX8_gain 120 = .ok (.iload 10, 2) := okD_get dqb_69 25 rfl
theorem dX8_gain_122 : decode cX8_gain 122 = .ok (.iaload, 1) := okD_get dqb_69 26 rfl
theorem dX8_gain_123 : decode cX8_gain 123 = .ok (.i2l, 1) := okD_get dqb_69 27 rfl
theorem dX8_gain_124 : decode cX8_gain 124 = .ok (.goto 4, 3) := okD_get dqb_69 28 rfl
theorem dX8_gain_127 : decode cX8_gain 127 = .ok (.lconst 0, 1) := okD_get dqb_69 29 rfl
theorem dX8_gain_128 : decode cX8_gain 128 = .ok (.ladd, 1) := okD_get dqb_69 30 rfl
theorem dX8_gain_129 : decode cX8_gain 129 = .ok (.lstore 8, 2) := okD_get dqb_69 31 rfl
theorem dX8_gain_131 : decode cX8_gain 131 = .ok (.iinc 10 1, 3) := okD_get dqb_69 32 rfl
theorem dX8_gain_134 : decode cX8_gain 134 = .ok (.goto (-76), 3) := okD_get dqb_69 33 rfl
theorem dX8_gain_137 : decode cX8_gain 137 = .ok (.aload_n 0, 1) := okD_get dqb_69 34 rfl
theorem dX8_gain_138 : decode cX8_gain 138 = .ok (.iload 5, 2) := okD_get dqb_69 35 rfl
theorem dX8_gain_140 : decode cX8_gain 140 = .ok (.invokevirtual 219, 3) := okD_get dqb_69 36 rfl
theorem dX8_gain_143 : decode cX8_gain 143 = .ok (.lload_n 3, 1) := okD_get dqb_69 37 rfl
theorem dX8_gain_144 : decode cX8_gain 144 = .ok (.lload 6, 2) := okD_get dqb_69 38 rfl
theorem dX8_gain_146 : decode cX8_gain 146 = .ok (.aload_n 0, 1) := okD_get dqb_69 39 rfl
theorem dqb_70 : okD cX8_gain [(147, (.getfield 213, 3)), (150, (.i2l, 1)), (151, (.lcmp, 1)), (152, (.ifCond .le 27, 3)), (155, (.lload 8, 2)), (157, (.lconst 0, 1)), (158, (.lcmp, 1)), (159, (.ifCond .le 20, 3)), (162, (.lload 6, 2)), (164, (.aload_n 0, 1)), (165, (.getfield 213, 3)), (168, (.i2l, 1)), (169, (.lsub, 1)), (170, (.lload 8, 2)), (172, (.lmul, 1)), (173, (.lload 6, 2)), (175, (.ldiv, 1)), (176, (.goto 4, 3)), (179, (.lconst 0, 1)), (180, (.ladd, 1)), (181, (.lstore_n 3, 1)), (182, (.iinc 5 1, 3)), (185, (.goto (-145), 3)), (188, (.lload_n 3, 1)), (189, (.lreturn, 1))] = true := by decide +kernel
theorem dX8_gain_147 : decode cX8_gain 147 = .ok (.getfield 213, 3) := okD_get dqb_70 0 rfl
theorem dX8_gain_150 : decode cX8_gain 150 = .ok (.i2l, 1) := okD_get dqb_70 1 rfl
theorem dX8_gain_151 : decode cX8_gain 151 = .ok (.lcmp, 1) := okD_get dqb_70 2 rfl
theorem dX8_gain_152 : decode cX8_gain 152 = .ok (.ifCond .le 27, 3) := okD_get dqb_70 3 rfl
theorem dX8_gain_155 : decode cX8_gain 155 = .ok (.lload 8, 2) := okD_get dqb_70 4 rfl
theorem dX8_gain_157 : decode cX8_gain 157 = .ok (.lconst 0, 1) := okD_get dqb_70 5 rfl
theorem dX8_gain_158 : decode cX8_gain 158 = .ok (.lcmp, 1) := okD_get dqb_70 6 rfl
theorem dX8_gain_159 : decode cX8_gain 159 = .ok (.ifCond .le 20, 3) := okD_get dqb_70 7 rfl
theorem dX8_gain_162 : decode cX8_gain 162 = .ok (.lload 6, 2) := okD_get dqb_70 8 rfl
theorem dX8_gain_164 : decode cX8_gain 164 = .ok (.aload_n 0, 1) := okD_get dqb_70 9 rfl
theorem dX8_gain_165 : decode cX8_gain 165 = .ok (.getfield 213, 3) := okD_get dqb_70 10 rfl
theorem dX8_gain_168 : decode cX8_gain 168 = .ok (.i2l, 1) := okD_get dqb_70 11 rfl
theorem dX8_gain_169 : decode cX8_gain 169 = .ok (.lsub, 1) := okD_get dqb_70 12 rfl
theorem dX8_gain_170 : decode cX8_gain 170 = .ok (.lload 8, 2) := okD_get dqb_70 13 rfl
theorem dX8_gain_172 : decode cX8_gain 172 = .ok (.lmul, 1) := okD_get dqb_70 14 rfl
theorem dX8_gain_173 : decode cX8_gain 173 = .ok (.lload 6, 2) := okD_get dqb_70 15 rfl
theorem dX8_gain_175 : decode cX8_gain 175 = .ok (.ldiv, 1) := okD_get dqb_70 16 rfl
theorem dX8_gain_176 : decode cX8_gain 176 = .ok (.goto 4, 3) := okD_get dqb_70 17 rfl
theorem dX8_gain_179 : decode cX8_gain 179 = .ok (.lconst 0, 1) := okD_get dqb_70 18 rfl
theorem dX8_gain_180 : decode cX8_gain 180 = .ok (.ladd, 1) := okD_get dqb_70 19 rfl
theorem dX8_gain_181 : decode cX8_gain 181 = .ok (.lstore_n 3, 1) := okD_get dqb_70 20 rfl
theorem dX8_gain_182 : decode cX8_gain 182 = .ok (.iinc 5 1, 3) := okD_get dqb_70 21 rfl
theorem dX8_gain_185 : decode cX8_gain 185 = .ok (.goto (-145), 3) := okD_get dqb_70 22 rfl
theorem dX8_gain_188 : decode cX8_gain 188 = .ok (.lload_n 3, 1) := okD_get dqb_70 23 rfl
theorem dX8_gain_189 : decode cX8_gain 189 = .ok (.lreturn, 1) := okD_get dqb_70 24 rfl
theorem dqb_71 : okD cX8_sheaves [(0, (.aload_n 0, 1)), (1, (.iconst 0, 1)), (2, (.putfield 78, 3)), (5, (.iload_n 1, 1)), (6, (.invokestatic 98, 3)), (9, (.ifCond .ne 5, 3)), (12, (.iconst (-1), 1)), (13, (.ireturn, 1)), (14, (.aload_n 0, 1)), (15, (.iload_n 1, 1)), (16, (.bipush 119, 2)), (18, (.invokevirtual 108, 3)), (21, (.iconst 0, 1)), (22, (.istore_n 2, 1)), (23, (.iconst 0, 1)), (24, (.istore_n 3, 1)), (25, (.iload_n 3, 1)), (26, (.aload_n 0, 1)), (27, (.getfield 116, 3)), (30, (.if_icmp .ge 17, 3)), (33, (.iload_n 2, 1)), (34, (.aload_n 0, 1)), (35, (.iload_n 3, 1)), (36, (.invokevirtual 138, 3)), (39, (.iadd, 1)), (40, (.istore_n 2, 1)), (41, (.iinc 3 1, 3)), (44, (.goto (-19), 3)), (47, (.iload_n 2, 1)), (48, (.ireturn, 1))] = true := by decide +kernel
theorem dX8_sheaves_0 : decode cX8_sheaves 0 = .ok (.aload_n 0, 1) := okD_get dqb_71 0 rfl
theorem dX8_sheaves_1 : decode cX8_sheaves 1 = .ok (.iconst 0, 1) := okD_get dqb_71 1 rfl
theorem dX8_sheaves_2 : decode cX8_sheaves 2 = .ok (.putfield 78, 3) := okD_get dqb_71 2 rfl
theorem dX8_sheaves_5 : decode cX8_sheaves 5 = .ok (.iload_n 1, 1) := okD_get dqb_71 3 rfl
theorem dX8_sheaves_6 : decode cX8_sheaves 6 = .ok (.invokestatic 98, 3) := okD_get dqb_71 4 rfl
theorem dX8_sheaves_9 : decode cX8_sheaves 9 = .ok (.ifCond .ne 5, 3) := okD_get dqb_71 5 rfl
theorem dX8_sheaves_12 : decode cX8_sheaves 12 = .ok (.iconst (-1), 1) := okD_get dqb_71 6 rfl
theorem dX8_sheaves_13 : decode cX8_sheaves 13 = .ok (.ireturn, 1) := okD_get dqb_71 7 rfl
theorem dX8_sheaves_14 : decode cX8_sheaves 14 = .ok (.aload_n 0, 1) := okD_get dqb_71 8 rfl
theorem dX8_sheaves_15 : decode cX8_sheaves 15 = .ok (.iload_n 1, 1) := okD_get dqb_71 9 rfl
theorem dX8_sheaves_16 : decode cX8_sheaves 16 = .ok (.bipush 119, 2) := okD_get dqb_71 10 rfl
theorem dX8_sheaves_18 : decode cX8_sheaves 18 = .ok (.invokevirtual 108, 3) := okD_get dqb_71 11 rfl
theorem dX8_sheaves_21 : decode cX8_sheaves 21 = .ok (.iconst 0, 1) := okD_get dqb_71 12 rfl
theorem dX8_sheaves_22 : decode cX8_sheaves 22 = .ok (.istore_n 2, 1) := okD_get dqb_71 13 rfl
theorem dX8_sheaves_23 : decode cX8_sheaves 23 = .ok (.iconst 0, 1) := okD_get dqb_71 14 rfl
theorem dX8_sheaves_24 : decode cX8_sheaves 24 = .ok (.istore_n 3, 1) := okD_get dqb_71 15 rfl
theorem dX8_sheaves_25 : decode cX8_sheaves 25 = .ok (.iload_n 3, 1) := okD_get dqb_71 16 rfl
theorem dX8_sheaves_26 : decode cX8_sheaves 26 = .ok (.aload_n 0, 1) := okD_get dqb_71 17 rfl
theorem dX8_sheaves_27 : decode cX8_sheaves 27 = .ok (.getfield 116, 3) := okD_get dqb_71 18 rfl
theorem dX8_sheaves_30 : decode cX8_sheaves 30 = .ok (.if_icmp .ge 17, 3) := okD_get dqb_71 19 rfl
theorem dX8_sheaves_33 : decode cX8_sheaves 33 = .ok (.iload_n 2, 1) := okD_get dqb_71 20 rfl
theorem dX8_sheaves_34 : decode cX8_sheaves 34 = .ok (.aload_n 0, 1) := okD_get dqb_71 21 rfl
theorem dX8_sheaves_35 : decode cX8_sheaves 35 = .ok (.iload_n 3, 1) := okD_get dqb_71 22 rfl
theorem dX8_sheaves_36 : decode cX8_sheaves 36 = .ok (.invokevirtual 138, 3) := okD_get dqb_71 23 rfl
theorem dX8_sheaves_39 : decode cX8_sheaves 39 = .ok (.iadd, 1) := okD_get dqb_71 24 rfl
theorem dX8_sheaves_40 : decode cX8_sheaves 40 = .ok (.istore_n 2, 1) := okD_get dqb_71 25 rfl
theorem dX8_sheaves_41 : decode cX8_sheaves 41 = .ok (.iinc 3 1, 3) := okD_get dqb_71 26 rfl
theorem dX8_sheaves_44 : decode cX8_sheaves 44 = .ok (.goto (-19), 3) := okD_get dqb_71 27 rfl
theorem dX8_sheaves_47 : decode cX8_sheaves 47 = .ok (.iload_n 2, 1) := okD_get dqb_71 28 rfl
theorem dX8_sheaves_48 : decode cX8_sheaves 48 = .ok (.ireturn, 1) := okD_get dqb_71 29 rfl
theorem dqb_72 : okD cX8_led [(0, (.aload_n 0, 1)), (1, (.iconst 0, 1)), (2, (.putfield 78, 3)), (5, (.iload_n 1, 1)), (6, (.ifCond .lt 20, 3)), (9, (.iload_n 2, 1)), (10, (.invokestatic 98, 3)), (13, (.ifCond .eq 13, 3)), (16, (.iload_n 3, 1)), (17, (.i2l, 1)), (18, (.lconst 0, 1)), (19, (.lconst 1, 1)), (20, (.invokestatic 86, 3)), (23, (.ifCond .ne 5, 3)), (26, (.iconst (-1), 1)), (27, (.ireturn, 1)), (28, (.aload_n 0, 1)), (29, (.iload_n 2, 1)), (30, (.bipush 119, 2)), (32, (.invokevirtual 108, 3)), (35, (.iload_n 1, 1)), (36, (.istore 4, 2)), (38, (.iconst 0, 1)), (39, (.istore 5, 2)), (41, (.iload 5, 2)), (43, (.aload_n 0, 1)), (44, (.getfield 116, 3)), (47, (.if_icmp .ge 70, 3)), (50, (.aload_n 0, 1)), (51, (.iload 5, 2)), (53, (.invokevirtual 219, 3)), (56, (.iload 4, 2)), (58, (.aload_n 0, 1)), (59, (.getfield 207, 3)), (62, (.if_icmp .ge 40, 3)), (65, (.iload_n 3, 1)), (66, (.ifCond .ne 8, 3)), (69, (.iload 5, 2)), (71, (.goto 30, 3)), (74, (.iload 4, 2))] = true := by decide +kernel
theorem dX8_led_0 : decode cX8_led 0 = .ok (.aload_n 0, 1) := okD_get dqb_72 0 rfl
theorem dX8_led_1 : decode cX8_led 1 = .ok (.iconst 0, 1) := okD_get dqb_72 1 rfl
theorem dX8_led_2 : decode cX8_led 2 = .ok (.putfield 78, 3) := okD_get dqb_72 2 rfl
theorem dX8_led_5 : decode cX8_led 5 = .ok (.iload_n 1, 1) := okD_get dqb_72 3 rfl
theorem dX8_led_6 : decode cX8_led 6 = .ok (.ifCond .lt 20, 3) := okD_get dqb_72 4 rfl
theorem dX8_led_9 : decode cX8_led 9 = .ok (.iload_n 2, 1) := okD_get dqb_72 5 rfl
theorem dX8_led_10 : decode cX8_led 10 = .ok (.invokestatic 98, 3) := okD_get dqb_72 6 rfl
theorem dX8_led_13 : decode cX8_led 13 = .ok (.ifCond .eq 13, 3) := okD_get dqb_72 7 rfl
theorem dX8_led_16 : decode cX8_led 16 = .ok (.iload_n 3, 1) := okD_get dqb_72 8 rfl
theorem dX8_led_17 : decode cX8_led 17 = .ok (.i2l, 1) := okD_get dqb_72 9 rfl
theorem dX8_led_18 : decode cX8_led 18 = .ok (.lconst 0, 1) := okD_get dqb_72 10 rfl
theorem dX8_led_19 : decode cX8_led 19 = .ok (.lconst 1, 1) := okD_get dqb_72 11 rfl
theorem dX8_led_20 : decode cX8_led 20 = .ok (.invokestatic 86, 3) := okD_get dqb_72 12 rfl
theorem dX8_led_23 : decode cX8_led 23 = .ok (.ifCond .ne 5, 3) := okD_get dqb_72 13 rfl
theorem dX8_led_26 : decode cX8_led 26 = .ok (.iconst (-1), 1) := okD_get dqb_72 14 rfl
theorem dX8_led_27 : decode cX8_led 27 = .ok (.ireturn, 1) := okD_get dqb_72 15 rfl
theorem dX8_led_28 : decode cX8_led 28 = .ok (.aload_n 0, 1) := okD_get dqb_72 16 rfl
theorem dX8_led_29 : decode cX8_led 29 = .ok (.iload_n 2, 1) := okD_get dqb_72 17 rfl
theorem dX8_led_30 : decode cX8_led 30 = .ok (.bipush 119, 2) := okD_get dqb_72 18 rfl
theorem dX8_led_32 : decode cX8_led 32 = .ok (.invokevirtual 108, 3) := okD_get dqb_72 19 rfl
theorem dX8_led_35 : decode cX8_led 35 = .ok (.iload_n 1, 1) := okD_get dqb_72 20 rfl
theorem dX8_led_36 : decode cX8_led 36 = .ok (.istore 4, 2) := okD_get dqb_72 21 rfl
theorem dX8_led_38 : decode cX8_led 38 = .ok (.iconst 0, 1) := okD_get dqb_72 22 rfl
theorem dX8_led_39 : decode cX8_led 39 = .ok (.istore 5, 2) := okD_get dqb_72 23 rfl
theorem dX8_led_41 : decode cX8_led 41 = .ok (.iload 5, 2) := okD_get dqb_72 24 rfl
theorem dX8_led_43 : decode cX8_led 43 = .ok (.aload_n 0, 1) := okD_get dqb_72 25 rfl
theorem dX8_led_44 : decode cX8_led 44 = .ok (.getfield 116, 3) := okD_get dqb_72 26 rfl
theorem dX8_led_47 : decode cX8_led 47 = .ok (.if_icmp .ge 70, 3) := okD_get dqb_72 27 rfl
theorem dX8_led_50 : decode cX8_led 50 = .ok (.aload_n 0, 1) := okD_get dqb_72 28 rfl
theorem dX8_led_51 : decode cX8_led 51 = .ok (.iload 5, 2) := okD_get dqb_72 29 rfl
theorem dX8_led_53 : decode cX8_led 53 = .ok (.invokevirtual 219, 3) := okD_get dqb_72 30 rfl
theorem dX8_led_56 : decode cX8_led 56 = .ok (.iload 4, 2) := okD_get dqb_72 31 rfl
theorem dX8_led_58 : decode cX8_led 58 = .ok (.aload_n 0, 1) := okD_get dqb_72 32 rfl
theorem dX8_led_59 : decode cX8_led 59 = .ok (.getfield 207, 3) := okD_get dqb_72 33 rfl
theorem dX8_led_62 : decode cX8_led 62 = .ok (.if_icmp .ge 40, 3) := okD_get dqb_72 34 rfl
theorem dX8_led_65 : decode cX8_led 65 = .ok (.iload_n 3, 1) := okD_get dqb_72 35 rfl
theorem dX8_led_66 : decode cX8_led 66 = .ok (.ifCond .ne 8, 3) := okD_get dqb_72 36 rfl
theorem dX8_led_69 : decode cX8_led 69 = .ok (.iload 5, 2) := okD_get dqb_72 37 rfl
theorem dX8_led_71 : decode cX8_led 71 = .ok (.goto 30, 3) := okD_get dqb_72 38 rfl
theorem dX8_led_74 : decode cX8_led 74 = .ok (.iload 4, 2) := okD_get dqb_72 39 rfl
theorem dqb_73 : okD cX8_led [(76, (.aload_n 0, 1)), (77, (.getfield 216, 3)), (80, (.if_icmp .ge 7, 3)), (83, (.iconst 0, 1)), (84, (.goto 17, 3)), (87, (.iload 4, 2)), (89, (.aload_n 0, 1)), (90, (.getfield 213, 3)), (93, (.if_icmp .ge 7, 3)), (96, (.iconst 1, 1)), (97, (.goto 4, 3)), (100, (.iconst 2, 1)), (101, (.ireturn, 1)), (102, (.iload 4, 2)), (104, (.aload_n 0, 1)), (105, (.getfield 207, 3)), (108, (.isub, 1)), (109, (.istore 4, 2)), (111, (.iinc 5 1, 3)), (114, (.goto (-73), 3)), (117, (.iconst (-1), 1)), (118, (.ireturn, 1))] = true := by decide +kernel
theorem dX8_led_76 : decode cX8_led 76 = .ok (.aload_n 0, 1) := okD_get dqb_73 0 rfl
theorem dX8_led_77 : decode cX8_led 77 = .ok (.getfield 216, 3) := okD_get dqb_73 1 rfl
theorem dX8_led_80 : decode cX8_led 80 = .ok (.if_icmp .ge 7, 3) := okD_get dqb_73 2 rfl
theorem dX8_led_83 : decode cX8_led 83 = .ok (.iconst 0, 1) := okD_get dqb_73 3 rfl
theorem dX8_led_84 : decode cX8_led 84 = .ok (.goto 17, 3) := okD_get dqb_73 4 rfl
theorem dX8_led_87 : decode cX8_led 87 = .ok (.iload 4, 2) := okD_get dqb_73 5 rfl
theorem dX8_led_89 : decode cX8_led 89 = .ok (.aload_n 0, 1) := okD_get dqb_73 6 rfl
theorem dX8_led_90 : decode cX8_led 90 = .ok (.getfield 213, 3) := okD_get dqb_73 7 rfl
theorem dX8_led_93 : decode cX8_led 93 = .ok (.if_icmp .ge 7, 3) := okD_get dqb_73 8 rfl
theorem dX8_led_96 : decode cX8_led 96 = .ok (.iconst 1, 1) := okD_get dqb_73 9 rfl
theorem dX8_led_97 : decode cX8_led 97 = .ok (.goto 4, 3) := okD_get dqb_73 10 rfl
theorem dX8_led_100 : decode cX8_led 100 = .ok (.iconst 2, 1) := okD_get dqb_73 11 rfl
theorem dX8_led_101 : decode cX8_led 101 = .ok (.ireturn, 1) := okD_get dqb_73 12 rfl
theorem dX8_led_102 : decode cX8_led 102 = .ok (.iload 4, 2) := okD_get dqb_73 13 rfl
theorem dX8_led_104 : decode cX8_led 104 = .ok (.aload_n 0, 1) := okD_get dqb_73 14 rfl
theorem dX8_led_105 : decode cX8_led 105 = .ok (.getfield 207, 3) := okD_get dqb_73 15 rfl
theorem dX8_led_108 : decode cX8_led 108 = .ok (.isub, 1) := okD_get dqb_73 16 rfl
theorem dX8_led_109 : decode cX8_led 109 = .ok (.istore 4, 2) := okD_get dqb_73 17 rfl
theorem dX8_led_111 : decode cX8_led 111 = .ok (.iinc 5 1, 3) := okD_get dqb_73 18 rfl
theorem dX8_led_114 : decode cX8_led 114 = .ok (.goto (-73), 3) := okD_get dqb_73 19 rfl
theorem dX8_led_117 : decode cX8_led 117 = .ok (.iconst (-1), 1) := okD_get dqb_73 20 rfl
theorem dX8_led_118 : decode cX8_led 118 = .ok (.ireturn, 1) := okD_get dqb_73 21 rfl
theorem dqb_74 : okD cX8_count [(0, (.aload_n 0, 1)), (1, (.iconst 0, 1)), (2, (.putfield 78, 3)), (5, (.iconst 0, 1)), (6, (.istore_n 2, 1)), (7, (.iload_n 1, 1)), (8, (.tableswitch 131 0 6 #[44, 49, 54, 89, 94, 99, 104], 44)), (52, (.aload_n 0, 1)), (53, (.getfield 105, 3)), (56, (.ireturn, 1)), (57, (.aload_n 0, 1)), (58, (.getfield 116, 3)), (61, (.ireturn, 1)), (62, (.iconst 0, 1)), (63, (.istore_n 3, 1)), (64, (.iload_n 3, 1)), (65, (.aload_n 0, 1)), (66, (.getfield 116, 3)), (69, (.if_icmp .gt 26, 3)), (72, (.iload_n 2, 1)), (73, (.aload_n 0, 1)), (74, (.getfield 34, 3)), (77, (.iload_n 3, 1)), (78, (.baload, 1)), (79, (.ifCond .eq 7, 3)), (82, (.iconst 1, 1)), (83, (.goto 4, 3)), (86, (.iconst 0, 1)), (87, (.iadd, 1)), (88, (.istore_n 2, 1)), (89, (.iinc 3 1, 3)), (92, (.goto (-28), 3)), (95, (.iload_n 2, 1)), (96, (.ireturn, 1)), (97, (.aload_n 0, 1)), (98, (.getfield 204, 3)), (101, (.ireturn, 1)), (102, (.aload_n 0, 1)), (103, (.getfield 226, 3)), (106, (.ireturn, 1))] = true := by decide +kernel
theorem dX8_count_0 : decode cX8_count 0 = .ok (.aload_n 0, 1) := okD_get dqb_74 0 rfl
theorem dX8_count_1 : decode cX8_count 1 = .ok (.iconst 0, 1) := okD_get dqb_74 1 rfl
theorem dX8_count_2 : decode cX8_count 2 = .ok (.putfield 78, 3) := okD_get dqb_74 2 rfl
theorem dX8_count_5 : decode cX8_count 5 = .ok (.iconst 0, 1) := okD_get dqb_74 3 rfl
theorem dX8_count_6 : decode cX8_count 6 = .ok (.istore_n 2, 1) := okD_get dqb_74 4 rfl
theorem dX8_count_7 : decode cX8_count 7 = .ok (.iload_n 1, 1) := okD_get dqb_74 5 rfl
theorem dX8_count_8 : decode cX8_count 8 = .ok (.tableswitch 131 0 6 #[44, 49, 54, 89, 94, 99, 104], 44) := okD_get dqb_74 6 rfl
theorem dX8_count_52 : decode cX8_count 52 = .ok (.aload_n 0, 1) := okD_get dqb_74 7 rfl
theorem dX8_count_53 : decode cX8_count 53 = .ok (.getfield 105, 3) := okD_get dqb_74 8 rfl
theorem dX8_count_56 : decode cX8_count 56 = .ok (.ireturn, 1) := okD_get dqb_74 9 rfl
theorem dX8_count_57 : decode cX8_count 57 = .ok (.aload_n 0, 1) := okD_get dqb_74 10 rfl
theorem dX8_count_58 : decode cX8_count 58 = .ok (.getfield 116, 3) := okD_get dqb_74 11 rfl
theorem dX8_count_61 : decode cX8_count 61 = .ok (.ireturn, 1) := okD_get dqb_74 12 rfl
theorem dX8_count_62 : decode cX8_count 62 = .ok (.iconst 0, 1) := okD_get dqb_74 13 rfl
theorem dX8_count_63 : decode cX8_count 63 = .ok (.istore_n 3, 1) := okD_get dqb_74 14 rfl
theorem dX8_count_64 : decode cX8_count 64 = .ok (.iload_n 3, 1) := okD_get dqb_74 15 rfl
theorem dX8_count_65 : decode cX8_count 65 = .ok (.aload_n 0, 1) := okD_get dqb_74 16 rfl
theorem dX8_count_66 : decode cX8_count 66 = .ok (.getfield 116, 3) := okD_get dqb_74 17 rfl
theorem dX8_count_69 : decode cX8_count 69 = .ok (.if_icmp .gt 26, 3) := okD_get dqb_74 18 rfl
theorem dX8_count_72 : decode cX8_count 72 = .ok (.iload_n 2, 1) := okD_get dqb_74 19 rfl
theorem dX8_count_73 : decode cX8_count 73 = .ok (.aload_n 0, 1) := okD_get dqb_74 20 rfl
theorem dX8_count_74 : decode cX8_count 74 = .ok (.getfield 34, 3) := okD_get dqb_74 21 rfl
theorem dX8_count_77 : decode cX8_count 77 = .ok (.iload_n 3, 1) := okD_get dqb_74 22 rfl
theorem dX8_count_78 : decode cX8_count 78 = .ok (.baload, 1) := okD_get dqb_74 23 rfl
theorem dX8_count_79 : decode cX8_count 79 = .ok (.ifCond .eq 7, 3) := okD_get dqb_74 24 rfl
theorem dX8_count_82 : decode cX8_count 82 = .ok (.iconst 1, 1) := okD_get dqb_74 25 rfl
theorem dX8_count_83 : decode cX8_count 83 = .ok (.goto 4, 3) := okD_get dqb_74 26 rfl
theorem dX8_count_86 : decode cX8_count 86 = .ok (.iconst 0, 1) := okD_get dqb_74 27 rfl
theorem dX8_count_87 : decode cX8_count 87 = .ok (.iadd, 1) := okD_get dqb_74 28 rfl
theorem dX8_count_88 : decode cX8_count 88 = .ok (.istore_n 2, 1) := okD_get dqb_74 29 rfl
theorem dX8_count_89 : decode cX8_count 89 = .ok (.iinc 3 1, 3) := okD_get dqb_74 30 rfl
theorem dX8_count_92 : decode cX8_count 92 = .ok (.goto (-28), 3) := okD_get dqb_74 31 rfl
theorem dX8_count_95 : decode cX8_count 95 = .ok (.iload_n 2, 1) := okD_get dqb_74 32 rfl
theorem dX8_count_96 : decode cX8_count 96 = .ok (.ireturn, 1) := okD_get dqb_74 33 rfl
theorem dX8_count_97 : decode cX8_count 97 = .ok (.aload_n 0, 1) := okD_get dqb_74 34 rfl
theorem dX8_count_98 : decode cX8_count 98 = .ok (.getfield 204, 3) := okD_get dqb_74 35 rfl
theorem dX8_count_101 : decode cX8_count 101 = .ok (.ireturn, 1) := okD_get dqb_74 36 rfl
theorem dX8_count_102 : decode cX8_count 102 = .ok (.aload_n 0, 1) := okD_get dqb_74 37 rfl
theorem dX8_count_103 : decode cX8_count 103 = .ok (.getfield 226, 3) := okD_get dqb_74 38 rfl
theorem dX8_count_106 : decode cX8_count 106 = .ok (.ireturn, 1) := okD_get dqb_74 39 rfl
theorem dqb_75 : okD cX8_count [(107, (.aload_n 0, 1)), (108, (.getfield 141, 3)), (111, (.ireturn, 1)), (112, (.iconst 0, 1)), (113, (.istore_n 3, 1)), (114, (.iload_n 3, 1)), (115, (.aload_n 0, 1)), (116, (.getfield 116, 3)), (119, (.if_icmp .ge 18, 3)), (122, (.iload_n 2, 1)), (123, (.aload_n 0, 1)), (124, (.getfield 25, 3)), (127, (.iload_n 3, 1)), (128, (.iaload, 1)), (129, (.iadd, 1)), (130, (.istore_n 2, 1)), (131, (.iinc 3 1, 3)), (134, (.goto (-20), 3)), (137, (.iload_n 2, 1)), (138, (.ireturn, 1)), (139, (.iconst (-1), 1)), (140, (.ireturn, 1))] = true := by decide +kernel
theorem dX8_count_107 : decode cX8_count 107 = .ok (.aload_n 0, 1) := okD_get dqb_75 0 rfl
theorem dX8_count_108 : decode cX8_count 108 = .ok (.getfield 141, 3) := okD_get dqb_75 1 rfl
theorem dX8_count_111 : decode cX8_count 111 = .ok (.ireturn, 1) := okD_get dqb_75 2 rfl
theorem dX8_count_112 : decode cX8_count 112 = .ok (.iconst 0, 1) := okD_get dqb_75 3 rfl
theorem dX8_count_113 : decode cX8_count 113 = .ok (.istore_n 3, 1) := okD_get dqb_75 4 rfl
theorem dX8_count_114 : decode cX8_count 114 = .ok (.iload_n 3, 1) := okD_get dqb_75 5 rfl
theorem dX8_count_115 : decode cX8_count 115 = .ok (.aload_n 0, 1) := okD_get dqb_75 6 rfl
theorem dX8_count_116 : decode cX8_count 116 = .ok (.getfield 116, 3) := okD_get dqb_75 7 rfl
theorem dX8_count_119 : decode cX8_count 119 = .ok (.if_icmp .ge 18, 3) := okD_get dqb_75 8 rfl
theorem dX8_count_122 : decode cX8_count 122 = .ok (.iload_n 2, 1) := okD_get dqb_75 9 rfl
theorem dX8_count_123 : decode cX8_count 123 = .ok (.aload_n 0, 1) := okD_get dqb_75 10 rfl
theorem dX8_count_124 : decode cX8_count 124 = .ok (.getfield 25, 3) := okD_get dqb_75 11 rfl
theorem dX8_count_127 : decode cX8_count 127 = .ok (.iload_n 3, 1) := okD_get dqb_75 12 rfl
theorem dX8_count_128 : decode cX8_count 128 = .ok (.iaload, 1) := okD_get dqb_75 13 rfl
theorem dX8_count_129 : decode cX8_count 129 = .ok (.iadd, 1) := okD_get dqb_75 14 rfl
theorem dX8_count_130 : decode cX8_count 130 = .ok (.istore_n 2, 1) := okD_get dqb_75 15 rfl
theorem dX8_count_131 : decode cX8_count 131 = .ok (.iinc 3 1, 3) := okD_get dqb_75 16 rfl
theorem dX8_count_134 : decode cX8_count 134 = .ok (.goto (-20), 3) := okD_get dqb_75 17 rfl
theorem dX8_count_137 : decode cX8_count 137 = .ok (.iload_n 2, 1) := okD_get dqb_75 18 rfl
theorem dX8_count_138 : decode cX8_count 138 = .ok (.ireturn, 1) := okD_get dqb_75 19 rfl
theorem dX8_count_139 : decode cX8_count 139 = .ok (.iconst (-1), 1) := okD_get dqb_75 20 rfl
theorem dX8_count_140 : decode cX8_count 140 = .ok (.ireturn, 1) := okD_get dqb_75 21 rfl
theorem dqb_76 : okD cX8_status [(0, (.aload_n 0, 1)), (1, (.iconst 0, 1)), (2, (.putfield 78, 3)), (5, (.aload_n 0, 1)), (6, (.getfield 81, 3)), (9, (.ireturn, 1))] = true := by decide +kernel
theorem dX8_status_0 : decode cX8_status 0 = .ok (.aload_n 0, 1) := okD_get dqb_76 0 rfl
theorem dX8_status_1 : decode cX8_status 1 = .ok (.iconst 0, 1) := okD_get dqb_76 1 rfl
theorem dX8_status_2 : decode cX8_status 2 = .ok (.putfield 78, 3) := okD_get dqb_76 2 rfl
theorem dX8_status_5 : decode cX8_status 5 = .ok (.aload_n 0, 1) := okD_get dqb_76 3 rfl
theorem dX8_status_6 : decode cX8_status 6 = .ok (.getfield 81, 3) := okD_get dqb_76 4 rfl
theorem dX8_status_9 : decode cX8_status 9 = .ok (.ireturn, 1) := okD_get dqb_76 5 rfl
