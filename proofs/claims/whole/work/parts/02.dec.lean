/-! instructions decoded, forty at once -/
def okD (c : ByteArray) (R : List (Nat × Instr × Nat)) : Bool := R.all fun r => decide (decode c r.1 = .ok r.2)
theorem okD_get {c : ByteArray} {R : List (Nat × Instr × Nat)} (h : okD c R = true) (k : Nat) {pc : Nat} {x : Instr × Nat} (hk : R[k]? = some (pc, x)) : decode c pc = .ok x := of_decide_eq_true (List.all_eq_true.mp h (pc, x) (List.mem_of_getElem? hk))
theorem dqa_0 : okD cJ0_length_8abf5 [(0, (.aload_n 0, 1)), (1, (.getfield 9, 3)), (4, (.arraylength, 1)), (5, (.aload_n 0, 1)), (6, (.invokevirtual 335, 3)), (9, (.ishr, 1)), (10, (.ireturn, 1))] = true := by decide +kernel
theorem dJ0_length_8abf5_0 : decode cJ0_length_8abf5 0 = .ok (.aload_n 0, 1) := okD_get dqa_0 0 rfl
theorem dJ0_length_8abf5_1 : decode cJ0_length_8abf5 1 = .ok (.getfield 9, 3) := okD_get dqa_0 1 rfl
theorem dJ0_length_8abf5_4 : decode cJ0_length_8abf5 4 = .ok (.arraylength, 1) := okD_get dqa_0 2 rfl
theorem dJ0_length_8abf5_5 : decode cJ0_length_8abf5 5 = .ok (.aload_n 0, 1) := okD_get dqa_0 3 rfl
theorem dJ0_length_8abf5_6 : decode cJ0_length_8abf5 6 = .ok (.invokevirtual 335, 3) := okD_get dqa_0 4 rfl
theorem dJ0_length_8abf5_9 : decode cJ0_length_8abf5 9 = .ok (.ishr, 1) := okD_get dqa_0 5 rfl
theorem dJ0_length_8abf5_10 : decode cJ0_length_8abf5 10 = .ok (.ireturn, 1) := okD_get dqa_0 6 rfl
theorem dqa_1 : okD cJ0_charAt_5068e [(0, (.aload_n 0, 1)), (1, (.invokevirtual 492, 3)), (4, (.ifCond .eq 12, 3)), (7, (.aload_n 0, 1)), (8, (.getfield 9, 3)), (11, (.iload_n 1, 1)), (12, (.invokestatic 495, 3)), (15, (.ireturn, 1)), (16, (.aload_n 0, 1)), (17, (.getfield 9, 3)), (20, (.iload_n 1, 1)), (21, (.invokestatic 498, 3)), (24, (.ireturn, 1))] = true := by decide +kernel
theorem dJ0_charAt_5068e_0 : decode cJ0_charAt_5068e 0 = .ok (.aload_n 0, 1) := okD_get dqa_1 0 rfl
theorem dJ0_charAt_5068e_1 : decode cJ0_charAt_5068e 1 = .ok (.invokevirtual 492, 3) := okD_get dqa_1 1 rfl
theorem dJ0_charAt_5068e_4 : decode cJ0_charAt_5068e 4 = .ok (.ifCond .eq 12, 3) := okD_get dqa_1 2 rfl
theorem dJ0_charAt_5068e_7 : decode cJ0_charAt_5068e 7 = .ok (.aload_n 0, 1) := okD_get dqa_1 3 rfl
theorem dJ0_charAt_5068e_8 : decode cJ0_charAt_5068e 8 = .ok (.getfield 9, 3) := okD_get dqa_1 4 rfl
theorem dJ0_charAt_5068e_11 : decode cJ0_charAt_5068e 11 = .ok (.iload_n 1, 1) := okD_get dqa_1 5 rfl
theorem dJ0_charAt_5068e_12 : decode cJ0_charAt_5068e 12 = .ok (.invokestatic 495, 3) := okD_get dqa_1 6 rfl
theorem dJ0_charAt_5068e_15 : decode cJ0_charAt_5068e 15 = .ok (.ireturn, 1) := okD_get dqa_1 7 rfl
theorem dJ0_charAt_5068e_16 : decode cJ0_charAt_5068e 16 = .ok (.aload_n 0, 1) := okD_get dqa_1 8 rfl
theorem dJ0_charAt_5068e_17 : decode cJ0_charAt_5068e 17 = .ok (.getfield 9, 3) := okD_get dqa_1 9 rfl
theorem dJ0_charAt_5068e_20 : decode cJ0_charAt_5068e 20 = .ok (.iload_n 1, 1) := okD_get dqa_1 10 rfl
theorem dJ0_charAt_5068e_21 : decode cJ0_charAt_5068e 21 = .ok (.invokestatic 498, 3) := okD_get dqa_1 11 rfl
theorem dJ0_charAt_5068e_24 : decode cJ0_charAt_5068e 24 = .ok (.ireturn, 1) := okD_get dqa_1 12 rfl
theorem dqa_2 : okD cJ0_coder_7d493 [(0, (.getstatic 38, 3)), (3, (.ifCond .eq 10, 3)), (6, (.aload_n 0, 1)), (7, (.getfield 15, 3)), (10, (.goto 4, 3)), (13, (.iconst 1, 1)), (14, (.ireturn, 1))] = true := by decide +kernel
theorem dJ0_coder_7d493_0 : decode cJ0_coder_7d493 0 = .ok (.getstatic 38, 3) := okD_get dqa_2 0 rfl
theorem dJ0_coder_7d493_3 : decode cJ0_coder_7d493 3 = .ok (.ifCond .eq 10, 3) := okD_get dqa_2 1 rfl
theorem dJ0_coder_7d493_6 : decode cJ0_coder_7d493 6 = .ok (.aload_n 0, 1) := okD_get dqa_2 2 rfl
theorem dJ0_coder_7d493_7 : decode cJ0_coder_7d493 7 = .ok (.getfield 15, 3) := okD_get dqa_2 3 rfl
theorem dJ0_coder_7d493_10 : decode cJ0_coder_7d493 10 = .ok (.goto 4, 3) := okD_get dqa_2 4 rfl
theorem dJ0_coder_7d493_13 : decode cJ0_coder_7d493 13 = .ok (.iconst 1, 1) := okD_get dqa_2 5 rfl
theorem dJ0_coder_7d493_14 : decode cJ0_coder_7d493 14 = .ok (.ireturn, 1) := okD_get dqa_2 6 rfl
theorem dqa_3 : okD cJ0_isLatin1_aae02 [(0, (.getstatic 38, 3)), (3, (.ifCond .eq 14, 3)), (6, (.aload_n 0, 1)), (7, (.getfield 15, 3)), (10, (.ifCond .ne 7, 3)), (13, (.iconst 1, 1)), (14, (.goto 4, 3)), (17, (.iconst 0, 1)), (18, (.ireturn, 1))] = true := by decide +kernel
theorem dJ0_isLatin1_aae02_0 : decode cJ0_isLatin1_aae02 0 = .ok (.getstatic 38, 3) := okD_get dqa_3 0 rfl
theorem dJ0_isLatin1_aae02_3 : decode cJ0_isLatin1_aae02 3 = .ok (.ifCond .eq 14, 3) := okD_get dqa_3 1 rfl
theorem dJ0_isLatin1_aae02_6 : decode cJ0_isLatin1_aae02 6 = .ok (.aload_n 0, 1) := okD_get dqa_3 2 rfl
theorem dJ0_isLatin1_aae02_7 : decode cJ0_isLatin1_aae02 7 = .ok (.getfield 15, 3) := okD_get dqa_3 3 rfl
theorem dJ0_isLatin1_aae02_10 : decode cJ0_isLatin1_aae02 10 = .ok (.ifCond .ne 7, 3) := okD_get dqa_3 4 rfl
theorem dJ0_isLatin1_aae02_13 : decode cJ0_isLatin1_aae02 13 = .ok (.iconst 1, 1) := okD_get dqa_3 5 rfl
theorem dJ0_isLatin1_aae02_14 : decode cJ0_isLatin1_aae02 14 = .ok (.goto 4, 3) := okD_get dqa_3 6 rfl
theorem dJ0_isLatin1_aae02_17 : decode cJ0_isLatin1_aae02 17 = .ok (.iconst 0, 1) := okD_get dqa_3 7 rfl
theorem dJ0_isLatin1_aae02_18 : decode cJ0_isLatin1_aae02 18 = .ok (.ireturn, 1) := okD_get dqa_3 8 rfl
theorem dqa_4 : okD cJ0_checkIndex_df160 [(0, (.iload_n 0, 1)), (1, (.iload_n 1, 1)), (2, (.getstatic 1053, 3)), (5, (.invokestatic 1059, 3)), (8, (.pop, 1)), (9, (.return_, 1))] = true := by decide +kernel
theorem dJ0_checkIndex_df160_0 : decode cJ0_checkIndex_df160 0 = .ok (.iload_n 0, 1) := okD_get dqa_4 0 rfl
theorem dJ0_checkIndex_df160_1 : decode cJ0_checkIndex_df160 1 = .ok (.iload_n 1, 1) := okD_get dqa_4 1 rfl
theorem dJ0_checkIndex_df160_2 : decode cJ0_checkIndex_df160 2 = .ok (.getstatic 1053, 3) := okD_get dqa_4 2 rfl
theorem dJ0_checkIndex_df160_5 : decode cJ0_checkIndex_df160 5 = .ok (.invokestatic 1059, 3) := okD_get dqa_4 3 rfl
theorem dJ0_checkIndex_df160_8 : decode cJ0_checkIndex_df160 8 = .ok (.pop, 1) := okD_get dqa_4 4 rfl
theorem dJ0_checkIndex_df160_9 : decode cJ0_checkIndex_df160 9 = .ok (.return_, 1) := okD_get dqa_4 5 rfl
theorem dqa_5 : okD cJ1_charAt_3b067 [(0, (.iload_n 1, 1)), (1, (.aload_n 0, 1)), (2, (.arraylength, 1)), (3, (.invokestatic 9, 3)), (6, (.aload_n 0, 1)), (7, (.iload_n 1, 1)), (8, (.baload, 1)), (9, (.sipush 255, 3)), (12, (.iand, 1)), (13, (.i2c, 1)), (14, (.ireturn, 1))] = true := by decide +kernel
theorem dJ1_charAt_3b067_0 : decode cJ1_charAt_3b067 0 = .ok (.iload_n 1, 1) := okD_get dqa_5 0 rfl
theorem dJ1_charAt_3b067_1 : decode cJ1_charAt_3b067 1 = .ok (.aload_n 0, 1) := okD_get dqa_5 1 rfl
theorem dJ1_charAt_3b067_2 : decode cJ1_charAt_3b067 2 = .ok (.arraylength, 1) := okD_get dqa_5 2 rfl
theorem dJ1_charAt_3b067_3 : decode cJ1_charAt_3b067 3 = .ok (.invokestatic 9, 3) := okD_get dqa_5 3 rfl
theorem dJ1_charAt_3b067_6 : decode cJ1_charAt_3b067 6 = .ok (.aload_n 0, 1) := okD_get dqa_5 4 rfl
theorem dJ1_charAt_3b067_7 : decode cJ1_charAt_3b067 7 = .ok (.iload_n 1, 1) := okD_get dqa_5 5 rfl
theorem dJ1_charAt_3b067_8 : decode cJ1_charAt_3b067 8 = .ok (.baload, 1) := okD_get dqa_5 6 rfl
theorem dJ1_charAt_3b067_9 : decode cJ1_charAt_3b067 9 = .ok (.sipush 255, 3) := okD_get dqa_5 7 rfl
theorem dJ1_charAt_3b067_12 : decode cJ1_charAt_3b067 12 = .ok (.iand, 1) := okD_get dqa_5 8 rfl
theorem dJ1_charAt_3b067_13 : decode cJ1_charAt_3b067 13 = .ok (.i2c, 1) := okD_get dqa_5 9 rfl
theorem dJ1_charAt_3b067_14 : decode cJ1_charAt_3b067 14 = .ok (.ireturn, 1) := okD_get dqa_5 10 rfl
theorem dqa_6 : okD cJ3_checkIndex_8e157 [(0, (.iload_n 0, 1)), (1, (.ifCond .lt 8, 3)), (4, (.iload_n 0, 1)), (5, (.iload_n 1, 1)), (6, (.if_icmp .lt 10, 3)), (9, (.aload_n 2, 1)), (10, (.iload_n 0, 1)), (11, (.iload_n 1, 1)), (12, (.invokestatic 95, 3)), (15, (.athrow, 1)), (16, (.iload_n 0, 1)), (17, (.ireturn, 1))] = true := by decide +kernel
theorem dJ3_checkIndex_8e157_0 : decode cJ3_checkIndex_8e157 0 = .ok (.iload_n 0, 1) := okD_get dqa_6 0 rfl
theorem dJ3_checkIndex_8e157_1 : decode cJ3_checkIndex_8e157 1 = .ok (.ifCond .lt 8, 3) := okD_get dqa_6 1 rfl
theorem dJ3_checkIndex_8e157_4 : decode cJ3_checkIndex_8e157 4 = .ok (.iload_n 0, 1) := okD_get dqa_6 2 rfl
theorem dJ3_checkIndex_8e157_5 : decode cJ3_checkIndex_8e157 5 = .ok (.iload_n 1, 1) := okD_get dqa_6 3 rfl
theorem dJ3_checkIndex_8e157_6 : decode cJ3_checkIndex_8e157 6 = .ok (.if_icmp .lt 10, 3) := okD_get dqa_6 4 rfl
theorem dJ3_checkIndex_8e157_9 : decode cJ3_checkIndex_8e157 9 = .ok (.aload_n 2, 1) := okD_get dqa_6 5 rfl
theorem dJ3_checkIndex_8e157_10 : decode cJ3_checkIndex_8e157 10 = .ok (.iload_n 0, 1) := okD_get dqa_6 6 rfl
theorem dJ3_checkIndex_8e157_11 : decode cJ3_checkIndex_8e157 11 = .ok (.iload_n 1, 1) := okD_get dqa_6 7 rfl
theorem dJ3_checkIndex_8e157_12 : decode cJ3_checkIndex_8e157 12 = .ok (.invokestatic 95, 3) := okD_get dqa_6 8 rfl
theorem dJ3_checkIndex_8e157_15 : decode cJ3_checkIndex_8e157 15 = .ok (.athrow, 1) := okD_get dqa_6 9 rfl
theorem dJ3_checkIndex_8e157_16 : decode cJ3_checkIndex_8e157 16 = .ok (.iload_n 0, 1) := okD_get dqa_6 10 rfl
theorem dJ3_checkIndex_8e157_17 : decode cJ3_checkIndex_8e157 17 = .ok (.ireturn, 1) := okD_get dqa_6 11 rfl
theorem dqa_7 : okD cX0_init [(0, (.aload_n 0, 1)), (1, (.invokespecial 3, 3)), (4, (.aload_n 0, 1)), (5, (.bipush 8, 2)), (7, (.newarray .int, 2)), (9, (.putfield 9, 3)), (12, (.aload_n 0, 1)), (13, (.bipush 8, 2)), (15, (.newarray .int, 2)), (17, (.putfield 15, 3)), (20, (.return_, 1))] = true := by decide +kernel
theorem dX0_init_0 : decode cX0_init 0 = .ok (.aload_n 0, 1) := okD_get dqa_7 0 rfl
theorem dX0_init_1 : decode cX0_init 1 = .ok (.invokespecial 3, 3) := okD_get dqa_7 1 rfl
theorem dX0_init_4 : decode cX0_init 4 = .ok (.aload_n 0, 1) := okD_get dqa_7 2 rfl
theorem dX0_init_5 : decode cX0_init 5 = .ok (.bipush 8, 2) := okD_get dqa_7 3 rfl
theorem dX0_init_7 : decode cX0_init 7 = .ok (.newarray .int, 2) := okD_get dqa_7 4 rfl
theorem dX0_init_9 : decode cX0_init 9 = .ok (.putfield 9, 3) := okD_get dqa_7 5 rfl
theorem dX0_init_12 : decode cX0_init 12 = .ok (.aload_n 0, 1) := okD_get dqa_7 6 rfl
theorem dX0_init_13 : decode cX0_init 13 = .ok (.bipush 8, 2) := okD_get dqa_7 7 rfl
theorem dX0_init_15 : decode cX0_init 15 = .ok (.newarray .int, 2) := okD_get dqa_7 8 rfl
theorem dX0_init_17 : decode cX0_init 17 = .ok (.putfield 15, 3) := okD_get dqa_7 9 rfl
theorem dX0_init_20 : decode cX0_init 20 = .ok (.return_, 1) := okD_get dqa_7 10 rfl
theorem dqa_8 : okD cX0_borneAfter [(0, (.iconst (-1), 1)), (1, (.istore_n 2, 1)), (2, (.iconst 0, 1)), (3, (.istore_n 3, 1)), (4, (.iconst 0, 1)), (5, (.istore 4, 2)), (7, (.iload 4, 2)), (9, (.bipush 8, 2)), (11, (.if_icmp .ge 47, 3)), (14, (.aload_n 0, 1)), (15, (.getfield 9, 3)), (18, (.iload 4, 2)), (20, (.iaload, 1)), (21, (.iload_n 1, 1)), (22, (.if_icmp .gt 30, 3)), (25, (.aload_n 0, 1)), (26, (.getfield 9, 3)), (29, (.iload 4, 2)), (31, (.iaload, 1)), (32, (.iload_n 2, 1)), (33, (.if_icmp .lt 19, 3)), (36, (.aload_n 0, 1)), (37, (.getfield 9, 3)), (40, (.iload 4, 2)), (42, (.iaload, 1)), (43, (.istore_n 2, 1)), (44, (.aload_n 0, 1)), (45, (.getfield 15, 3)), (48, (.iload 4, 2)), (50, (.iaload, 1)), (51, (.istore_n 3, 1)), (52, (.iinc 4 1, 3)), (55, (.goto (-48), 3)), (58, (.iload_n 3, 1)), (59, (.ireturn, 1))] = true := by decide +kernel
theorem dX0_borneAfter_0 : decode cX0_borneAfter 0 = .ok (.iconst (-1), 1) := okD_get dqa_8 0 rfl
theorem dX0_borneAfter_1 : decode cX0_borneAfter 1 = .ok (.istore_n 2, 1) := okD_get dqa_8 1 rfl
theorem dX0_borneAfter_2 : decode cX0_borneAfter 2 = .ok (.iconst 0, 1) := okD_get dqa_8 2 rfl
theorem dX0_borneAfter_3 : decode cX0_borneAfter 3 = .ok (.istore_n 3, 1) := okD_get dqa_8 3 rfl
theorem dX0_borneAfter_4 : decode cX0_borneAfter 4 = .ok (.iconst 0, 1) := okD_get dqa_8 4 rfl
theorem dX0_borneAfter_5 : decode cX0_borneAfter 5 = .ok (.istore 4, 2) := okD_get dqa_8 5 rfl
theorem dX0_borneAfter_7 : decode cX0_borneAfter 7 = .ok (.iload 4, 2) := okD_get dqa_8 6 rfl
theorem dX0_borneAfter_9 : decode cX0_borneAfter 9 = .ok (.bipush 8, 2) := okD_get dqa_8 7 rfl
theorem dX0_borneAfter_11 : decode cX0_borneAfter 11 = .ok (.if_icmp .ge 47, 3) := okD_get dqa_8 8 rfl
theorem dX0_borneAfter_14 : decode cX0_borneAfter 14 = .ok (.aload_n 0, 1) := okD_get dqa_8 9 rfl
theorem dX0_borneAfter_15 : decode cX0_borneAfter 15 = .ok (.getfield 9, 3) := okD_get dqa_8 10 rfl
theorem dX0_borneAfter_18 : decode cX0_borneAfter 18 = .ok (.iload 4, 2) := okD_get dqa_8 11 rfl
theorem dX0_borneAfter_20 : decode cX0_borneAfter 20 = .ok (.iaload, 1) := okD_get dqa_8 12 rfl
theorem dX0_borneAfter_21 : decode cX0_borneAfter 21 = .ok (.iload_n 1, 1) := okD_get dqa_8 13 rfl
theorem dX0_borneAfter_22 : decode cX0_borneAfter 22 = .ok (.if_icmp .gt 30, 3) := okD_get dqa_8 14 rfl
theorem dX0_borneAfter_25 : decode cX0_borneAfter 25 = .ok (.aload_n 0, 1) := okD_get dqa_8 15 rfl
theorem dX0_borneAfter_26 : decode cX0_borneAfter 26 = .ok (.getfield 9, 3) := okD_get dqa_8 16 rfl
theorem dX0_borneAfter_29 : decode cX0_borneAfter 29 = .ok (.iload 4, 2) := okD_get dqa_8 17 rfl
theorem dX0_borneAfter_31 : decode cX0_borneAfter 31 = .ok (.iaload, 1) := okD_get dqa_8 18 rfl
theorem dX0_borneAfter_32 : decode cX0_borneAfter 32 = .ok (.iload_n 2, 1) := okD_get dqa_8 19 rfl
theorem dX0_borneAfter_33 : decode cX0_borneAfter 33 = .ok (.if_icmp .lt 19, 3) := okD_get dqa_8 20 rfl
theorem dX0_borneAfter_36 : decode cX0_borneAfter 36 = .ok (.aload_n 0, 1) := okD_get dqa_8 21 rfl
theorem dX0_borneAfter_37 : decode cX0_borneAfter 37 = .ok (.getfield 9, 3) := okD_get dqa_8 22 rfl
theorem dX0_borneAfter_40 : decode cX0_borneAfter 40 = .ok (.iload 4, 2) := okD_get dqa_8 23 rfl
theorem dX0_borneAfter_42 : decode cX0_borneAfter 42 = .ok (.iaload, 1) := okD_get dqa_8 24 rfl
theorem dX0_borneAfter_43 : decode cX0_borneAfter 43 = .ok (.istore_n 2, 1) := okD_get dqa_8 25 rfl
theorem dX0_borneAfter_44 : decode cX0_borneAfter 44 = .ok (.aload_n 0, 1) := okD_get dqa_8 26 rfl
theorem dX0_borneAfter_45 : decode cX0_borneAfter 45 = .ok (.getfield 15, 3) := okD_get dqa_8 27 rfl
theorem dX0_borneAfter_48 : decode cX0_borneAfter 48 = .ok (.iload 4, 2) := okD_get dqa_8 28 rfl
theorem dX0_borneAfter_50 : decode cX0_borneAfter 50 = .ok (.iaload, 1) := okD_get dqa_8 29 rfl
theorem dX0_borneAfter_51 : decode cX0_borneAfter 51 = .ok (.istore_n 3, 1) := okD_get dqa_8 30 rfl
theorem dX0_borneAfter_52 : decode cX0_borneAfter 52 = .ok (.iinc 4 1, 3) := okD_get dqa_8 31 rfl
theorem dX0_borneAfter_55 : decode cX0_borneAfter 55 = .ok (.goto (-48), 3) := okD_get dqa_8 32 rfl
theorem dX0_borneAfter_58 : decode cX0_borneAfter 58 = .ok (.iload_n 3, 1) := okD_get dqa_8 33 rfl
theorem dX0_borneAfter_59 : decode cX0_borneAfter 59 = .ok (.ireturn, 1) := okD_get dqa_8 34 rfl
theorem dqa_9 : okD cX1_init [(0, (.aload_n 0, 1)), (1, (.invokespecial 3, 3)), (4, (.aload_n 0, 1)), (5, (.bipush 20, 2)), (7, (.newarray .int, 2)), (9, (.putfield 9, 3)), (12, (.aload_n 0, 1)), (13, (.bipush 20, 2)), (15, (.newarray .int, 2)), (17, (.putfield 15, 3)), (20, (.aload_n 0, 1)), (21, (.bipush 20, 2)), (23, (.newarray .int, 2)), (25, (.putfield 18, 3)), (28, (.aload_n 0, 1)), (29, (.bipush 20, 2)), (31, (.newarray .int, 2)), (33, (.putfield 21, 3)), (36, (.aload_n 0, 1)), (37, (.iconst 0, 1)), (38, (.putfield 24, 3)), (41, (.return_, 1))] = true := by decide +kernel
theorem dX1_init_0 : decode cX1_init 0 = .ok (.aload_n 0, 1) := okD_get dqa_9 0 rfl
theorem dX1_init_1 : decode cX1_init 1 = .ok (.invokespecial 3, 3) := okD_get dqa_9 1 rfl
theorem dX1_init_4 : decode cX1_init 4 = .ok (.aload_n 0, 1) := okD_get dqa_9 2 rfl
theorem dX1_init_5 : decode cX1_init 5 = .ok (.bipush 20, 2) := okD_get dqa_9 3 rfl
theorem dX1_init_7 : decode cX1_init 7 = .ok (.newarray .int, 2) := okD_get dqa_9 4 rfl
theorem dX1_init_9 : decode cX1_init 9 = .ok (.putfield 9, 3) := okD_get dqa_9 5 rfl
theorem dX1_init_12 : decode cX1_init 12 = .ok (.aload_n 0, 1) := okD_get dqa_9 6 rfl
theorem dX1_init_13 : decode cX1_init 13 = .ok (.bipush 20, 2) := okD_get dqa_9 7 rfl
theorem dX1_init_15 : decode cX1_init 15 = .ok (.newarray .int, 2) := okD_get dqa_9 8 rfl
theorem dX1_init_17 : decode cX1_init 17 = .ok (.putfield 15, 3) := okD_get dqa_9 9 rfl
theorem dX1_init_20 : decode cX1_init 20 = .ok (.aload_n 0, 1) := okD_get dqa_9 10 rfl
theorem dX1_init_21 : decode cX1_init 21 = .ok (.bipush 20, 2) := okD_get dqa_9 11 rfl
theorem dX1_init_23 : decode cX1_init 23 = .ok (.newarray .int, 2) := okD_get dqa_9 12 rfl
theorem dX1_init_25 : decode cX1_init 25 = .ok (.putfield 18, 3) := okD_get dqa_9 13 rfl
theorem dX1_init_28 : decode cX1_init 28 = .ok (.aload_n 0, 1) := okD_get dqa_9 14 rfl
theorem dX1_init_29 : decode cX1_init 29 = .ok (.bipush 20, 2) := okD_get dqa_9 15 rfl
theorem dX1_init_31 : decode cX1_init 31 = .ok (.newarray .int, 2) := okD_get dqa_9 16 rfl
theorem dX1_init_33 : decode cX1_init 33 = .ok (.putfield 21, 3) := okD_get dqa_9 17 rfl
theorem dX1_init_36 : decode cX1_init 36 = .ok (.aload_n 0, 1) := okD_get dqa_9 18 rfl
theorem dX1_init_37 : decode cX1_init 37 = .ok (.iconst 0, 1) := okD_get dqa_9 19 rfl
theorem dX1_init_38 : decode cX1_init 38 = .ok (.putfield 24, 3) := okD_get dqa_9 20 rfl
theorem dX1_init_41 : decode cX1_init 41 = .ok (.return_, 1) := okD_get dqa_9 21 rfl
theorem dqa_10 : okD cX1_add [(0, (.aload_n 0, 1)), (1, (.getfield 24, 3)), (4, (.bipush 20, 2)), (6, (.if_icmp .ge 54, 3)), (9, (.aload_n 0, 1)), (10, (.getfield 9, 3)), (13, (.aload_n 0, 1)), (14, (.getfield 24, 3)), (17, (.iload_n 1, 1)), (18, (.iastore, 1)), (19, (.aload_n 0, 1)), (20, (.getfield 15, 3)), (23, (.aload_n 0, 1)), (24, (.getfield 24, 3)), (27, (.iload_n 2, 1)), (28, (.iastore, 1)), (29, (.aload_n 0, 1)), (30, (.getfield 18, 3)), (33, (.aload_n 0, 1)), (34, (.getfield 24, 3)), (37, (.iload_n 3, 1)), (38, (.iastore, 1)), (39, (.aload_n 0, 1)), (40, (.getfield 21, 3)), (43, (.aload_n 0, 1)), (44, (.getfield 24, 3)), (47, (.iload 4, 2)), (49, (.iastore, 1)), (50, (.aload_n 0, 1)), (51, (.dup, 1)), (52, (.getfield 24, 3)), (55, (.iconst 1, 1)), (56, (.iadd, 1)), (57, (.putfield 24, 3)), (60, (.return_, 1))] = true := by decide +kernel
theorem dX1_add_0 : decode cX1_add 0 = .ok (.aload_n 0, 1) := okD_get dqa_10 0 rfl
theorem dX1_add_1 : decode cX1_add 1 = .ok (.getfield 24, 3) := okD_get dqa_10 1 rfl
theorem dX1_add_4 : decode cX1_add 4 = .ok (.bipush 20, 2) := okD_get dqa_10 2 rfl
theorem dX1_add_6 : decode cX1_add 6 = .ok (.if_icmp .ge 54, 3) := okD_get dqa_10 3 rfl
theorem dX1_add_9 : decode cX1_add 9 = .ok (.aload_n 0, 1) := okD_get dqa_10 4 rfl
theorem dX1_add_10 : decode cX1_add 10 = .ok (.getfield 9, 3) := okD_get dqa_10 5 rfl
theorem dX1_add_13 : decode cX1_add 13 = .ok (.aload_n 0, 1) := okD_get dqa_10 6 rfl
theorem dX1_add_14 : decode cX1_add 14 = .ok (.getfield 24, 3) := okD_get dqa_10 7 rfl
theorem dX1_add_17 : decode cX1_add 17 = .ok (.iload_n 1, 1) := okD_get dqa_10 8 rfl
theorem dX1_add_18 : decode cX1_add 18 = .ok (.iastore, 1) := okD_get dqa_10 9 rfl
theorem dX1_add_19 : decode cX1_add 19 = .ok (.aload_n 0, 1) := okD_get dqa_10 10 rfl
theorem dX1_add_20 : decode cX1_add 20 = .ok (.getfield 15, 3) := okD_get dqa_10 11 rfl
theorem dX1_add_23 : decode cX1_add 23 = .ok (.aload_n 0, 1) := okD_get dqa_10 12 rfl
theorem dX1_add_24 : decode cX1_add 24 = .ok (.getfield 24, 3) := okD_get dqa_10 13 rfl
theorem dX1_add_27 : decode cX1_add 27 = .ok (.iload_n 2, 1) := okD_get dqa_10 14 rfl
theorem dX1_add_28 : decode cX1_add 28 = .ok (.iastore, 1) := okD_get dqa_10 15 rfl
theorem dX1_add_29 : decode cX1_add 29 = .ok (.aload_n 0, 1) := okD_get dqa_10 16 rfl
theorem dX1_add_30 : decode cX1_add 30 = .ok (.getfield 18, 3) := okD_get dqa_10 17 rfl
theorem dX1_add_33 : decode cX1_add 33 = .ok (.aload_n 0, 1) := okD_get dqa_10 18 rfl
theorem dX1_add_34 : decode cX1_add 34 = .ok (.getfield 24, 3) := okD_get dqa_10 19 rfl
theorem dX1_add_37 : decode cX1_add 37 = .ok (.iload_n 3, 1) := okD_get dqa_10 20 rfl
theorem dX1_add_38 : decode cX1_add 38 = .ok (.iastore, 1) := okD_get dqa_10 21 rfl
theorem dX1_add_39 : decode cX1_add 39 = .ok (.aload_n 0, 1) := okD_get dqa_10 22 rfl
theorem dX1_add_40 : decode cX1_add 40 = .ok (.getfield 21, 3) := okD_get dqa_10 23 rfl
theorem dX1_add_43 : decode cX1_add 43 = .ok (.aload_n 0, 1) := okD_get dqa_10 24 rfl
theorem dX1_add_44 : decode cX1_add 44 = .ok (.getfield 24, 3) := okD_get dqa_10 25 rfl
theorem dX1_add_47 : decode cX1_add 47 = .ok (.iload 4, 2) := okD_get dqa_10 26 rfl
theorem dX1_add_49 : decode cX1_add 49 = .ok (.iastore, 1) := okD_get dqa_10 27 rfl
theorem dX1_add_50 : decode cX1_add 50 = .ok (.aload_n 0, 1) := okD_get dqa_10 28 rfl
theorem dX1_add_51 : decode cX1_add 51 = .ok (.dup, 1) := okD_get dqa_10 29 rfl
theorem dX1_add_52 : decode cX1_add 52 = .ok (.getfield 24, 3) := okD_get dqa_10 30 rfl
theorem dX1_add_55 : decode cX1_add 55 = .ok (.iconst 1, 1) := okD_get dqa_10 31 rfl
theorem dX1_add_56 : decode cX1_add 56 = .ok (.iadd, 1) := okD_get dqa_10 32 rfl
theorem dX1_add_57 : decode cX1_add 57 = .ok (.putfield 24, 3) := okD_get dqa_10 33 rfl
theorem dX1_add_60 : decode cX1_add 60 = .ok (.return_, 1) := okD_get dqa_10 34 rfl
theorem dqa_11 : okD cX1_frees [(0, (.aload_n 0, 1)), (1, (.iconst 2, 1)), (2, (.invokevirtual 28, 3)), (5, (.istore_n 2, 1)), (6, (.iload_n 2, 1)), (7, (.iconst (-1), 1)), (8, (.if_icmp .eq 17, 3)), (11, (.iload_n 1, 1)), (12, (.aload_n 0, 1)), (13, (.getfield 21, 3)), (16, (.iload_n 2, 1)), (17, (.iaload, 1)), (18, (.if_icmp .ge 7, 3)), (21, (.iconst 1, 1)), (22, (.goto 4, 3)), (25, (.iconst 0, 1)), (26, (.ireturn, 1))] = true := by decide +kernel
theorem dX1_frees_0 : decode cX1_frees 0 = .ok (.aload_n 0, 1) := okD_get dqa_11 0 rfl
theorem dX1_frees_1 : decode cX1_frees 1 = .ok (.iconst 2, 1) := okD_get dqa_11 1 rfl
theorem dX1_frees_2 : decode cX1_frees 2 = .ok (.invokevirtual 28, 3) := okD_get dqa_11 2 rfl
theorem dX1_frees_5 : decode cX1_frees 5 = .ok (.istore_n 2, 1) := okD_get dqa_11 3 rfl
theorem dX1_frees_6 : decode cX1_frees 6 = .ok (.iload_n 2, 1) := okD_get dqa_11 4 rfl
theorem dX1_frees_7 : decode cX1_frees 7 = .ok (.iconst (-1), 1) := okD_get dqa_11 5 rfl
theorem dX1_frees_8 : decode cX1_frees 8 = .ok (.if_icmp .eq 17, 3) := okD_get dqa_11 6 rfl
theorem dX1_frees_11 : decode cX1_frees 11 = .ok (.iload_n 1, 1) := okD_get dqa_11 7 rfl
theorem dX1_frees_12 : decode cX1_frees 12 = .ok (.aload_n 0, 1) := okD_get dqa_11 8 rfl
theorem dX1_frees_13 : decode cX1_frees 13 = .ok (.getfield 21, 3) := okD_get dqa_11 9 rfl
theorem dX1_frees_16 : decode cX1_frees 16 = .ok (.iload_n 2, 1) := okD_get dqa_11 10 rfl
theorem dX1_frees_17 : decode cX1_frees 17 = .ok (.iaload, 1) := okD_get dqa_11 11 rfl
theorem dX1_frees_18 : decode cX1_frees 18 = .ok (.if_icmp .ge 7, 3) := okD_get dqa_11 12 rfl
theorem dX1_frees_21 : decode cX1_frees 21 = .ok (.iconst 1, 1) := okD_get dqa_11 13 rfl
theorem dX1_frees_22 : decode cX1_frees 22 = .ok (.goto 4, 3) := okD_get dqa_11 14 rfl
theorem dX1_frees_25 : decode cX1_frees 25 = .ok (.iconst 0, 1) := okD_get dqa_11 15 rfl
theorem dX1_frees_26 : decode cX1_frees 26 = .ok (.ireturn, 1) := okD_get dqa_11 16 rfl
theorem dqa_12 : okD cX1_taxOn [(0, (.iconst (-1), 1)), (1, (.istore_n 3, 1)), (2, (.iconst 0, 1)), (3, (.istore 4, 2)), (5, (.iload 4, 2)), (7, (.aload_n 0, 1)), (8, (.getfield 24, 3)), (11, (.if_icmp .ge 54, 3)), (14, (.aload_n 0, 1)), (15, (.getfield 9, 3)), (18, (.iload 4, 2)), (20, (.iaload, 1)), (21, (.ifCond .ne 38, 3)), (24, (.aload_n 0, 1)), (25, (.getfield 21, 3)), (28, (.iload 4, 2)), (30, (.iaload, 1)), (31, (.iload_n 2, 1)), (32, (.if_icmp .gt 27, 3)), (35, (.iload_n 3, 1)), (36, (.iconst (-1), 1)), (37, (.if_icmp .eq 19, 3)), (40, (.aload_n 0, 1)), (41, (.getfield 21, 3)), (44, (.iload 4, 2)), (46, (.iaload, 1)), (47, (.aload_n 0, 1)), (48, (.getfield 21, 3)), (51, (.iload_n 3, 1)), (52, (.iaload, 1)), (53, (.if_icmp .lt 6, 3)), (56, (.iload 4, 2)), (58, (.istore_n 3, 1)), (59, (.iinc 4 1, 3)), (62, (.goto (-57), 3)), (65, (.aload_n 0, 1)), (66, (.iload_n 1, 1)), (67, (.iload_n 3, 1)), (68, (.invokevirtual 32, 3)), (71, (.ireturn, 1))] = true := by decide +kernel
theorem dX1_taxOn_0 : decode cX1_taxOn 0 = .ok (.iconst (-1), 1) := okD_get dqa_12 0 rfl
theorem dX1_taxOn_1 : decode cX1_taxOn 1 = .ok (.istore_n 3, 1) := okD_get dqa_12 1 rfl
theorem dX1_taxOn_2 : decode cX1_taxOn 2 = .ok (.iconst 0, 1) := okD_get dqa_12 2 rfl
theorem dX1_taxOn_3 : decode cX1_taxOn 3 = .ok (.istore 4, 2) := okD_get dqa_12 3 rfl
theorem dX1_taxOn_5 : decode cX1_taxOn 5 = .ok (.iload 4, 2) := okD_get dqa_12 4 rfl
theorem dX1_taxOn_7 : decode cX1_taxOn 7 = .ok (.aload_n 0, 1) := okD_get dqa_12 5 rfl
theorem dX1_taxOn_8 : decode cX1_taxOn 8 = .ok (.getfield 24, 3) := okD_get dqa_12 6 rfl
theorem dX1_taxOn_11 : decode cX1_taxOn 11 = .ok (.if_icmp .ge 54, 3) := okD_get dqa_12 7 rfl
theorem dX1_taxOn_14 : decode cX1_taxOn 14 = .ok (.aload_n 0, 1) := okD_get dqa_12 8 rfl
theorem dX1_taxOn_15 : decode cX1_taxOn 15 = .ok (.getfield 9, 3) := okD_get dqa_12 9 rfl
theorem dX1_taxOn_18 : decode cX1_taxOn 18 = .ok (.iload 4, 2) := okD_get dqa_12 10 rfl
theorem dX1_taxOn_20 : decode cX1_taxOn 20 = .ok (.iaload, 1) := okD_get dqa_12 11 rfl
theorem dX1_taxOn_21 : decode cX1_taxOn 21 = .ok (.ifCond .ne 38, 3) := okD_get dqa_12 12 rfl
theorem dX1_taxOn_24 : decode cX1_taxOn 24 = .ok (.aload_n 0, 1) := okD_get dqa_12 13 rfl
theorem dX1_taxOn_25 : decode cX1_taxOn 25 = .ok (.getfield 21, 3) := okD_get dqa_12 14 rfl
theorem dX1_taxOn_28 : decode cX1_taxOn 28 = .ok (.iload 4, 2) := okD_get dqa_12 15 rfl
theorem dX1_taxOn_30 : decode cX1_taxOn 30 = .ok (.iaload, 1) := okD_get dqa_12 16 rfl
theorem dX1_taxOn_31 : decode cX1_taxOn 31 = .ok (.iload_n 2, 1) := okD_get dqa_12 17 rfl
theorem dX1_taxOn_32 : decode cX1_taxOn 32 = .ok (.if_icmp .gt 27, 3) := okD_get dqa_12 18 rfl
theorem dX1_taxOn_35 : decode cX1_taxOn 35 = .ok (.iload_n 3, 1) := okD_get dqa_12 19 rfl
theorem dX1_taxOn_36 : decode cX1_taxOn 36 = .ok (.iconst (-1), 1) := okD_get dqa_12 20 rfl
theorem dX1_taxOn_37 : decode cX1_taxOn 37 = .ok (.if_icmp .eq 19, 3) := okD_get dqa_12 21 rfl
theorem dX1_taxOn_40 : decode cX1_taxOn 40 = .ok (.aload_n 0, 1) := okD_get dqa_12 22 rfl
theorem dX1_taxOn_41 : decode cX1_taxOn 41 = .ok (.getfield 21, 3) := okD_get dqa_12 23 rfl
theorem dX1_taxOn_44 : decode cX1_taxOn 44 = .ok (.iload 4, 2) := okD_get dqa_12 24 rfl
theorem dX1_taxOn_46 : decode cX1_taxOn 46 = .ok (.iaload, 1) := okD_get dqa_12 25 rfl
theorem dX1_taxOn_47 : decode cX1_taxOn 47 = .ok (.aload_n 0, 1) := okD_get dqa_12 26 rfl
theorem dX1_taxOn_48 : decode cX1_taxOn 48 = .ok (.getfield 21, 3) := okD_get dqa_12 27 rfl
theorem dX1_taxOn_51 : decode cX1_taxOn 51 = .ok (.iload_n 3, 1) := okD_get dqa_12 28 rfl
theorem dX1_taxOn_52 : decode cX1_taxOn 52 = .ok (.iaload, 1) := okD_get dqa_12 29 rfl
theorem dX1_taxOn_53 : decode cX1_taxOn 53 = .ok (.if_icmp .lt 6, 3) := okD_get dqa_12 30 rfl
theorem dX1_taxOn_56 : decode cX1_taxOn 56 = .ok (.iload 4, 2) := okD_get dqa_12 31 rfl
theorem dX1_taxOn_58 : decode cX1_taxOn 58 = .ok (.istore_n 3, 1) := okD_get dqa_12 32 rfl
theorem dX1_taxOn_59 : decode cX1_taxOn 59 = .ok (.iinc 4 1, 3) := okD_get dqa_12 33 rfl
theorem dX1_taxOn_62 : decode cX1_taxOn 62 = .ok (.goto (-57), 3) := okD_get dqa_12 34 rfl
theorem dX1_taxOn_65 : decode cX1_taxOn 65 = .ok (.aload_n 0, 1) := okD_get dqa_12 35 rfl
theorem dX1_taxOn_66 : decode cX1_taxOn 66 = .ok (.iload_n 1, 1) := okD_get dqa_12 36 rfl
theorem dX1_taxOn_67 : decode cX1_taxOn 67 = .ok (.iload_n 3, 1) := okD_get dqa_12 37 rfl
theorem dX1_taxOn_68 : decode cX1_taxOn 68 = .ok (.invokevirtual 32, 3) := okD_get dqa_12 38 rfl
theorem dX1_taxOn_71 : decode cX1_taxOn 71 = .ok (.ireturn, 1) := okD_get dqa_12 39 rfl
theorem dqa_13 : okD cX1_reliefOn [(0, (.iconst (-1), 1)), (1, (.istore_n 3, 1)), (2, (.iconst 0, 1)), (3, (.istore 4, 2)), (5, (.iload 4, 2)), (7, (.aload_n 0, 1)), (8, (.getfield 24, 3)), (11, (.if_icmp .ge 55, 3)), (14, (.aload_n 0, 1)), (15, (.getfield 9, 3)), (18, (.iload 4, 2)), (20, (.iaload, 1)), (21, (.iconst 1, 1)), (22, (.if_icmp .ne 38, 3)), (25, (.aload_n 0, 1)), (26, (.getfield 21, 3)), (29, (.iload 4, 2)), (31, (.iaload, 1)), (32, (.iload_n 2, 1)), (33, (.if_icmp .le 27, 3)), (36, (.iload_n 3, 1)), (37, (.iconst (-1), 1)), (38, (.if_icmp .eq 19, 3)), (41, (.aload_n 0, 1)), (42, (.getfield 21, 3)), (45, (.iload 4, 2)), (47, (.iaload, 1)), (48, (.aload_n 0, 1)), (49, (.getfield 21, 3)), (52, (.iload_n 3, 1)), (53, (.iaload, 1)), (54, (.if_icmp .gt 6, 3)), (57, (.iload 4, 2)), (59, (.istore_n 3, 1)), (60, (.iinc 4 1, 3)), (63, (.goto (-58), 3)), (66, (.aload_n 0, 1)), (67, (.iload_n 1, 1)), (68, (.iload_n 3, 1)), (69, (.invokevirtual 32, 3))] = true := by decide +kernel
theorem dX1_reliefOn_0 : decode cX1_reliefOn 0 = .ok (.iconst (-1), 1) := okD_get dqa_13 0 rfl
theorem dX1_reliefOn_1 : decode cX1_reliefOn 1 = .ok (.istore_n 3, 1) := okD_get dqa_13 1 rfl
theorem dX1_reliefOn_2 : decode cX1_reliefOn 2 = .ok (.iconst 0, 1) := okD_get dqa_13 2 rfl
theorem dX1_reliefOn_3 : decode cX1_reliefOn 3 = .ok (.istore 4, 2) := okD_get dqa_13 3 rfl
theorem dX1_reliefOn_5 : decode cX1_reliefOn 5 = .ok (.iload 4, 2) := okD_get dqa_13 4 rfl
theorem dX1_reliefOn_7 : decode cX1_reliefOn 7 = .ok (.aload_n 0, 1) := okD_get dqa_13 5 rfl
theorem dX1_reliefOn_8 : decode cX1_reliefOn 8 = .ok (.getfield 24, 3) := okD_get dqa_13 6 rfl
theorem dX1_reliefOn_11 : decode cX1_reliefOn 11 = .ok (.if_icmp .ge 55, 3) := okD_get dqa_13 7 rfl
theorem dX1_reliefOn_14 : decode cX1_reliefOn 14 = .ok (.aload_n 0, 1) := okD_get dqa_13 8 rfl
theorem dX1_reliefOn_15 : decode cX1_reliefOn 15 = .ok (.getfield 9, 3) := okD_get dqa_13 9 rfl
theorem dX1_reliefOn_18 : decode cX1_reliefOn 18 = .ok (.iload 4, 2) := okD_get dqa_13 10 rfl
theorem dX1_reliefOn_20 : decode cX1_reliefOn 20 = .ok (.iaload, 1) := okD_get dqa_13 11 rfl
theorem dX1_reliefOn_21 : decode cX1_reliefOn 21 = .ok (.iconst 1, 1) := okD_get dqa_13 12 rfl
theorem dX1_reliefOn_22 : decode cX1_reliefOn 22 = .ok (.if_icmp .ne 38, 3) := okD_get dqa_13 13 rfl
theorem dX1_reliefOn_25 : decode cX1_reliefOn 25 = .ok (.aload_n 0, 1) := okD_get dqa_13 14 rfl
theorem dX1_reliefOn_26 : decode cX1_reliefOn 26 = .ok (.getfield 21, 3) := okD_get dqa_13 15 rfl
theorem dX1_reliefOn_29 : decode cX1_reliefOn 29 = .ok (.iload 4, 2) := okD_get dqa_13 16 rfl
theorem dX1_reliefOn_31 : decode cX1_reliefOn 31 = .ok (.iaload, 1) := okD_get dqa_13 17 rfl
theorem dX1_reliefOn_32 : decode cX1_reliefOn 32 = .ok (.iload_n 2, 1) := okD_get dqa_13 18 rfl
theorem dX1_reliefOn_33 : decode cX1_reliefOn 33 = .ok (.if_icmp .le 27, 3) := okD_get dqa_13 19 rfl
theorem dX1_reliefOn_36 : decode cX1_reliefOn 36 = .ok (.iload_n 3, 1) := okD_get dqa_13 20 rfl
theorem dX1_reliefOn_37 : decode cX1_reliefOn 37 = .ok (.iconst (-1), 1) := okD_get dqa_13 21 rfl
theorem dX1_reliefOn_38 : decode cX1_reliefOn 38 = .ok (.if_icmp .eq 19, 3) := okD_get dqa_13 22 rfl
theorem dX1_reliefOn_41 : decode cX1_reliefOn 41 = .ok (.aload_n 0, 1) := okD_get dqa_13 23 rfl
theorem dX1_reliefOn_42 : decode cX1_reliefOn 42 = .ok (.getfield 21, 3) := okD_get dqa_13 24 rfl
theorem dX1_reliefOn_45 : decode cX1_reliefOn 45 = .ok (.iload 4, 2) := okD_get dqa_13 25 rfl
theorem dX1_reliefOn_47 : decode cX1_reliefOn 47 = .ok (.iaload, 1) := okD_get dqa_13 26 rfl
theorem dX1_reliefOn_48 : decode cX1_reliefOn 48 = .ok (.aload_n 0, 1) := okD_get dqa_13 27 rfl
theorem dX1_reliefOn_49 : decode cX1_reliefOn 49 = .ok (.getfield 21, 3) := okD_get dqa_13 28 rfl
theorem dX1_reliefOn_52 : decode cX1_reliefOn 52 = .ok (.iload_n 3, 1) := okD_get dqa_13 29 rfl
theorem dX1_reliefOn_53 : decode cX1_reliefOn 53 = .ok (.iaload, 1) := okD_get dqa_13 30 rfl
theorem dX1_reliefOn_54 : decode cX1_reliefOn 54 = .ok (.if_icmp .gt 6, 3) := okD_get dqa_13 31 rfl
theorem dX1_reliefOn_57 : decode cX1_reliefOn 57 = .ok (.iload 4, 2) := okD_get dqa_13 32 rfl
theorem dX1_reliefOn_59 : decode cX1_reliefOn 59 = .ok (.istore_n 3, 1) := okD_get dqa_13 33 rfl
theorem dX1_reliefOn_60 : decode cX1_reliefOn 60 = .ok (.iinc 4 1, 3) := okD_get dqa_13 34 rfl
theorem dX1_reliefOn_63 : decode cX1_reliefOn 63 = .ok (.goto (-58), 3) := okD_get dqa_13 35 rfl
theorem dX1_reliefOn_66 : decode cX1_reliefOn 66 = .ok (.aload_n 0, 1) := okD_get dqa_13 36 rfl
theorem dX1_reliefOn_67 : decode cX1_reliefOn 67 = .ok (.iload_n 1, 1) := okD_get dqa_13 37 rfl
theorem dX1_reliefOn_68 : decode cX1_reliefOn 68 = .ok (.iload_n 3, 1) := okD_get dqa_13 38 rfl
theorem dX1_reliefOn_69 : decode cX1_reliefOn 69 = .ok (.invokevirtual 32, 3) := okD_get dqa_13 39 rfl
theorem dqa_14 : okD cX1_reliefOn [(72, (.ireturn, 1))] = true := by decide +kernel
theorem dX1_reliefOn_72 : decode cX1_reliefOn 72 = .ok (.ireturn, 1) := okD_get dqa_14 0 rfl
theorem dqa_15 : okD cX1_officerPart [(0, (.aload_n 0, 1)), (1, (.iload_n 1, 1)), (2, (.aload_n 0, 1)), (3, (.iconst 3, 1)), (4, (.invokevirtual 28, 3)), (7, (.invokevirtual 32, 3)), (10, (.ireturn, 1))] = true := by decide +kernel
theorem dX1_officerPart_0 : decode cX1_officerPart 0 = .ok (.aload_n 0, 1) := okD_get dqa_15 0 rfl
theorem dX1_officerPart_1 : decode cX1_officerPart 1 = .ok (.iload_n 1, 1) := okD_get dqa_15 1 rfl
theorem dX1_officerPart_2 : decode cX1_officerPart 2 = .ok (.aload_n 0, 1) := okD_get dqa_15 2 rfl
theorem dX1_officerPart_3 : decode cX1_officerPart 3 = .ok (.iconst 3, 1) := okD_get dqa_15 3 rfl
theorem dX1_officerPart_4 : decode cX1_officerPart 4 = .ok (.invokevirtual 28, 3) := okD_get dqa_15 4 rfl
theorem dX1_officerPart_7 : decode cX1_officerPart 7 = .ok (.invokevirtual 32, 3) := okD_get dqa_15 5 rfl
theorem dX1_officerPart_10 : decode cX1_officerPart 10 = .ok (.ireturn, 1) := okD_get dqa_15 6 rfl
theorem dqa_16 : okD cX1_lastOf [(0, (.iconst (-1), 1)), (1, (.istore_n 2, 1)), (2, (.iconst 0, 1)), (3, (.istore_n 3, 1)), (4, (.iload_n 3, 1)), (5, (.aload_n 0, 1)), (6, (.getfield 24, 3)), (9, (.if_icmp .ge 21, 3)), (12, (.aload_n 0, 1)), (13, (.getfield 9, 3)), (16, (.iload_n 3, 1)), (17, (.iaload, 1)), (18, (.iload_n 1, 1)), (19, (.if_icmp .ne 5, 3)), (22, (.iload_n 3, 1)), (23, (.istore_n 2, 1)), (24, (.iinc 3 1, 3)), (27, (.goto (-23), 3)), (30, (.iload_n 2, 1)), (31, (.ireturn, 1))] = true := by decide +kernel
theorem dX1_lastOf_0 : decode cX1_lastOf 0 = .ok (.iconst (-1), 1) := okD_get dqa_16 0 rfl
theorem dX1_lastOf_1 : decode cX1_lastOf 1 = .ok (.istore_n 2, 1) := okD_get dqa_16 1 rfl
theorem dX1_lastOf_2 : decode cX1_lastOf 2 = .ok (.iconst 0, 1) := okD_get dqa_16 2 rfl
theorem dX1_lastOf_3 : decode cX1_lastOf 3 = .ok (.istore_n 3, 1) := okD_get dqa_16 3 rfl
theorem dX1_lastOf_4 : decode cX1_lastOf 4 = .ok (.iload_n 3, 1) := okD_get dqa_16 4 rfl
theorem dX1_lastOf_5 : decode cX1_lastOf 5 = .ok (.aload_n 0, 1) := okD_get dqa_16 5 rfl
theorem dX1_lastOf_6 : decode cX1_lastOf 6 = .ok (.getfield 24, 3) := okD_get dqa_16 6 rfl
theorem dX1_lastOf_9 : decode cX1_lastOf 9 = .ok (.if_icmp .ge 21, 3) := okD_get dqa_16 7 rfl
theorem dX1_lastOf_12 : decode cX1_lastOf 12 = .ok (.aload_n 0, 1) := okD_get dqa_16 8 rfl
theorem dX1_lastOf_13 : decode cX1_lastOf 13 = .ok (.getfield 9, 3) := okD_get dqa_16 9 rfl
theorem dX1_lastOf_16 : decode cX1_lastOf 16 = .ok (.iload_n 3, 1) := okD_get dqa_16 10 rfl
theorem dX1_lastOf_17 : decode cX1_lastOf 17 = .ok (.iaload, 1) := okD_get dqa_16 11 rfl
theorem dX1_lastOf_18 : decode cX1_lastOf 18 = .ok (.iload_n 1, 1) := okD_get dqa_16 12 rfl
theorem dX1_lastOf_19 : decode cX1_lastOf 19 = .ok (.if_icmp .ne 5, 3) := okD_get dqa_16 13 rfl
theorem dX1_lastOf_22 : decode cX1_lastOf 22 = .ok (.iload_n 3, 1) := okD_get dqa_16 14 rfl
theorem dX1_lastOf_23 : decode cX1_lastOf 23 = .ok (.istore_n 2, 1) := okD_get dqa_16 15 rfl
theorem dX1_lastOf_24 : decode cX1_lastOf 24 = .ok (.iinc 3 1, 3) := okD_get dqa_16 16 rfl
theorem dX1_lastOf_27 : decode cX1_lastOf 27 = .ok (.goto (-23), 3) := okD_get dqa_16 17 rfl
theorem dX1_lastOf_30 : decode cX1_lastOf 30 = .ok (.iload_n 2, 1) := okD_get dqa_16 18 rfl
theorem dX1_lastOf_31 : decode cX1_lastOf 31 = .ok (.ireturn, 1) := okD_get dqa_16 19 rfl
theorem dqa_17 : okD cX1_partOf [(0, (.iload_n 2, 1)), (1, (.iconst (-1), 1)), (2, (.if_icmp .ne 7, 3)), (5, (.iconst 0, 1)), (6, (.goto 23, 3)), (9, (.iload_n 1, 1)), (10, (.i2l, 1)), (11, (.aload_n 0, 1)), (12, (.getfield 15, 3)), (15, (.iload_n 2, 1)), (16, (.iaload, 1)), (17, (.i2l, 1)), (18, (.aload_n 0, 1)), (19, (.getfield 18, 3)), (22, (.iload_n 2, 1)), (23, (.iaload, 1)), (24, (.i2l, 1)), (25, (.invokestatic 36, 3)), (28, (.l2i, 1)), (29, (.ireturn, 1))] = true := by decide +kernel
theorem dX1_partOf_0 : decode cX1_partOf 0 = .ok (.iload_n 2, 1) := okD_get dqa_17 0 rfl
theorem dX1_partOf_1 : decode cX1_partOf 1 = .ok (.iconst (-1), 1) := okD_get dqa_17 1 rfl
theorem dX1_partOf_2 : decode cX1_partOf 2 = .ok (.if_icmp .ne 7, 3) := okD_get dqa_17 2 rfl
theorem dX1_partOf_5 : decode cX1_partOf 5 = .ok (.iconst 0, 1) := okD_get dqa_17 3 rfl
theorem dX1_partOf_6 : decode cX1_partOf 6 = .ok (.goto 23, 3) := okD_get dqa_17 4 rfl
theorem dX1_partOf_9 : decode cX1_partOf 9 = .ok (.iload_n 1, 1) := okD_get dqa_17 5 rfl
theorem dX1_partOf_10 : decode cX1_partOf 10 = .ok (.i2l, 1) := okD_get dqa_17 6 rfl
theorem dX1_partOf_11 : decode cX1_partOf 11 = .ok (.aload_n 0, 1) := okD_get dqa_17 7 rfl
theorem dX1_partOf_12 : decode cX1_partOf 12 = .ok (.getfield 15, 3) := okD_get dqa_17 8 rfl
theorem dX1_partOf_15 : decode cX1_partOf 15 = .ok (.iload_n 2, 1) := okD_get dqa_17 9 rfl
theorem dX1_partOf_16 : decode cX1_partOf 16 = .ok (.iaload, 1) := okD_get dqa_17 10 rfl
theorem dX1_partOf_17 : decode cX1_partOf 17 = .ok (.i2l, 1) := okD_get dqa_17 11 rfl
theorem dX1_partOf_18 : decode cX1_partOf 18 = .ok (.aload_n 0, 1) := okD_get dqa_17 12 rfl
theorem dX1_partOf_19 : decode cX1_partOf 19 = .ok (.getfield 18, 3) := okD_get dqa_17 13 rfl
theorem dX1_partOf_22 : decode cX1_partOf 22 = .ok (.iload_n 2, 1) := okD_get dqa_17 14 rfl
theorem dX1_partOf_23 : decode cX1_partOf 23 = .ok (.iaload, 1) := okD_get dqa_17 15 rfl
theorem dX1_partOf_24 : decode cX1_partOf 24 = .ok (.i2l, 1) := okD_get dqa_17 16 rfl
theorem dX1_partOf_25 : decode cX1_partOf 25 = .ok (.invokestatic 36, 3) := okD_get dqa_17 17 rfl
theorem dX1_partOf_28 : decode cX1_partOf 28 = .ok (.l2i, 1) := okD_get dqa_17 18 rfl
theorem dX1_partOf_29 : decode cX1_partOf 29 = .ok (.ireturn, 1) := okD_get dqa_17 19 rfl
theorem dqa_18 : okD cX2_init [(0, (.aload_n 0, 1)), (1, (.invokespecial 3, 3)), (4, (.aload_n 0, 1)), (5, (.bipush 24, 2)), (7, (.newarray .int, 2)), (9, (.putfield 9, 3)), (12, (.aload_n 0, 1)), (13, (.bipush 24, 2)), (15, (.newarray .int, 2)), (17, (.putfield 15, 3)), (20, (.aload_n 0, 1)), (21, (.bipush 24, 2)), (23, (.newarray .int, 2)), (25, (.putfield 18, 3)), (28, (.aload_n 0, 1)), (29, (.bipush 24, 2)), (31, (.newarray .int, 2)), (33, (.putfield 21, 3)), (36, (.aload_n 0, 1)), (37, (.bipush 25, 2)), (39, (.newarray .boolean, 2)), (41, (.putfield 24, 3)), (44, (.aload_n 0, 1)), (45, (.bipush 24, 2)), (47, (.newarray .int, 2)), (49, (.putfield 28, 3)), (52, (.aload_n 0, 1)), (53, (.iconst 0, 1)), (54, (.putfield 31, 3)), (57, (.return_, 1))] = true := by decide +kernel
theorem dX2_init_0 : decode cX2_init 0 = .ok (.aload_n 0, 1) := okD_get dqa_18 0 rfl
theorem dX2_init_1 : decode cX2_init 1 = .ok (.invokespecial 3, 3) := okD_get dqa_18 1 rfl
theorem dX2_init_4 : decode cX2_init 4 = .ok (.aload_n 0, 1) := okD_get dqa_18 2 rfl
theorem dX2_init_5 : decode cX2_init 5 = .ok (.bipush 24, 2) := okD_get dqa_18 3 rfl
theorem dX2_init_7 : decode cX2_init 7 = .ok (.newarray .int, 2) := okD_get dqa_18 4 rfl
theorem dX2_init_9 : decode cX2_init 9 = .ok (.putfield 9, 3) := okD_get dqa_18 5 rfl
theorem dX2_init_12 : decode cX2_init 12 = .ok (.aload_n 0, 1) := okD_get dqa_18 6 rfl
theorem dX2_init_13 : decode cX2_init 13 = .ok (.bipush 24, 2) := okD_get dqa_18 7 rfl
theorem dX2_init_15 : decode cX2_init 15 = .ok (.newarray .int, 2) := okD_get dqa_18 8 rfl
theorem dX2_init_17 : decode cX2_init 17 = .ok (.putfield 15, 3) := okD_get dqa_18 9 rfl
theorem dX2_init_20 : decode cX2_init 20 = .ok (.aload_n 0, 1) := okD_get dqa_18 10 rfl
theorem dX2_init_21 : decode cX2_init 21 = .ok (.bipush 24, 2) := okD_get dqa_18 11 rfl
theorem dX2_init_23 : decode cX2_init 23 = .ok (.newarray .int, 2) := okD_get dqa_18 12 rfl
theorem dX2_init_25 : decode cX2_init 25 = .ok (.putfield 18, 3) := okD_get dqa_18 13 rfl
theorem dX2_init_28 : decode cX2_init 28 = .ok (.aload_n 0, 1) := okD_get dqa_18 14 rfl
theorem dX2_init_29 : decode cX2_init 29 = .ok (.bipush 24, 2) := okD_get dqa_18 15 rfl
theorem dX2_init_31 : decode cX2_init 31 = .ok (.newarray .int, 2) := okD_get dqa_18 16 rfl
theorem dX2_init_33 : decode cX2_init 33 = .ok (.putfield 21, 3) := okD_get dqa_18 17 rfl
theorem dX2_init_36 : decode cX2_init 36 = .ok (.aload_n 0, 1) := okD_get dqa_18 18 rfl
theorem dX2_init_37 : decode cX2_init 37 = .ok (.bipush 25, 2) := okD_get dqa_18 19 rfl
theorem dX2_init_39 : decode cX2_init 39 = .ok (.newarray .boolean, 2) := okD_get dqa_18 20 rfl
theorem dX2_init_41 : decode cX2_init 41 = .ok (.putfield 24, 3) := okD_get dqa_18 21 rfl
theorem dX2_init_44 : decode cX2_init 44 = .ok (.aload_n 0, 1) := okD_get dqa_18 22 rfl
theorem dX2_init_45 : decode cX2_init 45 = .ok (.bipush 24, 2) := okD_get dqa_18 23 rfl
theorem dX2_init_47 : decode cX2_init 47 = .ok (.newarray .int, 2) := okD_get dqa_18 24 rfl
theorem dX2_init_49 : decode cX2_init 49 = .ok (.putfield 28, 3) := okD_get dqa_18 25 rfl
theorem dX2_init_52 : decode cX2_init 52 = .ok (.aload_n 0, 1) := okD_get dqa_18 26 rfl
theorem dX2_init_53 : decode cX2_init 53 = .ok (.iconst 0, 1) := okD_get dqa_18 27 rfl
theorem dX2_init_54 : decode cX2_init 54 = .ok (.putfield 31, 3) := okD_get dqa_18 28 rfl
theorem dX2_init_57 : decode cX2_init 57 = .ok (.return_, 1) := okD_get dqa_18 29 rfl
theorem dqa_19 : okD cX2_addStrip [(0, (.aload_n 0, 1)), (1, (.getfield 9, 3)), (4, (.aload_n 0, 1)), (5, (.getfield 31, 3)), (8, (.iload_n 1, 1)), (9, (.iastore, 1)), (10, (.aload_n 0, 1)), (11, (.getfield 15, 3)), (14, (.aload_n 0, 1)), (15, (.getfield 31, 3)), (18, (.iload_n 1, 1)), (19, (.iastore, 1)), (20, (.aload_n 0, 1)), (21, (.getfield 18, 3)), (24, (.aload_n 0, 1)), (25, (.getfield 31, 3)), (28, (.iload_n 2, 1)), (29, (.iastore, 1)), (30, (.aload_n 0, 1)), (31, (.getfield 21, 3)), (34, (.aload_n 0, 1)), (35, (.getfield 31, 3)), (38, (.iload_n 3, 1)), (39, (.iastore, 1)), (40, (.aload_n 0, 1)), (41, (.dup, 1)), (42, (.getfield 31, 3)), (45, (.iconst 1, 1)), (46, (.iadd, 1)), (47, (.putfield 31, 3)), (50, (.return_, 1))] = true := by decide +kernel
theorem dX2_addStrip_0 : decode cX2_addStrip 0 = .ok (.aload_n 0, 1) := okD_get dqa_19 0 rfl
theorem dX2_addStrip_1 : decode cX2_addStrip 1 = .ok (.getfield 9, 3) := okD_get dqa_19 1 rfl
theorem dX2_addStrip_4 : decode cX2_addStrip 4 = .ok (.aload_n 0, 1) := okD_get dqa_19 2 rfl
theorem dX2_addStrip_5 : decode cX2_addStrip 5 = .ok (.getfield 31, 3) := okD_get dqa_19 3 rfl
theorem dX2_addStrip_8 : decode cX2_addStrip 8 = .ok (.iload_n 1, 1) := okD_get dqa_19 4 rfl
theorem dX2_addStrip_9 : decode cX2_addStrip 9 = .ok (.iastore, 1) := okD_get dqa_19 5 rfl
theorem dX2_addStrip_10 : decode cX2_addStrip 10 = .ok (.aload_n 0, 1) := okD_get dqa_19 6 rfl
theorem dX2_addStrip_11 : decode cX2_addStrip 11 = .ok (.getfield 15, 3) := okD_get dqa_19 7 rfl
theorem dX2_addStrip_14 : decode cX2_addStrip 14 = .ok (.aload_n 0, 1) := okD_get dqa_19 8 rfl
theorem dX2_addStrip_15 : decode cX2_addStrip 15 = .ok (.getfield 31, 3) := okD_get dqa_19 9 rfl
theorem dX2_addStrip_18 : decode cX2_addStrip 18 = .ok (.iload_n 1, 1) := okD_get dqa_19 10 rfl
theorem dX2_addStrip_19 : decode cX2_addStrip 19 = .ok (.iastore, 1) := okD_get dqa_19 11 rfl
theorem dX2_addStrip_20 : decode cX2_addStrip 20 = .ok (.aload_n 0, 1) := okD_get dqa_19 12 rfl
theorem dX2_addStrip_21 : decode cX2_addStrip 21 = .ok (.getfield 18, 3) := okD_get dqa_19 13 rfl
theorem dX2_addStrip_24 : decode cX2_addStrip 24 = .ok (.aload_n 0, 1) := okD_get dqa_19 14 rfl
theorem dX2_addStrip_25 : decode cX2_addStrip 25 = .ok (.getfield 31, 3) := okD_get dqa_19 15 rfl
theorem dX2_addStrip_28 : decode cX2_addStrip 28 = .ok (.iload_n 2, 1) := okD_get dqa_19 16 rfl
theorem dX2_addStrip_29 : decode cX2_addStrip 29 = .ok (.iastore, 1) := okD_get dqa_19 17 rfl
theorem dX2_addStrip_30 : decode cX2_addStrip 30 = .ok (.aload_n 0, 1) := okD_get dqa_19 18 rfl
theorem dX2_addStrip_31 : decode cX2_addStrip 31 = .ok (.getfield 21, 3) := okD_get dqa_19 19 rfl
theorem dX2_addStrip_34 : decode cX2_addStrip 34 = .ok (.aload_n 0, 1) := okD_get dqa_19 20 rfl
theorem dX2_addStrip_35 : decode cX2_addStrip 35 = .ok (.getfield 31, 3) := okD_get dqa_19 21 rfl
theorem dX2_addStrip_38 : decode cX2_addStrip 38 = .ok (.iload_n 3, 1) := okD_get dqa_19 22 rfl
theorem dX2_addStrip_39 : decode cX2_addStrip 39 = .ok (.iastore, 1) := okD_get dqa_19 23 rfl
theorem dX2_addStrip_40 : decode cX2_addStrip 40 = .ok (.aload_n 0, 1) := okD_get dqa_19 24 rfl
theorem dX2_addStrip_41 : decode cX2_addStrip 41 = .ok (.dup, 1) := okD_get dqa_19 25 rfl
theorem dX2_addStrip_42 : decode cX2_addStrip 42 = .ok (.getfield 31, 3) := okD_get dqa_19 26 rfl
theorem dX2_addStrip_45 : decode cX2_addStrip 45 = .ok (.iconst 1, 1) := okD_get dqa_19 27 rfl
theorem dX2_addStrip_46 : decode cX2_addStrip 46 = .ok (.iadd, 1) := okD_get dqa_19 28 rfl
theorem dX2_addStrip_47 : decode cX2_addStrip 47 = .ok (.putfield 31, 3) := okD_get dqa_19 29 rfl
theorem dX2_addStrip_50 : decode cX2_addStrip 50 = .ok (.return_, 1) := okD_get dqa_19 30 rfl
theorem dqa_20 : okD cX2_hasStrip [(0, (.iload_n 1, 1)), (1, (.ifCond .lt 15, 3)), (4, (.iload_n 1, 1)), (5, (.aload_n 0, 1)), (6, (.getfield 31, 3)), (9, (.if_icmp .ge 7, 3)), (12, (.iconst 1, 1)), (13, (.goto 4, 3)), (16, (.iconst 0, 1)), (17, (.ireturn, 1))] = true := by decide +kernel
theorem dX2_hasStrip_0 : decode cX2_hasStrip 0 = .ok (.iload_n 1, 1) := okD_get dqa_20 0 rfl
theorem dX2_hasStrip_1 : decode cX2_hasStrip 1 = .ok (.ifCond .lt 15, 3) := okD_get dqa_20 1 rfl
theorem dX2_hasStrip_4 : decode cX2_hasStrip 4 = .ok (.iload_n 1, 1) := okD_get dqa_20 2 rfl
theorem dX2_hasStrip_5 : decode cX2_hasStrip 5 = .ok (.aload_n 0, 1) := okD_get dqa_20 3 rfl
theorem dX2_hasStrip_6 : decode cX2_hasStrip 6 = .ok (.getfield 31, 3) := okD_get dqa_20 4 rfl
theorem dX2_hasStrip_9 : decode cX2_hasStrip 9 = .ok (.if_icmp .ge 7, 3) := okD_get dqa_20 5 rfl
theorem dX2_hasStrip_12 : decode cX2_hasStrip 12 = .ok (.iconst 1, 1) := okD_get dqa_20 6 rfl
theorem dX2_hasStrip_13 : decode cX2_hasStrip 13 = .ok (.goto 4, 3) := okD_get dqa_20 7 rfl
theorem dX2_hasStrip_16 : decode cX2_hasStrip 16 = .ok (.iconst 0, 1) := okD_get dqa_20 8 rfl
theorem dX2_hasStrip_17 : decode cX2_hasStrip 17 = .ok (.ireturn, 1) := okD_get dqa_20 9 rfl
theorem dqa_21 : okD cX2_hasMark [(0, (.aload_n 0, 1)), (1, (.getfield 31, 3)), (4, (.ifCond .le 19, 3)), (7, (.iload_n 1, 1)), (8, (.ifCond .lt 15, 3)), (11, (.iload_n 1, 1)), (12, (.aload_n 0, 1)), (13, (.getfield 31, 3)), (16, (.if_icmp .gt 7, 3)), (19, (.iconst 1, 1)), (20, (.goto 4, 3)), (23, (.iconst 0, 1)), (24, (.ireturn, 1))] = true := by decide +kernel
theorem dX2_hasMark_0 : decode cX2_hasMark 0 = .ok (.aload_n 0, 1) := okD_get dqa_21 0 rfl
theorem dX2_hasMark_1 : decode cX2_hasMark 1 = .ok (.getfield 31, 3) := okD_get dqa_21 1 rfl
theorem dX2_hasMark_4 : decode cX2_hasMark 4 = .ok (.ifCond .le 19, 3) := okD_get dqa_21 2 rfl
theorem dX2_hasMark_7 : decode cX2_hasMark 7 = .ok (.iload_n 1, 1) := okD_get dqa_21 3 rfl
theorem dX2_hasMark_8 : decode cX2_hasMark 8 = .ok (.ifCond .lt 15, 3) := okD_get dqa_21 4 rfl
theorem dX2_hasMark_11 : decode cX2_hasMark 11 = .ok (.iload_n 1, 1) := okD_get dqa_21 5 rfl
theorem dX2_hasMark_12 : decode cX2_hasMark 12 = .ok (.aload_n 0, 1) := okD_get dqa_21 6 rfl
theorem dX2_hasMark_13 : decode cX2_hasMark 13 = .ok (.getfield 31, 3) := okD_get dqa_21 7 rfl
theorem dX2_hasMark_16 : decode cX2_hasMark 16 = .ok (.if_icmp .gt 7, 3) := okD_get dqa_21 8 rfl
theorem dX2_hasMark_19 : decode cX2_hasMark 19 = .ok (.iconst 1, 1) := okD_get dqa_21 9 rfl
theorem dX2_hasMark_20 : decode cX2_hasMark 20 = .ok (.goto 4, 3) := okD_get dqa_21 10 rfl
theorem dX2_hasMark_23 : decode cX2_hasMark 23 = .ok (.iconst 0, 1) := okD_get dqa_21 11 rfl
theorem dX2_hasMark_24 : decode cX2_hasMark 24 = .ok (.ireturn, 1) := okD_get dqa_21 12 rfl
theorem dqa_22 : okD cX2_isRock [(0, (.iload_n 1, 1)), (1, (.ifCond .eq 11, 3)), (4, (.iload_n 1, 1)), (5, (.aload_n 0, 1)), (6, (.getfield 31, 3)), (9, (.if_icmp .ne 7, 3)), (12, (.iconst 1, 1)), (13, (.goto 4, 3)), (16, (.iconst 0, 1)), (17, (.ireturn, 1))] = true := by decide +kernel
theorem dX2_isRock_0 : decode cX2_isRock 0 = .ok (.iload_n 1, 1) := okD_get dqa_22 0 rfl
theorem dX2_isRock_1 : decode cX2_isRock 1 = .ok (.ifCond .eq 11, 3) := okD_get dqa_22 1 rfl
theorem dX2_isRock_4 : decode cX2_isRock 4 = .ok (.iload_n 1, 1) := okD_get dqa_22 2 rfl
theorem dX2_isRock_5 : decode cX2_isRock 5 = .ok (.aload_n 0, 1) := okD_get dqa_22 3 rfl
theorem dX2_isRock_6 : decode cX2_isRock 6 = .ok (.getfield 31, 3) := okD_get dqa_22 4 rfl
theorem dX2_isRock_9 : decode cX2_isRock 9 = .ok (.if_icmp .ne 7, 3) := okD_get dqa_22 5 rfl
theorem dX2_isRock_12 : decode cX2_isRock 12 = .ok (.iconst 1, 1) := okD_get dqa_22 6 rfl
theorem dX2_isRock_13 : decode cX2_isRock 13 = .ok (.goto 4, 3) := okD_get dqa_22 7 rfl
theorem dX2_isRock_16 : decode cX2_isRock 16 = .ok (.iconst 0, 1) := okD_get dqa_22 8 rfl
theorem dX2_isRock_17 : decode cX2_isRock 17 = .ok (.ireturn, 1) := okD_get dqa_22 9 rfl
theorem dqa_23 : okD cX2_canDraw [(0, (.aload_n 0, 1)), (1, (.getfield 24, 3)), (4, (.iload_n 1, 1)), (5, (.baload, 1)), (6, (.ifCond .ne 12, 3)), (9, (.aload_n 0, 1)), (10, (.getfield 24, 3)), (13, (.iload_n 2, 1)), (14, (.baload, 1)), (15, (.ifCond .eq 5, 3)), (18, (.iconst 0, 1)), (19, (.ireturn, 1)), (20, (.iload_n 1, 1)), (21, (.iconst 1, 1)), (22, (.iadd, 1)), (23, (.istore_n 3, 1)), (24, (.iload_n 3, 1)), (25, (.iload_n 2, 1)), (26, (.if_icmp .ge 20, 3)), (29, (.aload_n 0, 1)), (30, (.getfield 24, 3)), (33, (.iload_n 3, 1)), (34, (.baload, 1)), (35, (.ifCond .ne 5, 3)), (38, (.iconst 0, 1)), (39, (.ireturn, 1)), (40, (.iinc 3 1, 3)), (43, (.goto (-19), 3)), (46, (.iconst 1, 1)), (47, (.ireturn, 1))] = true := by decide +kernel
theorem dX2_canDraw_0 : decode cX2_canDraw 0 = .ok (.aload_n 0, 1) := okD_get dqa_23 0 rfl
theorem dX2_canDraw_1 : decode cX2_canDraw 1 = .ok (.getfield 24, 3) := okD_get dqa_23 1 rfl
theorem dX2_canDraw_4 : decode cX2_canDraw 4 = .ok (.iload_n 1, 1) := okD_get dqa_23 2 rfl
theorem dX2_canDraw_5 : decode cX2_canDraw 5 = .ok (.baload, 1) := okD_get dqa_23 3 rfl
theorem dX2_canDraw_6 : decode cX2_canDraw 6 = .ok (.ifCond .ne 12, 3) := okD_get dqa_23 4 rfl
theorem dX2_canDraw_9 : decode cX2_canDraw 9 = .ok (.aload_n 0, 1) := okD_get dqa_23 5 rfl
theorem dX2_canDraw_10 : decode cX2_canDraw 10 = .ok (.getfield 24, 3) := okD_get dqa_23 6 rfl
theorem dX2_canDraw_13 : decode cX2_canDraw 13 = .ok (.iload_n 2, 1) := okD_get dqa_23 7 rfl
theorem dX2_canDraw_14 : decode cX2_canDraw 14 = .ok (.baload, 1) := okD_get dqa_23 8 rfl
theorem dX2_canDraw_15 : decode cX2_canDraw 15 = .ok (.ifCond .eq 5, 3) := okD_get dqa_23 9 rfl
theorem dX2_canDraw_18 : decode cX2_canDraw 18 = .ok (.iconst 0, 1) := okD_get dqa_23 10 rfl
theorem dX2_canDraw_19 : decode cX2_canDraw 19 = .ok (.ireturn, 1) := okD_get dqa_23 11 rfl
theorem dX2_canDraw_20 : decode cX2_canDraw 20 = .ok (.iload_n 1, 1) := okD_get dqa_23 12 rfl
theorem dX2_canDraw_21 : decode cX2_canDraw 21 = .ok (.iconst 1, 1) := okD_get dqa_23 13 rfl
theorem dX2_canDraw_22 : decode cX2_canDraw 22 = .ok (.iadd, 1) := okD_get dqa_23 14 rfl
theorem dX2_canDraw_23 : decode cX2_canDraw 23 = .ok (.istore_n 3, 1) := okD_get dqa_23 15 rfl
theorem dX2_canDraw_24 : decode cX2_canDraw 24 = .ok (.iload_n 3, 1) := okD_get dqa_23 16 rfl
theorem dX2_canDraw_25 : decode cX2_canDraw 25 = .ok (.iload_n 2, 1) := okD_get dqa_23 17 rfl
theorem dX2_canDraw_26 : decode cX2_canDraw 26 = .ok (.if_icmp .ge 20, 3) := okD_get dqa_23 18 rfl
theorem dX2_canDraw_29 : decode cX2_canDraw 29 = .ok (.aload_n 0, 1) := okD_get dqa_23 19 rfl
theorem dX2_canDraw_30 : decode cX2_canDraw 30 = .ok (.getfield 24, 3) := okD_get dqa_23 20 rfl
theorem dX2_canDraw_33 : decode cX2_canDraw 33 = .ok (.iload_n 3, 1) := okD_get dqa_23 21 rfl
theorem dX2_canDraw_34 : decode cX2_canDraw 34 = .ok (.baload, 1) := okD_get dqa_23 22 rfl
theorem dX2_canDraw_35 : decode cX2_canDraw 35 = .ok (.ifCond .ne 5, 3) := okD_get dqa_23 23 rfl
theorem dX2_canDraw_38 : decode cX2_canDraw 38 = .ok (.iconst 0, 1) := okD_get dqa_23 24 rfl
theorem dX2_canDraw_39 : decode cX2_canDraw 39 = .ok (.ireturn, 1) := okD_get dqa_23 25 rfl
theorem dX2_canDraw_40 : decode cX2_canDraw 40 = .ok (.iinc 3 1, 3) := okD_get dqa_23 26 rfl
theorem dX2_canDraw_43 : decode cX2_canDraw 43 = .ok (.goto (-19), 3) := okD_get dqa_23 27 rfl
theorem dX2_canDraw_46 : decode cX2_canDraw 46 = .ok (.iconst 1, 1) := okD_get dqa_23 28 rfl
theorem dX2_canDraw_47 : decode cX2_canDraw 47 = .ok (.ireturn, 1) := okD_get dqa_23 29 rfl
theorem dqa_24 : okD cX2_partRopes [(0, (.iconst 0, 1)), (1, (.istore 4, 2)), (3, (.iload_n 1, 1)), (4, (.istore 5, 2)), (6, (.iload 5, 2)), (8, (.iload_n 2, 1)), (9, (.if_icmp .ge 21, 3)), (12, (.iload 4, 2)), (14, (.aload_n 0, 1)), (15, (.getfield 15, 3)), (18, (.iload 5, 2)), (20, (.iaload, 1)), (21, (.iadd, 1)), (22, (.istore 4, 2)), (24, (.iinc 5 1, 3)), (27, (.goto (-21), 3)), (30, (.iload 4, 2)), (32, (.ifCond .gt 4, 3)), (35, (.return_, 1)), (36, (.iload_n 3, 1)), (37, (.istore 5, 2)), (39, (.iload_n 1, 1)), (40, (.istore 6, 2)), (42, (.iload 6, 2)), (44, (.iload_n 2, 1)), (45, (.if_icmp .ge 56, 3)), (48, (.iload_n 3, 1)), (49, (.aload_n 0, 1)), (50, (.getfield 15, 3)), (53, (.iload 6, 2)), (55, (.iaload, 1)), (56, (.imul, 1)), (57, (.istore 7, 2)), (59, (.aload_n 0, 1)), (60, (.getfield 9, 3)), (63, (.iload 6, 2)), (65, (.iload 7, 2)), (67, (.iload 4, 2)), (69, (.idiv, 1)), (70, (.iastore, 1))] = true := by decide +kernel
theorem dX2_partRopes_0 : decode cX2_partRopes 0 = .ok (.iconst 0, 1) := okD_get dqa_24 0 rfl
theorem dX2_partRopes_1 : decode cX2_partRopes 1 = .ok (.istore 4, 2) := okD_get dqa_24 1 rfl
theorem dX2_partRopes_3 : decode cX2_partRopes 3 = .ok (.iload_n 1, 1) := okD_get dqa_24 2 rfl
theorem dX2_partRopes_4 : decode cX2_partRopes 4 = .ok (.istore 5, 2) := okD_get dqa_24 3 rfl
theorem dX2_partRopes_6 : decode cX2_partRopes 6 = .ok (.iload 5, 2) := okD_get dqa_24 4 rfl
theorem dX2_partRopes_8 : decode cX2_partRopes 8 = .ok (.iload_n 2, 1) := okD_get dqa_24 5 rfl
theorem dX2_partRopes_9 : decode cX2_partRopes 9 = .ok (.if_icmp .ge 21, 3) := okD_get dqa_24 6 rfl
theorem dX2_partRopes_12 : decode cX2_partRopes 12 = .ok (.iload 4, 2) := okD_get dqa_24 7 rfl
theorem dX2_partRopes_14 : decode cX2_partRopes 14 = .ok (.aload_n 0, 1) := okD_get dqa_24 8 rfl
theorem dX2_partRopes_15 : decode cX2_partRopes 15 = .ok (.getfield 15, 3) := okD_get dqa_24 9 rfl
theorem dX2_partRopes_18 : decode cX2_partRopes 18 = .ok (.iload 5, 2) := okD_get dqa_24 10 rfl
theorem dX2_partRopes_20 : decode cX2_partRopes 20 = .ok (.iaload, 1) := okD_get dqa_24 11 rfl
theorem dX2_partRopes_21 : decode cX2_partRopes 21 = .ok (.iadd, 1) := okD_get dqa_24 12 rfl
theorem dX2_partRopes_22 : decode cX2_partRopes 22 = .ok (.istore 4, 2) := okD_get dqa_24 13 rfl
theorem dX2_partRopes_24 : decode cX2_partRopes 24 = .ok (.iinc 5 1, 3) := okD_get dqa_24 14 rfl
theorem dX2_partRopes_27 : decode cX2_partRopes 27 = .ok (.goto (-21), 3) := okD_get dqa_24 15 rfl
theorem dX2_partRopes_30 : decode cX2_partRopes 30 = .ok (.iload 4, 2) := okD_get dqa_24 16 rfl
theorem dX2_partRopes_32 : decode cX2_partRopes 32 = .ok (.ifCond .gt 4, 3) := okD_get dqa_24 17 rfl
theorem dX2_partRopes_35 : decode cX2_partRopes 35 = .ok (.return_, 1) := okD_get dqa_24 18 rfl
theorem dX2_partRopes_36 : decode cX2_partRopes 36 = .ok (.iload_n 3, 1) := okD_get dqa_24 19 rfl
theorem dX2_partRopes_37 : decode cX2_partRopes 37 = .ok (.istore 5, 2) := okD_get dqa_24 20 rfl
theorem dX2_partRopes_39 : decode cX2_partRopes 39 = .ok (.iload_n 1, 1) := okD_get dqa_24 21 rfl
theorem dX2_partRopes_40 : decode cX2_partRopes 40 = .ok (.istore 6, 2) := okD_get dqa_24 22 rfl
theorem dX2_partRopes_42 : decode cX2_partRopes 42 = .ok (.iload 6, 2) := okD_get dqa_24 23 rfl
theorem dX2_partRopes_44 : decode cX2_partRopes 44 = .ok (.iload_n 2, 1) := okD_get dqa_24 24 rfl
theorem dX2_partRopes_45 : decode cX2_partRopes 45 = .ok (.if_icmp .ge 56, 3) := okD_get dqa_24 25 rfl
theorem dX2_partRopes_48 : decode cX2_partRopes 48 = .ok (.iload_n 3, 1) := okD_get dqa_24 26 rfl
theorem dX2_partRopes_49 : decode cX2_partRopes 49 = .ok (.aload_n 0, 1) := okD_get dqa_24 27 rfl
theorem dX2_partRopes_50 : decode cX2_partRopes 50 = .ok (.getfield 15, 3) := okD_get dqa_24 28 rfl
theorem dX2_partRopes_53 : decode cX2_partRopes 53 = .ok (.iload 6, 2) := okD_get dqa_24 29 rfl
theorem dX2_partRopes_55 : decode cX2_partRopes 55 = .ok (.iaload, 1) := okD_get dqa_24 30 rfl
theorem dX2_partRopes_56 : decode cX2_partRopes 56 = .ok (.imul, 1) := okD_get dqa_24 31 rfl
theorem dX2_partRopes_57 : decode cX2_partRopes 57 = .ok (.istore 7, 2) := okD_get dqa_24 32 rfl
theorem dX2_partRopes_59 : decode cX2_partRopes 59 = .ok (.aload_n 0, 1) := okD_get dqa_24 33 rfl
theorem dX2_partRopes_60 : decode cX2_partRopes 60 = .ok (.getfield 9, 3) := okD_get dqa_24 34 rfl
theorem dX2_partRopes_63 : decode cX2_partRopes 63 = .ok (.iload 6, 2) := okD_get dqa_24 35 rfl
theorem dX2_partRopes_65 : decode cX2_partRopes 65 = .ok (.iload 7, 2) := okD_get dqa_24 36 rfl
theorem dX2_partRopes_67 : decode cX2_partRopes 67 = .ok (.iload 4, 2) := okD_get dqa_24 37 rfl
theorem dX2_partRopes_69 : decode cX2_partRopes 69 = .ok (.idiv, 1) := okD_get dqa_24 38 rfl
theorem dX2_partRopes_70 : decode cX2_partRopes 70 = .ok (.iastore, 1) := okD_get dqa_24 39 rfl
theorem dqa_25 : okD cX2_partRopes [(71, (.aload_n 0, 1)), (72, (.getfield 28, 3)), (75, (.iload 6, 2)), (77, (.iload 7, 2)), (79, (.iload 4, 2)), (81, (.irem, 1)), (82, (.iastore, 1)), (83, (.iload 5, 2)), (85, (.aload_n 0, 1)), (86, (.getfield 9, 3)), (89, (.iload 6, 2)), (91, (.iaload, 1)), (92, (.isub, 1)), (93, (.istore 5, 2)), (95, (.iinc 6 1, 3)), (98, (.goto (-56), 3)), (101, (.iconst 0, 1)), (102, (.istore 6, 2)), (104, (.iload 6, 2)), (106, (.iload 5, 2)), (108, (.if_icmp .ge 15, 3)), (111, (.aload_n 0, 1)), (112, (.iload_n 1, 1)), (113, (.iload_n 2, 1)), (114, (.invokevirtual 35, 3)), (117, (.iinc 6 1, 3)), (120, (.goto (-16), 3)), (123, (.return_, 1))] = true := by decide +kernel
theorem dX2_partRopes_71 : decode cX2_partRopes 71 = .ok (.aload_n 0, 1) := okD_get dqa_25 0 rfl
theorem dX2_partRopes_72 : decode cX2_partRopes 72 = .ok (.getfield 28, 3) := okD_get dqa_25 1 rfl
theorem dX2_partRopes_75 : decode cX2_partRopes 75 = .ok (.iload 6, 2) := okD_get dqa_25 2 rfl
theorem dX2_partRopes_77 : decode cX2_partRopes 77 = .ok (.iload 7, 2) := okD_get dqa_25 3 rfl
theorem dX2_partRopes_79 : decode cX2_partRopes 79 = .ok (.iload 4, 2) := okD_get dqa_25 4 rfl
theorem dX2_partRopes_81 : decode cX2_partRopes 81 = .ok (.irem, 1) := okD_get dqa_25 5 rfl
theorem dX2_partRopes_82 : decode cX2_partRopes 82 = .ok (.iastore, 1) := okD_get dqa_25 6 rfl
theorem dX2_partRopes_83 : decode cX2_partRopes 83 = .ok (.iload 5, 2) := okD_get dqa_25 7 rfl
theorem dX2_partRopes_85 : decode cX2_partRopes 85 = .ok (.aload_n 0, 1) := okD_get dqa_25 8 rfl
theorem dX2_partRopes_86 : decode cX2_partRopes 86 = .ok (.getfield 9, 3) := okD_get dqa_25 9 rfl
theorem dX2_partRopes_89 : decode cX2_partRopes 89 = .ok (.iload 6, 2) := okD_get dqa_25 10 rfl
theorem dX2_partRopes_91 : decode cX2_partRopes 91 = .ok (.iaload, 1) := okD_get dqa_25 11 rfl
theorem dX2_partRopes_92 : decode cX2_partRopes 92 = .ok (.isub, 1) := okD_get dqa_25 12 rfl
theorem dX2_partRopes_93 : decode cX2_partRopes 93 = .ok (.istore 5, 2) := okD_get dqa_25 13 rfl
theorem dX2_partRopes_95 : decode cX2_partRopes 95 = .ok (.iinc 6 1, 3) := okD_get dqa_25 14 rfl
theorem dX2_partRopes_98 : decode cX2_partRopes 98 = .ok (.goto (-56), 3) := okD_get dqa_25 15 rfl
theorem dX2_partRopes_101 : decode cX2_partRopes 101 = .ok (.iconst 0, 1) := okD_get dqa_25 16 rfl
theorem dX2_partRopes_102 : decode cX2_partRopes 102 = .ok (.istore 6, 2) := okD_get dqa_25 17 rfl
theorem dX2_partRopes_104 : decode cX2_partRopes 104 = .ok (.iload 6, 2) := okD_get dqa_25 18 rfl
theorem dX2_partRopes_106 : decode cX2_partRopes 106 = .ok (.iload 5, 2) := okD_get dqa_25 19 rfl
theorem dX2_partRopes_108 : decode cX2_partRopes 108 = .ok (.if_icmp .ge 15, 3) := okD_get dqa_25 20 rfl
theorem dX2_partRopes_111 : decode cX2_partRopes 111 = .ok (.aload_n 0, 1) := okD_get dqa_25 21 rfl
theorem dX2_partRopes_112 : decode cX2_partRopes 112 = .ok (.iload_n 1, 1) := okD_get dqa_25 22 rfl
theorem dX2_partRopes_113 : decode cX2_partRopes 113 = .ok (.iload_n 2, 1) := okD_get dqa_25 23 rfl
theorem dX2_partRopes_114 : decode cX2_partRopes 114 = .ok (.invokevirtual 35, 3) := okD_get dqa_25 24 rfl
theorem dX2_partRopes_117 : decode cX2_partRopes 117 = .ok (.iinc 6 1, 3) := okD_get dqa_25 25 rfl
theorem dX2_partRopes_120 : decode cX2_partRopes 120 = .ok (.goto (-16), 3) := okD_get dqa_25 26 rfl
theorem dX2_partRopes_123 : decode cX2_partRopes 123 = .ok (.return_, 1) := okD_get dqa_25 27 rfl
theorem dqa_26 : okD cX2_giveOneMore [(0, (.iload_n 1, 1)), (1, (.istore_n 3, 1)), (2, (.iload_n 1, 1)), (3, (.iconst 1, 1)), (4, (.iadd, 1)), (5, (.istore 4, 2)), (7, (.iload 4, 2)), (9, (.iload_n 2, 1)), (10, (.if_icmp .ge 28, 3)), (13, (.aload_n 0, 1)), (14, (.getfield 28, 3)), (17, (.iload 4, 2)), (19, (.iaload, 1)), (20, (.aload_n 0, 1)), (21, (.getfield 28, 3)), (24, (.iload_n 3, 1)), (25, (.iaload, 1)), (26, (.if_icmp .le 6, 3)), (29, (.iload 4, 2)), (31, (.istore_n 3, 1)), (32, (.iinc 4 1, 3)), (35, (.goto (-28), 3)), (38, (.aload_n 0, 1)), (39, (.getfield 9, 3)), (42, (.iload_n 3, 1)), (43, (.dup2, 1)), (44, (.iaload, 1)), (45, (.iconst 1, 1)), (46, (.iadd, 1)), (47, (.iastore, 1)), (48, (.aload_n 0, 1)), (49, (.getfield 28, 3)), (52, (.iload_n 3, 1)), (53, (.iconst (-1), 1)), (54, (.iastore, 1)), (55, (.return_, 1))] = true := by decide +kernel
theorem dX2_giveOneMore_0 : decode cX2_giveOneMore 0 = .ok (.iload_n 1, 1) := okD_get dqa_26 0 rfl
theorem dX2_giveOneMore_1 : decode cX2_giveOneMore 1 = .ok (.istore_n 3, 1) := okD_get dqa_26 1 rfl
theorem dX2_giveOneMore_2 : decode cX2_giveOneMore 2 = .ok (.iload_n 1, 1) := okD_get dqa_26 2 rfl
theorem dX2_giveOneMore_3 : decode cX2_giveOneMore 3 = .ok (.iconst 1, 1) := okD_get dqa_26 3 rfl
theorem dX2_giveOneMore_4 : decode cX2_giveOneMore 4 = .ok (.iadd, 1) := okD_get dqa_26 4 rfl
theorem dX2_giveOneMore_5 : decode cX2_giveOneMore 5 = .ok (.istore 4, 2) := okD_get dqa_26 5 rfl
theorem dX2_giveOneMore_7 : decode cX2_giveOneMore 7 = .ok (.iload 4, 2) := okD_get dqa_26 6 rfl
theorem dX2_giveOneMore_9 : decode cX2_giveOneMore 9 = .ok (.iload_n 2, 1) := okD_get dqa_26 7 rfl
theorem dX2_giveOneMore_10 : decode cX2_giveOneMore 10 = .ok (.if_icmp .ge 28, 3) := okD_get dqa_26 8 rfl
theorem dX2_giveOneMore_13 : decode cX2_giveOneMore 13 = .ok (.aload_n 0, 1) := okD_get dqa_26 9 rfl
theorem dX2_giveOneMore_14 : decode cX2_giveOneMore 14 = .ok (.getfield 28, 3) := okD_get dqa_26 10 rfl
theorem dX2_giveOneMore_17 : decode cX2_giveOneMore 17 = .ok (.iload 4, 2) := okD_get dqa_26 11 rfl
theorem dX2_giveOneMore_19 : decode cX2_giveOneMore 19 = .ok (.iaload, 1) := okD_get dqa_26 12 rfl
theorem dX2_giveOneMore_20 : decode cX2_giveOneMore 20 = .ok (.aload_n 0, 1) := okD_get dqa_26 13 rfl
theorem dX2_giveOneMore_21 : decode cX2_giveOneMore 21 = .ok (.getfield 28, 3) := okD_get dqa_26 14 rfl
theorem dX2_giveOneMore_24 : decode cX2_giveOneMore 24 = .ok (.iload_n 3, 1) := okD_get dqa_26 15 rfl
theorem dX2_giveOneMore_25 : decode cX2_giveOneMore 25 = .ok (.iaload, 1) := okD_get dqa_26 16 rfl
theorem dX2_giveOneMore_26 : decode cX2_giveOneMore 26 = .ok (.if_icmp .le 6, 3) := okD_get dqa_26 17 rfl
theorem dX2_giveOneMore_29 : decode cX2_giveOneMore 29 = .ok (.iload 4, 2) := okD_get dqa_26 18 rfl
theorem dX2_giveOneMore_31 : decode cX2_giveOneMore 31 = .ok (.istore_n 3, 1) := okD_get dqa_26 19 rfl
theorem dX2_giveOneMore_32 : decode cX2_giveOneMore 32 = .ok (.iinc 4 1, 3) := okD_get dqa_26 20 rfl
theorem dX2_giveOneMore_35 : decode cX2_giveOneMore 35 = .ok (.goto (-28), 3) := okD_get dqa_26 21 rfl
theorem dX2_giveOneMore_38 : decode cX2_giveOneMore 38 = .ok (.aload_n 0, 1) := okD_get dqa_26 22 rfl
theorem dX2_giveOneMore_39 : decode cX2_giveOneMore 39 = .ok (.getfield 9, 3) := okD_get dqa_26 23 rfl
theorem dX2_giveOneMore_42 : decode cX2_giveOneMore 42 = .ok (.iload_n 3, 1) := okD_get dqa_26 24 rfl
theorem dX2_giveOneMore_43 : decode cX2_giveOneMore 43 = .ok (.dup2, 1) := okD_get dqa_26 25 rfl
theorem dX2_giveOneMore_44 : decode cX2_giveOneMore 44 = .ok (.iaload, 1) := okD_get dqa_26 26 rfl
theorem dX2_giveOneMore_45 : decode cX2_giveOneMore 45 = .ok (.iconst 1, 1) := okD_get dqa_26 27 rfl
theorem dX2_giveOneMore_46 : decode cX2_giveOneMore 46 = .ok (.iadd, 1) := okD_get dqa_26 28 rfl
theorem dX2_giveOneMore_47 : decode cX2_giveOneMore 47 = .ok (.iastore, 1) := okD_get dqa_26 29 rfl
theorem dX2_giveOneMore_48 : decode cX2_giveOneMore 48 = .ok (.aload_n 0, 1) := okD_get dqa_26 30 rfl
theorem dX2_giveOneMore_49 : decode cX2_giveOneMore 49 = .ok (.getfield 28, 3) := okD_get dqa_26 31 rfl
theorem dX2_giveOneMore_52 : decode cX2_giveOneMore 52 = .ok (.iload_n 3, 1) := okD_get dqa_26 32 rfl
theorem dX2_giveOneMore_53 : decode cX2_giveOneMore 53 = .ok (.iconst (-1), 1) := okD_get dqa_26 33 rfl
theorem dX2_giveOneMore_54 : decode cX2_giveOneMore 54 = .ok (.iastore, 1) := okD_get dqa_26 34 rfl
theorem dX2_giveOneMore_55 : decode cX2_giveOneMore 55 = .ok (.return_, 1) := okD_get dqa_26 35 rfl
theorem dqa_27 : okD cX2_setMarksBetween [(0, (.iload_n 1, 1)), (1, (.iconst 1, 1)), (2, (.iadd, 1)), (3, (.istore_n 3, 1)), (4, (.iload_n 3, 1)), (5, (.iload_n 2, 1)), (6, (.if_icmp .ge 16, 3)), (9, (.aload_n 0, 1)), (10, (.getfield 24, 3)), (13, (.iload_n 3, 1)), (14, (.iconst 0, 1)), (15, (.bastore, 1)), (16, (.iinc 3 1, 3)), (19, (.goto (-15), 3)), (22, (.iload_n 2, 1)), (23, (.iload_n 1, 1)), (24, (.isub, 1)), (25, (.iconst 1, 1)), (26, (.isub, 1)), (27, (.ireturn, 1))] = true := by decide +kernel
theorem dX2_setMarksBetween_0 : decode cX2_setMarksBetween 0 = .ok (.iload_n 1, 1) := okD_get dqa_27 0 rfl
theorem dX2_setMarksBetween_1 : decode cX2_setMarksBetween 1 = .ok (.iconst 1, 1) := okD_get dqa_27 1 rfl
theorem dX2_setMarksBetween_2 : decode cX2_setMarksBetween 2 = .ok (.iadd, 1) := okD_get dqa_27 2 rfl
theorem dX2_setMarksBetween_3 : decode cX2_setMarksBetween 3 = .ok (.istore_n 3, 1) := okD_get dqa_27 3 rfl
theorem dX2_setMarksBetween_4 : decode cX2_setMarksBetween 4 = .ok (.iload_n 3, 1) := okD_get dqa_27 4 rfl
theorem dX2_setMarksBetween_5 : decode cX2_setMarksBetween 5 = .ok (.iload_n 2, 1) := okD_get dqa_27 5 rfl
theorem dX2_setMarksBetween_6 : decode cX2_setMarksBetween 6 = .ok (.if_icmp .ge 16, 3) := okD_get dqa_27 6 rfl
theorem dX2_setMarksBetween_9 : decode cX2_setMarksBetween 9 = .ok (.aload_n 0, 1) := okD_get dqa_27 7 rfl
theorem dX2_setMarksBetween_10 : decode cX2_setMarksBetween 10 = .ok (.getfield 24, 3) := okD_get dqa_27 8 rfl
theorem dX2_setMarksBetween_13 : decode cX2_setMarksBetween 13 = .ok (.iload_n 3, 1) := okD_get dqa_27 9 rfl
theorem dX2_setMarksBetween_14 : decode cX2_setMarksBetween 14 = .ok (.iconst 0, 1) := okD_get dqa_27 10 rfl
theorem dX2_setMarksBetween_15 : decode cX2_setMarksBetween 15 = .ok (.bastore, 1) := okD_get dqa_27 11 rfl
theorem dX2_setMarksBetween_16 : decode cX2_setMarksBetween 16 = .ok (.iinc 3 1, 3) := okD_get dqa_27 12 rfl
theorem dX2_setMarksBetween_19 : decode cX2_setMarksBetween 19 = .ok (.goto (-15), 3) := okD_get dqa_27 13 rfl
theorem dX2_setMarksBetween_22 : decode cX2_setMarksBetween 22 = .ok (.iload_n 2, 1) := okD_get dqa_27 14 rfl
theorem dX2_setMarksBetween_23 : decode cX2_setMarksBetween 23 = .ok (.iload_n 1, 1) := okD_get dqa_27 15 rfl
theorem dX2_setMarksBetween_24 : decode cX2_setMarksBetween 24 = .ok (.isub, 1) := okD_get dqa_27 16 rfl
theorem dX2_setMarksBetween_25 : decode cX2_setMarksBetween 25 = .ok (.iconst 1, 1) := okD_get dqa_27 17 rfl
theorem dX2_setMarksBetween_26 : decode cX2_setMarksBetween 26 = .ok (.isub, 1) := okD_get dqa_27 18 rfl
theorem dX2_setMarksBetween_27 : decode cX2_setMarksBetween 27 = .ok (.ireturn, 1) := okD_get dqa_27 19 rfl
theorem dqa_28 : okD cX2_lostMarks [(0, (.iconst 0, 1)), (1, (.istore_n 1, 1)), (2, (.iconst 0, 1)), (3, (.istore_n 2, 1)), (4, (.iload_n 2, 1)), (5, (.aload_n 0, 1)), (6, (.getfield 31, 3)), (9, (.if_icmp .gt 21, 3)), (12, (.aload_n 0, 1)), (13, (.getfield 24, 3)), (16, (.iload_n 2, 1)), (17, (.baload, 1)), (18, (.ifCond .eq 6, 3)), (21, (.iinc 1 1, 3)), (24, (.iinc 2 1, 3)), (27, (.goto (-23), 3)), (30, (.iload_n 1, 1)), (31, (.ireturn, 1))] = true := by decide +kernel
theorem dX2_lostMarks_0 : decode cX2_lostMarks 0 = .ok (.iconst 0, 1) := okD_get dqa_28 0 rfl
theorem dX2_lostMarks_1 : decode cX2_lostMarks 1 = .ok (.istore_n 1, 1) := okD_get dqa_28 1 rfl
theorem dX2_lostMarks_2 : decode cX2_lostMarks 2 = .ok (.iconst 0, 1) := okD_get dqa_28 2 rfl
theorem dX2_lostMarks_3 : decode cX2_lostMarks 3 = .ok (.istore_n 2, 1) := okD_get dqa_28 3 rfl
theorem dX2_lostMarks_4 : decode cX2_lostMarks 4 = .ok (.iload_n 2, 1) := okD_get dqa_28 4 rfl
theorem dX2_lostMarks_5 : decode cX2_lostMarks 5 = .ok (.aload_n 0, 1) := okD_get dqa_28 5 rfl
theorem dX2_lostMarks_6 : decode cX2_lostMarks 6 = .ok (.getfield 31, 3) := okD_get dqa_28 6 rfl
theorem dX2_lostMarks_9 : decode cX2_lostMarks 9 = .ok (.if_icmp .gt 21, 3) := okD_get dqa_28 7 rfl
theorem dX2_lostMarks_12 : decode cX2_lostMarks 12 = .ok (.aload_n 0, 1) := okD_get dqa_28 8 rfl
theorem dX2_lostMarks_13 : decode cX2_lostMarks 13 = .ok (.getfield 24, 3) := okD_get dqa_28 9 rfl
theorem dX2_lostMarks_16 : decode cX2_lostMarks 16 = .ok (.iload_n 2, 1) := okD_get dqa_28 10 rfl
theorem dX2_lostMarks_17 : decode cX2_lostMarks 17 = .ok (.baload, 1) := okD_get dqa_28 11 rfl
theorem dX2_lostMarks_18 : decode cX2_lostMarks 18 = .ok (.ifCond .eq 6, 3) := okD_get dqa_28 12 rfl
theorem dX2_lostMarks_21 : decode cX2_lostMarks 21 = .ok (.iinc 1 1, 3) := okD_get dqa_28 13 rfl
theorem dX2_lostMarks_24 : decode cX2_lostMarks 24 = .ok (.iinc 2 1, 3) := okD_get dqa_28 14 rfl
theorem dX2_lostMarks_27 : decode cX2_lostMarks 27 = .ok (.goto (-23), 3) := okD_get dqa_28 15 rfl
theorem dX2_lostMarks_30 : decode cX2_lostMarks 30 = .ok (.iload_n 1, 1) := okD_get dqa_28 16 rfl
theorem dX2_lostMarks_31 : decode cX2_lostMarks 31 = .ok (.ireturn, 1) := okD_get dqa_28 17 rfl
theorem dqa_29 : okD cX2_allWidths [(0, (.iconst 0, 1)), (1, (.istore_n 1, 1)), (2, (.iconst 0, 1)), (3, (.istore_n 2, 1)), (4, (.iload_n 2, 1)), (5, (.aload_n 0, 1)), (6, (.getfield 31, 3)), (9, (.if_icmp .ge 18, 3)), (12, (.iload_n 1, 1)), (13, (.aload_n 0, 1)), (14, (.getfield 9, 3)), (17, (.iload_n 2, 1)), (18, (.iaload, 1)), (19, (.iadd, 1)), (20, (.istore_n 1, 1)), (21, (.iinc 2 1, 3)), (24, (.goto (-20), 3)), (27, (.iload_n 1, 1)), (28, (.ireturn, 1))] = true := by decide +kernel
theorem dX2_allWidths_0 : decode cX2_allWidths 0 = .ok (.iconst 0, 1) := okD_get dqa_29 0 rfl
theorem dX2_allWidths_1 : decode cX2_allWidths 1 = .ok (.istore_n 1, 1) := okD_get dqa_29 1 rfl
theorem dX2_allWidths_2 : decode cX2_allWidths 2 = .ok (.iconst 0, 1) := okD_get dqa_29 2 rfl
theorem dX2_allWidths_3 : decode cX2_allWidths 3 = .ok (.istore_n 2, 1) := okD_get dqa_29 3 rfl
theorem dX2_allWidths_4 : decode cX2_allWidths 4 = .ok (.iload_n 2, 1) := okD_get dqa_29 4 rfl
theorem dX2_allWidths_5 : decode cX2_allWidths 5 = .ok (.aload_n 0, 1) := okD_get dqa_29 5 rfl
theorem dX2_allWidths_6 : decode cX2_allWidths 6 = .ok (.getfield 31, 3) := okD_get dqa_29 6 rfl
theorem dX2_allWidths_9 : decode cX2_allWidths 9 = .ok (.if_icmp .ge 18, 3) := okD_get dqa_29 7 rfl
theorem dX2_allWidths_12 : decode cX2_allWidths 12 = .ok (.iload_n 1, 1) := okD_get dqa_29 8 rfl
theorem dX2_allWidths_13 : decode cX2_allWidths 13 = .ok (.aload_n 0, 1) := okD_get dqa_29 9 rfl
theorem dX2_allWidths_14 : decode cX2_allWidths 14 = .ok (.getfield 9, 3) := okD_get dqa_29 10 rfl
theorem dX2_allWidths_17 : decode cX2_allWidths 17 = .ok (.iload_n 2, 1) := okD_get dqa_29 11 rfl
theorem dX2_allWidths_18 : decode cX2_allWidths 18 = .ok (.iaload, 1) := okD_get dqa_29 12 rfl
theorem dX2_allWidths_19 : decode cX2_allWidths 19 = .ok (.iadd, 1) := okD_get dqa_29 13 rfl
theorem dX2_allWidths_20 : decode cX2_allWidths 20 = .ok (.istore_n 1, 1) := okD_get dqa_29 14 rfl
theorem dX2_allWidths_21 : decode cX2_allWidths 21 = .ok (.iinc 2 1, 3) := okD_get dqa_29 15 rfl
theorem dX2_allWidths_24 : decode cX2_allWidths 24 = .ok (.goto (-20), 3) := okD_get dqa_29 16 rfl
theorem dX2_allWidths_27 : decode cX2_allWidths 27 = .ok (.iload_n 1, 1) := okD_get dqa_29 17 rfl
theorem dX2_allWidths_28 : decode cX2_allWidths 28 = .ok (.ireturn, 1) := okD_get dqa_29 18 rfl
theorem dqa_30 : okD cX3_init [(0, (.aload_n 0, 1)), (1, (.invokespecial 1, 3)), (4, (.aload_n 0, 1)), (5, (.iconst 0, 1)), (6, (.putfield 7, 3)), (9, (.aload_n 0, 1)), (10, (.iconst 0, 1)), (11, (.putfield 13, 3)), (14, (.aload_n 0, 1)), (15, (.iconst 0, 1)), (16, (.putfield 16, 3)), (19, (.aload_n 0, 1)), (20, (.iconst 0, 1)), (21, (.putfield 19, 3)), (24, (.aload_n 0, 1)), (25, (.iconst 0, 1)), (26, (.putfield 22, 3)), (29, (.return_, 1))] = true := by decide +kernel
theorem dX3_init_0 : decode cX3_init 0 = .ok (.aload_n 0, 1) := okD_get dqa_30 0 rfl
theorem dX3_init_1 : decode cX3_init 1 = .ok (.invokespecial 1, 3) := okD_get dqa_30 1 rfl
theorem dX3_init_4 : decode cX3_init 4 = .ok (.aload_n 0, 1) := okD_get dqa_30 2 rfl
theorem dX3_init_5 : decode cX3_init 5 = .ok (.iconst 0, 1) := okD_get dqa_30 3 rfl
theorem dX3_init_6 : decode cX3_init 6 = .ok (.putfield 7, 3) := okD_get dqa_30 4 rfl
theorem dX3_init_9 : decode cX3_init 9 = .ok (.aload_n 0, 1) := okD_get dqa_30 5 rfl
theorem dX3_init_10 : decode cX3_init 10 = .ok (.iconst 0, 1) := okD_get dqa_30 6 rfl
theorem dX3_init_11 : decode cX3_init 11 = .ok (.putfield 13, 3) := okD_get dqa_30 7 rfl
theorem dX3_init_14 : decode cX3_init 14 = .ok (.aload_n 0, 1) := okD_get dqa_30 8 rfl
theorem dX3_init_15 : decode cX3_init 15 = .ok (.iconst 0, 1) := okD_get dqa_30 9 rfl
theorem dX3_init_16 : decode cX3_init 16 = .ok (.putfield 16, 3) := okD_get dqa_30 10 rfl
theorem dX3_init_19 : decode cX3_init 19 = .ok (.aload_n 0, 1) := okD_get dqa_30 11 rfl
theorem dX3_init_20 : decode cX3_init 20 = .ok (.iconst 0, 1) := okD_get dqa_30 12 rfl
theorem dX3_init_21 : decode cX3_init 21 = .ok (.putfield 19, 3) := okD_get dqa_30 13 rfl
theorem dX3_init_24 : decode cX3_init 24 = .ok (.aload_n 0, 1) := okD_get dqa_30 14 rfl
theorem dX3_init_25 : decode cX3_init 25 = .ok (.iconst 0, 1) := okD_get dqa_30 15 rfl
theorem dX3_init_26 : decode cX3_init 26 = .ok (.putfield 22, 3) := okD_get dqa_30 16 rfl
theorem dX3_init_29 : decode cX3_init 29 = .ok (.return_, 1) := okD_get dqa_30 17 rfl
theorem dqa_31 : okD cX3_assess [(0, (.aload_n 1, 1)), (1, (.iload_n 2, 1)), (2, (.invokevirtual 25, 3)), (5, (.ifCond .eq 7, 3)), (8, (.iconst 0, 1)), (9, (.goto 10, 3)), (12, (.aload_n 1, 1)), (13, (.iload_n 2, 1)), (14, (.iload 4, 2)), (16, (.invokevirtual 31, 3)), (19, (.istore 5, 2)), (21, (.aload_n 0, 1)), (22, (.aload_n 1, 1)), (23, (.iload 5, 2)), (25, (.iload_n 3, 1)), (26, (.invokevirtual 35, 3)), (29, (.putfield 13, 3)), (32, (.aload_n 0, 1)), (33, (.iload 5, 2)), (35, (.aload_n 0, 1)), (36, (.getfield 13, 3)), (39, (.isub, 1)), (40, (.putfield 7, 3)), (43, (.aload_n 0, 1)), (44, (.aload_n 1, 1)), (45, (.aload_n 0, 1)), (46, (.getfield 7, 3)), (49, (.invokevirtual 38, 3)), (52, (.putfield 16, 3)), (55, (.aload_n 0, 1)), (56, (.aload_n 0, 1)), (57, (.getfield 7, 3)), (60, (.aload_n 0, 1)), (61, (.getfield 16, 3)), (64, (.isub, 1)), (65, (.putfield 19, 3)), (68, (.aload_n 0, 1)), (69, (.iload_n 2, 1)), (70, (.aload_n 0, 1)), (71, (.getfield 7, 3))] = true := by decide +kernel
theorem dX3_assess_0 : decode cX3_assess 0 = .ok (.aload_n 1, 1) := okD_get dqa_31 0 rfl
theorem dX3_assess_1 : decode cX3_assess 1 = .ok (.iload_n 2, 1) := okD_get dqa_31 1 rfl
theorem dX3_assess_2 : decode cX3_assess 2 = .ok (.invokevirtual 25, 3) := okD_get dqa_31 2 rfl
theorem dX3_assess_5 : decode cX3_assess 5 = .ok (.ifCond .eq 7, 3) := okD_get dqa_31 3 rfl
theorem dX3_assess_8 : decode cX3_assess 8 = .ok (.iconst 0, 1) := okD_get dqa_31 4 rfl
theorem dX3_assess_9 : decode cX3_assess 9 = .ok (.goto 10, 3) := okD_get dqa_31 5 rfl
theorem dX3_assess_12 : decode cX3_assess 12 = .ok (.aload_n 1, 1) := okD_get dqa_31 6 rfl
theorem dX3_assess_13 : decode cX3_assess 13 = .ok (.iload_n 2, 1) := okD_get dqa_31 7 rfl
theorem dX3_assess_14 : decode cX3_assess 14 = .ok (.iload 4, 2) := okD_get dqa_31 8 rfl
theorem dX3_assess_16 : decode cX3_assess 16 = .ok (.invokevirtual 31, 3) := okD_get dqa_31 9 rfl
theorem dX3_assess_19 : decode cX3_assess 19 = .ok (.istore 5, 2) := okD_get dqa_31 10 rfl
theorem dX3_assess_21 : decode cX3_assess 21 = .ok (.aload_n 0, 1) := okD_get dqa_31 11 rfl
theorem dX3_assess_22 : decode cX3_assess 22 = .ok (.aload_n 1, 1) := okD_get dqa_31 12 rfl
theorem dX3_assess_23 : decode cX3_assess 23 = .ok (.iload 5, 2) := okD_get dqa_31 13 rfl
theorem dX3_assess_25 : decode cX3_assess 25 = .ok (.iload_n 3, 1) := okD_get dqa_31 14 rfl
theorem dX3_assess_26 : decode cX3_assess 26 = .ok (.invokevirtual 35, 3) := okD_get dqa_31 15 rfl
theorem dX3_assess_29 : decode cX3_assess 29 = .ok (.putfield 13, 3) := okD_get dqa_31 16 rfl
theorem dX3_assess_32 : decode cX3_assess 32 = .ok (.aload_n 0, 1) := okD_get dqa_31 17 rfl
theorem dX3_assess_33 : decode cX3_assess 33 = .ok (.iload 5, 2) := okD_get dqa_31 18 rfl
theorem dX3_assess_35 : decode cX3_assess 35 = .ok (.aload_n 0, 1) := okD_get dqa_31 19 rfl
theorem dX3_assess_36 : decode cX3_assess 36 = .ok (.getfield 13, 3) := okD_get dqa_31 20 rfl
theorem dX3_assess_39 : decode cX3_assess 39 = .ok (.isub, 1) := okD_get dqa_31 21 rfl
theorem dX3_assess_40 : decode cX3_assess 40 = .ok (.putfield 7, 3) := okD_get dqa_31 22 rfl
theorem dX3_assess_43 : decode cX3_assess 43 = .ok (.aload_n 0, 1) := okD_get dqa_31 23 rfl
theorem dX3_assess_44 : decode cX3_assess 44 = .ok (.aload_n 1, 1) := okD_get dqa_31 24 rfl
theorem dX3_assess_45 : decode cX3_assess 45 = .ok (.aload_n 0, 1) := okD_get dqa_31 25 rfl
theorem dX3_assess_46 : decode cX3_assess 46 = .ok (.getfield 7, 3) := okD_get dqa_31 26 rfl
theorem dX3_assess_49 : decode cX3_assess 49 = .ok (.invokevirtual 38, 3) := okD_get dqa_31 27 rfl
theorem dX3_assess_52 : decode cX3_assess 52 = .ok (.putfield 16, 3) := okD_get dqa_31 28 rfl
theorem dX3_assess_55 : decode cX3_assess 55 = .ok (.aload_n 0, 1) := okD_get dqa_31 29 rfl
theorem dX3_assess_56 : decode cX3_assess 56 = .ok (.aload_n 0, 1) := okD_get dqa_31 30 rfl
theorem dX3_assess_57 : decode cX3_assess 57 = .ok (.getfield 7, 3) := okD_get dqa_31 31 rfl
theorem dX3_assess_60 : decode cX3_assess 60 = .ok (.aload_n 0, 1) := okD_get dqa_31 32 rfl
theorem dX3_assess_61 : decode cX3_assess 61 = .ok (.getfield 16, 3) := okD_get dqa_31 33 rfl
theorem dX3_assess_64 : decode cX3_assess 64 = .ok (.isub, 1) := okD_get dqa_31 34 rfl
theorem dX3_assess_65 : decode cX3_assess 65 = .ok (.putfield 19, 3) := okD_get dqa_31 35 rfl
theorem dX3_assess_68 : decode cX3_assess 68 = .ok (.aload_n 0, 1) := okD_get dqa_31 36 rfl
theorem dX3_assess_69 : decode cX3_assess 69 = .ok (.iload_n 2, 1) := okD_get dqa_31 37 rfl
theorem dX3_assess_70 : decode cX3_assess 70 = .ok (.aload_n 0, 1) := okD_get dqa_31 38 rfl
theorem dX3_assess_71 : decode cX3_assess 71 = .ok (.getfield 7, 3) := okD_get dqa_31 39 rfl
theorem dqa_32 : okD cX3_assess [(74, (.isub, 1)), (75, (.putfield 22, 3)), (78, (.return_, 1))] = true := by decide +kernel
theorem dX3_assess_74 : decode cX3_assess 74 = .ok (.isub, 1) := okD_get dqa_32 0 rfl
theorem dX3_assess_75 : decode cX3_assess 75 = .ok (.putfield 22, 3) := okD_get dqa_32 1 rfl
theorem dX3_assess_78 : decode cX3_assess 78 = .ok (.return_, 1) := okD_get dqa_32 2 rfl
theorem dqa_33 : okD cX4_init [(0, (.aload_n 0, 1)), (1, (.invokespecial 3, 3)), (4, (.aload_n 0, 1)), (5, (.sipush 300, 3)), (8, (.newarray .int, 2)), (10, (.putfield 9, 3)), (13, (.aload_n 0, 1)), (14, (.sipush 300, 3)), (17, (.newarray .int, 2)), (19, (.putfield 15, 3)), (22, (.aload_n 0, 1)), (23, (.sipush 300, 3)), (26, (.newarray .int, 2)), (28, (.putfield 18, 3)), (31, (.aload_n 0, 1)), (32, (.iconst 0, 1)), (33, (.putfield 21, 3)), (36, (.aload_n 0, 1)), (37, (.bipush 120, 2)), (39, (.newarray .int, 2)), (41, (.putfield 25, 3)), (44, (.aload_n 0, 1)), (45, (.iconst 0, 1)), (46, (.putfield 28, 3)), (49, (.return_, 1))] = true := by decide +kernel
theorem dX4_init_0 : decode cX4_init 0 = .ok (.aload_n 0, 1) := okD_get dqa_33 0 rfl
theorem dX4_init_1 : decode cX4_init 1 = .ok (.invokespecial 3, 3) := okD_get dqa_33 1 rfl
theorem dX4_init_4 : decode cX4_init 4 = .ok (.aload_n 0, 1) := okD_get dqa_33 2 rfl
theorem dX4_init_5 : decode cX4_init 5 = .ok (.sipush 300, 3) := okD_get dqa_33 3 rfl
theorem dX4_init_8 : decode cX4_init 8 = .ok (.newarray .int, 2) := okD_get dqa_33 4 rfl
theorem dX4_init_10 : decode cX4_init 10 = .ok (.putfield 9, 3) := okD_get dqa_33 5 rfl
theorem dX4_init_13 : decode cX4_init 13 = .ok (.aload_n 0, 1) := okD_get dqa_33 6 rfl
theorem dX4_init_14 : decode cX4_init 14 = .ok (.sipush 300, 3) := okD_get dqa_33 7 rfl
theorem dX4_init_17 : decode cX4_init 17 = .ok (.newarray .int, 2) := okD_get dqa_33 8 rfl
theorem dX4_init_19 : decode cX4_init 19 = .ok (.putfield 15, 3) := okD_get dqa_33 9 rfl
theorem dX4_init_22 : decode cX4_init 22 = .ok (.aload_n 0, 1) := okD_get dqa_33 10 rfl
theorem dX4_init_23 : decode cX4_init 23 = .ok (.sipush 300, 3) := okD_get dqa_33 11 rfl
theorem dX4_init_26 : decode cX4_init 26 = .ok (.newarray .int, 2) := okD_get dqa_33 12 rfl
theorem dX4_init_28 : decode cX4_init 28 = .ok (.putfield 18, 3) := okD_get dqa_33 13 rfl
theorem dX4_init_31 : decode cX4_init 31 = .ok (.aload_n 0, 1) := okD_get dqa_33 14 rfl
theorem dX4_init_32 : decode cX4_init 32 = .ok (.iconst 0, 1) := okD_get dqa_33 15 rfl
theorem dX4_init_33 : decode cX4_init 33 = .ok (.putfield 21, 3) := okD_get dqa_33 16 rfl
theorem dX4_init_36 : decode cX4_init 36 = .ok (.aload_n 0, 1) := okD_get dqa_33 17 rfl
theorem dX4_init_37 : decode cX4_init 37 = .ok (.bipush 120, 2) := okD_get dqa_33 18 rfl
theorem dX4_init_39 : decode cX4_init 39 = .ok (.newarray .int, 2) := okD_get dqa_33 19 rfl
theorem dX4_init_41 : decode cX4_init 41 = .ok (.putfield 25, 3) := okD_get dqa_33 20 rfl
theorem dX4_init_44 : decode cX4_init 44 = .ok (.aload_n 0, 1) := okD_get dqa_33 21 rfl
theorem dX4_init_45 : decode cX4_init 45 = .ok (.iconst 0, 1) := okD_get dqa_33 22 rfl
theorem dX4_init_46 : decode cX4_init 46 = .ok (.putfield 28, 3) := okD_get dqa_33 23 rfl
theorem dX4_init_49 : decode cX4_init 49 = .ok (.return_, 1) := okD_get dqa_33 24 rfl
theorem dqa_34 : okD cX4_tell [(0, (.aload_n 0, 1)), (1, (.getfield 9, 3)), (4, (.aload_n 0, 1)), (5, (.getfield 21, 3)), (8, (.iload_n 1, 1)), (9, (.iastore, 1)), (10, (.aload_n 0, 1)), (11, (.getfield 15, 3)), (14, (.aload_n 0, 1)), (15, (.getfield 21, 3)), (18, (.iload_n 2, 1)), (19, (.iastore, 1)), (20, (.aload_n 0, 1)), (21, (.getfield 18, 3)), (24, (.aload_n 0, 1)), (25, (.getfield 21, 3)), (28, (.iload_n 3, 1)), (29, (.iastore, 1)), (30, (.aload_n 0, 1)), (31, (.dup, 1)), (32, (.getfield 21, 3)), (35, (.iconst 1, 1)), (36, (.iadd, 1)), (37, (.putfield 21, 3)), (40, (.return_, 1))] = true := by decide +kernel
theorem dX4_tell_0 : decode cX4_tell 0 = .ok (.aload_n 0, 1) := okD_get dqa_34 0 rfl
theorem dX4_tell_1 : decode cX4_tell 1 = .ok (.getfield 9, 3) := okD_get dqa_34 1 rfl
theorem dX4_tell_4 : decode cX4_tell 4 = .ok (.aload_n 0, 1) := okD_get dqa_34 2 rfl
theorem dX4_tell_5 : decode cX4_tell 5 = .ok (.getfield 21, 3) := okD_get dqa_34 3 rfl
theorem dX4_tell_8 : decode cX4_tell 8 = .ok (.iload_n 1, 1) := okD_get dqa_34 4 rfl
theorem dX4_tell_9 : decode cX4_tell 9 = .ok (.iastore, 1) := okD_get dqa_34 5 rfl
theorem dX4_tell_10 : decode cX4_tell 10 = .ok (.aload_n 0, 1) := okD_get dqa_34 6 rfl
theorem dX4_tell_11 : decode cX4_tell 11 = .ok (.getfield 15, 3) := okD_get dqa_34 7 rfl
theorem dX4_tell_14 : decode cX4_tell 14 = .ok (.aload_n 0, 1) := okD_get dqa_34 8 rfl
theorem dX4_tell_15 : decode cX4_tell 15 = .ok (.getfield 21, 3) := okD_get dqa_34 9 rfl
theorem dX4_tell_18 : decode cX4_tell 18 = .ok (.iload_n 2, 1) := okD_get dqa_34 10 rfl
theorem dX4_tell_19 : decode cX4_tell 19 = .ok (.iastore, 1) := okD_get dqa_34 11 rfl
theorem dX4_tell_20 : decode cX4_tell 20 = .ok (.aload_n 0, 1) := okD_get dqa_34 12 rfl
theorem dX4_tell_21 : decode cX4_tell 21 = .ok (.getfield 18, 3) := okD_get dqa_34 13 rfl
theorem dX4_tell_24 : decode cX4_tell 24 = .ok (.aload_n 0, 1) := okD_get dqa_34 14 rfl
theorem dX4_tell_25 : decode cX4_tell 25 = .ok (.getfield 21, 3) := okD_get dqa_34 15 rfl
theorem dX4_tell_28 : decode cX4_tell 28 = .ok (.iload_n 3, 1) := okD_get dqa_34 16 rfl
theorem dX4_tell_29 : decode cX4_tell 29 = .ok (.iastore, 1) := okD_get dqa_34 17 rfl
theorem dX4_tell_30 : decode cX4_tell 30 = .ok (.aload_n 0, 1) := okD_get dqa_34 18 rfl
theorem dX4_tell_31 : decode cX4_tell 31 = .ok (.dup, 1) := okD_get dqa_34 19 rfl
theorem dX4_tell_32 : decode cX4_tell 32 = .ok (.getfield 21, 3) := okD_get dqa_34 20 rfl
theorem dX4_tell_35 : decode cX4_tell 35 = .ok (.iconst 1, 1) := okD_get dqa_34 21 rfl
theorem dX4_tell_36 : decode cX4_tell 36 = .ok (.iadd, 1) := okD_get dqa_34 22 rfl
theorem dX4_tell_37 : decode cX4_tell 37 = .ok (.putfield 21, 3) := okD_get dqa_34 23 rfl
theorem dX4_tell_40 : decode cX4_tell 40 = .ok (.return_, 1) := okD_get dqa_34 24 rfl
theorem dqa_35 : okD cX4_look [(0, (.aload_n 0, 1)), (1, (.bipush 119, 2)), (3, (.iload_n 1, 1)), (4, (.invokevirtual 31, 3)), (7, (.return_, 1))] = true := by decide +kernel
theorem dX4_look_0 : decode cX4_look 0 = .ok (.aload_n 0, 1) := okD_get dqa_35 0 rfl
theorem dX4_look_1 : decode cX4_look 1 = .ok (.bipush 119, 2) := okD_get dqa_35 1 rfl
theorem dX4_look_3 : decode cX4_look 3 = .ok (.iload_n 1, 1) := okD_get dqa_35 2 rfl
theorem dX4_look_4 : decode cX4_look 4 = .ok (.invokevirtual 31, 3) := okD_get dqa_35 3 rfl
theorem dX4_look_7 : decode cX4_look 7 = .ok (.return_, 1) := okD_get dqa_35 4 rfl
theorem dqa_36 : okD cX4_lookUpTo [(0, (.iconst 0, 1)), (1, (.istore_n 3, 1)), (2, (.iload_n 3, 1)), (3, (.bipush 120, 2)), (5, (.if_icmp .ge 16, 3)), (8, (.aload_n 0, 1)), (9, (.getfield 25, 3)), (12, (.iload_n 3, 1)), (13, (.iconst (-1), 1)), (14, (.iastore, 1)), (15, (.iinc 3 1, 3)), (18, (.goto (-16), 3)), (21, (.iconst 0, 1)), (22, (.istore_n 3, 1)), (23, (.iload_n 3, 1)), (24, (.aload_n 0, 1)), (25, (.getfield 21, 3)), (28, (.if_icmp .ge 46, 3)), (31, (.aload_n 0, 1)), (32, (.getfield 18, 3)), (35, (.iload_n 3, 1)), (36, (.iaload, 1)), (37, (.iload_n 2, 1)), (38, (.if_icmp .gt 30, 3)), (41, (.aload_n 0, 1)), (42, (.getfield 9, 3)), (45, (.iload_n 3, 1)), (46, (.iaload, 1)), (47, (.iload_n 1, 1)), (48, (.if_icmp .gt 20, 3)), (51, (.aload_n 0, 1)), (52, (.getfield 25, 3)), (55, (.aload_n 0, 1)), (56, (.getfield 9, 3)), (59, (.iload_n 3, 1)), (60, (.iaload, 1)), (61, (.aload_n 0, 1)), (62, (.getfield 15, 3)), (65, (.iload_n 3, 1)), (66, (.iaload, 1))] = true := by decide +kernel
theorem dX4_lookUpTo_0 : decode cX4_lookUpTo 0 = .ok (.iconst 0, 1) := okD_get dqa_36 0 rfl
theorem dX4_lookUpTo_1 : decode cX4_lookUpTo 1 = .ok (.istore_n 3, 1) := okD_get dqa_36 1 rfl
theorem dX4_lookUpTo_2 : decode cX4_lookUpTo 2 = .ok (.iload_n 3, 1) := okD_get dqa_36 2 rfl
theorem dX4_lookUpTo_3 : decode cX4_lookUpTo 3 = .ok (.bipush 120, 2) := okD_get dqa_36 3 rfl
theorem dX4_lookUpTo_5 : decode cX4_lookUpTo 5 = .ok (.if_icmp .ge 16, 3) := okD_get dqa_36 4 rfl
theorem dX4_lookUpTo_8 : decode cX4_lookUpTo 8 = .ok (.aload_n 0, 1) := okD_get dqa_36 5 rfl
theorem dX4_lookUpTo_9 : decode cX4_lookUpTo 9 = .ok (.getfield 25, 3) := okD_get dqa_36 6 rfl
theorem dX4_lookUpTo_12 : decode cX4_lookUpTo 12 = .ok (.iload_n 3, 1) := okD_get dqa_36 7 rfl
theorem dX4_lookUpTo_13 : decode cX4_lookUpTo 13 = .ok (.iconst (-1), 1) := okD_get dqa_36 8 rfl
theorem dX4_lookUpTo_14 : decode cX4_lookUpTo 14 = .ok (.iastore, 1) := okD_get dqa_36 9 rfl
theorem dX4_lookUpTo_15 : decode cX4_lookUpTo 15 = .ok (.iinc 3 1, 3) := okD_get dqa_36 10 rfl
theorem dX4_lookUpTo_18 : decode cX4_lookUpTo 18 = .ok (.goto (-16), 3) := okD_get dqa_36 11 rfl
theorem dX4_lookUpTo_21 : decode cX4_lookUpTo 21 = .ok (.iconst 0, 1) := okD_get dqa_36 12 rfl
theorem dX4_lookUpTo_22 : decode cX4_lookUpTo 22 = .ok (.istore_n 3, 1) := okD_get dqa_36 13 rfl
theorem dX4_lookUpTo_23 : decode cX4_lookUpTo 23 = .ok (.iload_n 3, 1) := okD_get dqa_36 14 rfl
theorem dX4_lookUpTo_24 : decode cX4_lookUpTo 24 = .ok (.aload_n 0, 1) := okD_get dqa_36 15 rfl
theorem dX4_lookUpTo_25 : decode cX4_lookUpTo 25 = .ok (.getfield 21, 3) := okD_get dqa_36 16 rfl
theorem dX4_lookUpTo_28 : decode cX4_lookUpTo 28 = .ok (.if_icmp .ge 46, 3) := okD_get dqa_36 17 rfl
theorem dX4_lookUpTo_31 : decode cX4_lookUpTo 31 = .ok (.aload_n 0, 1) := okD_get dqa_36 18 rfl
theorem dX4_lookUpTo_32 : decode cX4_lookUpTo 32 = .ok (.getfield 18, 3) := okD_get dqa_36 19 rfl
theorem dX4_lookUpTo_35 : decode cX4_lookUpTo 35 = .ok (.iload_n 3, 1) := okD_get dqa_36 20 rfl
theorem dX4_lookUpTo_36 : decode cX4_lookUpTo 36 = .ok (.iaload, 1) := okD_get dqa_36 21 rfl
theorem dX4_lookUpTo_37 : decode cX4_lookUpTo 37 = .ok (.iload_n 2, 1) := okD_get dqa_36 22 rfl
theorem dX4_lookUpTo_38 : decode cX4_lookUpTo 38 = .ok (.if_icmp .gt 30, 3) := okD_get dqa_36 23 rfl
theorem dX4_lookUpTo_41 : decode cX4_lookUpTo 41 = .ok (.aload_n 0, 1) := okD_get dqa_36 24 rfl
theorem dX4_lookUpTo_42 : decode cX4_lookUpTo 42 = .ok (.getfield 9, 3) := okD_get dqa_36 25 rfl
theorem dX4_lookUpTo_45 : decode cX4_lookUpTo 45 = .ok (.iload_n 3, 1) := okD_get dqa_36 26 rfl
theorem dX4_lookUpTo_46 : decode cX4_lookUpTo 46 = .ok (.iaload, 1) := okD_get dqa_36 27 rfl
theorem dX4_lookUpTo_47 : decode cX4_lookUpTo 47 = .ok (.iload_n 1, 1) := okD_get dqa_36 28 rfl
theorem dX4_lookUpTo_48 : decode cX4_lookUpTo 48 = .ok (.if_icmp .gt 20, 3) := okD_get dqa_36 29 rfl
theorem dX4_lookUpTo_51 : decode cX4_lookUpTo 51 = .ok (.aload_n 0, 1) := okD_get dqa_36 30 rfl
theorem dX4_lookUpTo_52 : decode cX4_lookUpTo 52 = .ok (.getfield 25, 3) := okD_get dqa_36 31 rfl
theorem dX4_lookUpTo_55 : decode cX4_lookUpTo 55 = .ok (.aload_n 0, 1) := okD_get dqa_36 32 rfl
theorem dX4_lookUpTo_56 : decode cX4_lookUpTo 56 = .ok (.getfield 9, 3) := okD_get dqa_36 33 rfl
theorem dX4_lookUpTo_59 : decode cX4_lookUpTo 59 = .ok (.iload_n 3, 1) := okD_get dqa_36 34 rfl
theorem dX4_lookUpTo_60 : decode cX4_lookUpTo 60 = .ok (.iaload, 1) := okD_get dqa_36 35 rfl
theorem dX4_lookUpTo_61 : decode cX4_lookUpTo 61 = .ok (.aload_n 0, 1) := okD_get dqa_36 36 rfl
theorem dX4_lookUpTo_62 : decode cX4_lookUpTo 62 = .ok (.getfield 15, 3) := okD_get dqa_36 37 rfl
theorem dX4_lookUpTo_65 : decode cX4_lookUpTo 65 = .ok (.iload_n 3, 1) := okD_get dqa_36 38 rfl
theorem dX4_lookUpTo_66 : decode cX4_lookUpTo 66 = .ok (.iaload, 1) := okD_get dqa_36 39 rfl
theorem dqa_37 : okD cX4_lookUpTo [(67, (.iastore, 1)), (68, (.iinc 3 1, 3)), (71, (.goto (-48), 3)), (74, (.aload_n 0, 1)), (75, (.invokevirtual 35, 3)), (78, (.return_, 1))] = true := by decide +kernel
theorem dX4_lookUpTo_67 : decode cX4_lookUpTo 67 = .ok (.iastore, 1) := okD_get dqa_37 0 rfl
theorem dX4_lookUpTo_68 : decode cX4_lookUpTo 68 = .ok (.iinc 3 1, 3) := okD_get dqa_37 1 rfl
theorem dX4_lookUpTo_71 : decode cX4_lookUpTo 71 = .ok (.goto (-48), 3) := okD_get dqa_37 2 rfl
theorem dX4_lookUpTo_74 : decode cX4_lookUpTo 74 = .ok (.aload_n 0, 1) := okD_get dqa_37 3 rfl
theorem dX4_lookUpTo_75 : decode cX4_lookUpTo 75 = .ok (.invokevirtual 35, 3) := okD_get dqa_37 4 rfl
theorem dX4_lookUpTo_78 : decode cX4_lookUpTo 78 = .ok (.return_, 1) := okD_get dqa_37 5 rfl
theorem dqa_38 : okD cX4_carryOn [(0, (.iconst 0, 1)), (1, (.istore_n 1, 1)), (2, (.aload_n 0, 1)), (3, (.iconst 0, 1)), (4, (.putfield 28, 3)), (7, (.iconst 0, 1)), (8, (.istore_n 2, 1)), (9, (.iload_n 2, 1)), (10, (.bipush 120, 2)), (12, (.if_icmp .ge 45, 3)), (15, (.aload_n 0, 1)), (16, (.getfield 25, 3)), (19, (.iload_n 2, 1)), (20, (.iaload, 1)), (21, (.iconst (-1), 1)), (22, (.if_icmp .ne 10, 3)), (25, (.aload_n 0, 1)), (26, (.getfield 25, 3)), (29, (.iload_n 2, 1)), (30, (.iload_n 1, 1)), (31, (.iastore, 1)), (32, (.aload_n 0, 1)), (33, (.getfield 25, 3)), (36, (.iload_n 2, 1)), (37, (.iaload, 1)), (38, (.istore_n 1, 1)), (39, (.aload_n 0, 1)), (40, (.aload_n 0, 1)), (41, (.getfield 28, 3)), (44, (.iload_n 1, 1)), (45, (.invokestatic 38, 3)), (48, (.putfield 28, 3)), (51, (.iinc 2 1, 3)), (54, (.goto (-45), 3)), (57, (.return_, 1))] = true := by decide +kernel
theorem dX4_carryOn_0 : decode cX4_carryOn 0 = .ok (.iconst 0, 1) := okD_get dqa_38 0 rfl
theorem dX4_carryOn_1 : decode cX4_carryOn 1 = .ok (.istore_n 1, 1) := okD_get dqa_38 1 rfl
theorem dX4_carryOn_2 : decode cX4_carryOn 2 = .ok (.aload_n 0, 1) := okD_get dqa_38 2 rfl
theorem dX4_carryOn_3 : decode cX4_carryOn 3 = .ok (.iconst 0, 1) := okD_get dqa_38 3 rfl
theorem dX4_carryOn_4 : decode cX4_carryOn 4 = .ok (.putfield 28, 3) := okD_get dqa_38 4 rfl
theorem dX4_carryOn_7 : decode cX4_carryOn 7 = .ok (.iconst 0, 1) := okD_get dqa_38 5 rfl
theorem dX4_carryOn_8 : decode cX4_carryOn 8 = .ok (.istore_n 2, 1) := okD_get dqa_38 6 rfl
theorem dX4_carryOn_9 : decode cX4_carryOn 9 = .ok (.iload_n 2, 1) := okD_get dqa_38 7 rfl
theorem dX4_carryOn_10 : decode cX4_carryOn 10 = .ok (.bipush 120, 2) := okD_get dqa_38 8 rfl
theorem dX4_carryOn_12 : decode cX4_carryOn 12 = .ok (.if_icmp .ge 45, 3) := okD_get dqa_38 9 rfl
theorem dX4_carryOn_15 : decode cX4_carryOn 15 = .ok (.aload_n 0, 1) := okD_get dqa_38 10 rfl
theorem dX4_carryOn_16 : decode cX4_carryOn 16 = .ok (.getfield 25, 3) := okD_get dqa_38 11 rfl
theorem dX4_carryOn_19 : decode cX4_carryOn 19 = .ok (.iload_n 2, 1) := okD_get dqa_38 12 rfl
theorem dX4_carryOn_20 : decode cX4_carryOn 20 = .ok (.iaload, 1) := okD_get dqa_38 13 rfl
theorem dX4_carryOn_21 : decode cX4_carryOn 21 = .ok (.iconst (-1), 1) := okD_get dqa_38 14 rfl
theorem dX4_carryOn_22 : decode cX4_carryOn 22 = .ok (.if_icmp .ne 10, 3) := okD_get dqa_38 15 rfl
theorem dX4_carryOn_25 : decode cX4_carryOn 25 = .ok (.aload_n 0, 1) := okD_get dqa_38 16 rfl
theorem dX4_carryOn_26 : decode cX4_carryOn 26 = .ok (.getfield 25, 3) := okD_get dqa_38 17 rfl
theorem dX4_carryOn_29 : decode cX4_carryOn 29 = .ok (.iload_n 2, 1) := okD_get dqa_38 18 rfl
theorem dX4_carryOn_30 : decode cX4_carryOn 30 = .ok (.iload_n 1, 1) := okD_get dqa_38 19 rfl
theorem dX4_carryOn_31 : decode cX4_carryOn 31 = .ok (.iastore, 1) := okD_get dqa_38 20 rfl
theorem dX4_carryOn_32 : decode cX4_carryOn 32 = .ok (.aload_n 0, 1) := okD_get dqa_38 21 rfl
theorem dX4_carryOn_33 : decode cX4_carryOn 33 = .ok (.getfield 25, 3) := okD_get dqa_38 22 rfl
theorem dX4_carryOn_36 : decode cX4_carryOn 36 = .ok (.iload_n 2, 1) := okD_get dqa_38 23 rfl
theorem dX4_carryOn_37 : decode cX4_carryOn 37 = .ok (.iaload, 1) := okD_get dqa_38 24 rfl
theorem dX4_carryOn_38 : decode cX4_carryOn 38 = .ok (.istore_n 1, 1) := okD_get dqa_38 25 rfl
theorem dX4_carryOn_39 : decode cX4_carryOn 39 = .ok (.aload_n 0, 1) := okD_get dqa_38 26 rfl
theorem dX4_carryOn_40 : decode cX4_carryOn 40 = .ok (.aload_n 0, 1) := okD_get dqa_38 27 rfl
theorem dX4_carryOn_41 : decode cX4_carryOn 41 = .ok (.getfield 28, 3) := okD_get dqa_38 28 rfl
theorem dX4_carryOn_44 : decode cX4_carryOn 44 = .ok (.iload_n 1, 1) := okD_get dqa_38 29 rfl
theorem dX4_carryOn_45 : decode cX4_carryOn 45 = .ok (.invokestatic 38, 3) := okD_get dqa_38 30 rfl
theorem dX4_carryOn_48 : decode cX4_carryOn 48 = .ok (.putfield 28, 3) := okD_get dqa_38 31 rfl
theorem dX4_carryOn_51 : decode cX4_carryOn 51 = .ok (.iinc 2 1, 3) := okD_get dqa_38 32 rfl
theorem dX4_carryOn_54 : decode cX4_carryOn 54 = .ok (.goto (-45), 3) := okD_get dqa_38 33 rfl
theorem dX4_carryOn_57 : decode cX4_carryOn 57 = .ok (.return_, 1) := okD_get dqa_38 34 rfl
theorem dqa_39 : okD cX4_wetDays [(0, (.iconst 0, 1)), (1, (.istore_n 2, 1)), (2, (.iconst 0, 1)), (3, (.istore_n 3, 1)), (4, (.iload_n 3, 1)), (5, (.bipush 120, 2)), (7, (.if_icmp .ge 22, 3)), (10, (.aload_n 0, 1)), (11, (.getfield 25, 3)), (14, (.iload_n 3, 1)), (15, (.iaload, 1)), (16, (.iload_n 1, 1)), (17, (.if_icmp .lt 6, 3)), (20, (.iinc 2 1, 3)), (23, (.iinc 3 1, 3)), (26, (.goto (-22), 3)), (29, (.iload_n 2, 1)), (30, (.ireturn, 1))] = true := by decide +kernel
theorem dX4_wetDays_0 : decode cX4_wetDays 0 = .ok (.iconst 0, 1) := okD_get dqa_39 0 rfl
theorem dX4_wetDays_1 : decode cX4_wetDays 1 = .ok (.istore_n 2, 1) := okD_get dqa_39 1 rfl
theorem dX4_wetDays_2 : decode cX4_wetDays 2 = .ok (.iconst 0, 1) := okD_get dqa_39 2 rfl
theorem dX4_wetDays_3 : decode cX4_wetDays 3 = .ok (.istore_n 3, 1) := okD_get dqa_39 3 rfl
theorem dX4_wetDays_4 : decode cX4_wetDays 4 = .ok (.iload_n 3, 1) := okD_get dqa_39 4 rfl
theorem dX4_wetDays_5 : decode cX4_wetDays 5 = .ok (.bipush 120, 2) := okD_get dqa_39 5 rfl
theorem dX4_wetDays_7 : decode cX4_wetDays 7 = .ok (.if_icmp .ge 22, 3) := okD_get dqa_39 6 rfl
theorem dX4_wetDays_10 : decode cX4_wetDays 10 = .ok (.aload_n 0, 1) := okD_get dqa_39 7 rfl
theorem dX4_wetDays_11 : decode cX4_wetDays 11 = .ok (.getfield 25, 3) := okD_get dqa_39 8 rfl
theorem dX4_wetDays_14 : decode cX4_wetDays 14 = .ok (.iload_n 3, 1) := okD_get dqa_39 9 rfl
theorem dX4_wetDays_15 : decode cX4_wetDays 15 = .ok (.iaload, 1) := okD_get dqa_39 10 rfl
theorem dX4_wetDays_16 : decode cX4_wetDays 16 = .ok (.iload_n 1, 1) := okD_get dqa_39 11 rfl
theorem dX4_wetDays_17 : decode cX4_wetDays 17 = .ok (.if_icmp .lt 6, 3) := okD_get dqa_39 12 rfl
theorem dX4_wetDays_20 : decode cX4_wetDays 20 = .ok (.iinc 2 1, 3) := okD_get dqa_39 13 rfl
theorem dX4_wetDays_23 : decode cX4_wetDays 23 = .ok (.iinc 3 1, 3) := okD_get dqa_39 14 rfl
theorem dX4_wetDays_26 : decode cX4_wetDays 26 = .ok (.goto (-22), 3) := okD_get dqa_39 15 rfl
theorem dX4_wetDays_29 : decode cX4_wetDays 29 = .ok (.iload_n 2, 1) := okD_get dqa_39 16 rfl
theorem dX4_wetDays_30 : decode cX4_wetDays 30 = .ok (.ireturn, 1) := okD_get dqa_39 17 rfl
theorem dqa_40 : okD cX5_init [(0, (.aload_n 0, 1)), (1, (.invokespecial 3, 3)), (4, (.aload_n 0, 1)), (5, (.sipush 200, 3)), (8, (.newarray .int, 2)), (10, (.putfield 9, 3)), (13, (.aload_n 0, 1)), (14, (.sipush 200, 3)), (17, (.newarray .int, 2)), (19, (.putfield 15, 3)), (22, (.aload_n 0, 1)), (23, (.sipush 200, 3)), (26, (.newarray .int, 2)), (28, (.putfield 18, 3)), (31, (.aload_n 0, 1)), (32, (.sipush 200, 3)), (35, (.newarray .int, 2)), (37, (.putfield 21, 3)), (40, (.aload_n 0, 1)), (41, (.bipush 24, 2)), (43, (.newarray .int, 2)), (45, (.putfield 24, 3)), (48, (.aload_n 0, 1)), (49, (.bipush 24, 2)), (51, (.newarray .int, 2)), (53, (.putfield 27, 3)), (56, (.aload_n 0, 1)), (57, (.iconst 0, 1)), (58, (.putfield 30, 3)), (61, (.return_, 1))] = true := by decide +kernel
theorem dX5_init_0 : decode cX5_init 0 = .ok (.aload_n 0, 1) := okD_get dqa_40 0 rfl
theorem dX5_init_1 : decode cX5_init 1 = .ok (.invokespecial 3, 3) := okD_get dqa_40 1 rfl
theorem dX5_init_4 : decode cX5_init 4 = .ok (.aload_n 0, 1) := okD_get dqa_40 2 rfl
theorem dX5_init_5 : decode cX5_init 5 = .ok (.sipush 200, 3) := okD_get dqa_40 3 rfl
theorem dX5_init_8 : decode cX5_init 8 = .ok (.newarray .int, 2) := okD_get dqa_40 4 rfl
theorem dX5_init_10 : decode cX5_init 10 = .ok (.putfield 9, 3) := okD_get dqa_40 5 rfl
theorem dX5_init_13 : decode cX5_init 13 = .ok (.aload_n 0, 1) := okD_get dqa_40 6 rfl
theorem dX5_init_14 : decode cX5_init 14 = .ok (.sipush 200, 3) := okD_get dqa_40 7 rfl
theorem dX5_init_17 : decode cX5_init 17 = .ok (.newarray .int, 2) := okD_get dqa_40 8 rfl
theorem dX5_init_19 : decode cX5_init 19 = .ok (.putfield 15, 3) := okD_get dqa_40 9 rfl
theorem dX5_init_22 : decode cX5_init 22 = .ok (.aload_n 0, 1) := okD_get dqa_40 10 rfl
theorem dX5_init_23 : decode cX5_init 23 = .ok (.sipush 200, 3) := okD_get dqa_40 11 rfl
theorem dX5_init_26 : decode cX5_init 26 = .ok (.newarray .int, 2) := okD_get dqa_40 12 rfl
theorem dX5_init_28 : decode cX5_init 28 = .ok (.putfield 18, 3) := okD_get dqa_40 13 rfl
theorem dX5_init_31 : decode cX5_init 31 = .ok (.aload_n 0, 1) := okD_get dqa_40 14 rfl
theorem dX5_init_32 : decode cX5_init 32 = .ok (.sipush 200, 3) := okD_get dqa_40 15 rfl
theorem dX5_init_35 : decode cX5_init 35 = .ok (.newarray .int, 2) := okD_get dqa_40 16 rfl
theorem dX5_init_37 : decode cX5_init 37 = .ok (.putfield 21, 3) := okD_get dqa_40 17 rfl
theorem dX5_init_40 : decode cX5_init 40 = .ok (.aload_n 0, 1) := okD_get dqa_40 18 rfl
theorem dX5_init_41 : decode cX5_init 41 = .ok (.bipush 24, 2) := okD_get dqa_40 19 rfl
theorem dX5_init_43 : decode cX5_init 43 = .ok (.newarray .int, 2) := okD_get dqa_40 20 rfl
theorem dX5_init_45 : decode cX5_init 45 = .ok (.putfield 24, 3) := okD_get dqa_40 21 rfl
theorem dX5_init_48 : decode cX5_init 48 = .ok (.aload_n 0, 1) := okD_get dqa_40 22 rfl
theorem dX5_init_49 : decode cX5_init 49 = .ok (.bipush 24, 2) := okD_get dqa_40 23 rfl
theorem dX5_init_51 : decode cX5_init 51 = .ok (.newarray .int, 2) := okD_get dqa_40 24 rfl
theorem dX5_init_53 : decode cX5_init 53 = .ok (.putfield 27, 3) := okD_get dqa_40 25 rfl
theorem dX5_init_56 : decode cX5_init 56 = .ok (.aload_n 0, 1) := okD_get dqa_40 26 rfl
theorem dX5_init_57 : decode cX5_init 57 = .ok (.iconst 0, 1) := okD_get dqa_40 27 rfl
theorem dX5_init_58 : decode cX5_init 58 = .ok (.putfield 30, 3) := okD_get dqa_40 28 rfl
theorem dX5_init_61 : decode cX5_init 61 = .ok (.return_, 1) := okD_get dqa_40 29 rfl
theorem dqa_41 : okD cX5_add [(0, (.aload_n 0, 1)), (1, (.getfield 9, 3)), (4, (.aload_n 0, 1)), (5, (.getfield 30, 3)), (8, (.iload_n 1, 1)), (9, (.iastore, 1)), (10, (.aload_n 0, 1)), (11, (.getfield 15, 3)), (14, (.aload_n 0, 1)), (15, (.getfield 30, 3)), (18, (.iload_n 2, 1)), (19, (.iastore, 1)), (20, (.aload_n 0, 1)), (21, (.getfield 18, 3)), (24, (.aload_n 0, 1)), (25, (.getfield 30, 3)), (28, (.iload_n 3, 1)), (29, (.iastore, 1)), (30, (.aload_n 0, 1)), (31, (.getfield 21, 3)), (34, (.aload_n 0, 1)), (35, (.getfield 30, 3)), (38, (.iload 4, 2)), (40, (.iastore, 1)), (41, (.aload_n 0, 1)), (42, (.dup, 1)), (43, (.getfield 30, 3)), (46, (.iconst 1, 1)), (47, (.iadd, 1)), (48, (.putfield 30, 3)), (51, (.return_, 1))] = true := by decide +kernel
theorem dX5_add_0 : decode cX5_add 0 = .ok (.aload_n 0, 1) := okD_get dqa_41 0 rfl
theorem dX5_add_1 : decode cX5_add 1 = .ok (.getfield 9, 3) := okD_get dqa_41 1 rfl
theorem dX5_add_4 : decode cX5_add 4 = .ok (.aload_n 0, 1) := okD_get dqa_41 2 rfl
theorem dX5_add_5 : decode cX5_add 5 = .ok (.getfield 30, 3) := okD_get dqa_41 3 rfl
theorem dX5_add_8 : decode cX5_add 8 = .ok (.iload_n 1, 1) := okD_get dqa_41 4 rfl
theorem dX5_add_9 : decode cX5_add 9 = .ok (.iastore, 1) := okD_get dqa_41 5 rfl
theorem dX5_add_10 : decode cX5_add 10 = .ok (.aload_n 0, 1) := okD_get dqa_41 6 rfl
theorem dX5_add_11 : decode cX5_add 11 = .ok (.getfield 15, 3) := okD_get dqa_41 7 rfl
theorem dX5_add_14 : decode cX5_add 14 = .ok (.aload_n 0, 1) := okD_get dqa_41 8 rfl
theorem dX5_add_15 : decode cX5_add 15 = .ok (.getfield 30, 3) := okD_get dqa_41 9 rfl
theorem dX5_add_18 : decode cX5_add 18 = .ok (.iload_n 2, 1) := okD_get dqa_41 10 rfl
theorem dX5_add_19 : decode cX5_add 19 = .ok (.iastore, 1) := okD_get dqa_41 11 rfl
theorem dX5_add_20 : decode cX5_add 20 = .ok (.aload_n 0, 1) := okD_get dqa_41 12 rfl
theorem dX5_add_21 : decode cX5_add 21 = .ok (.getfield 18, 3) := okD_get dqa_41 13 rfl
theorem dX5_add_24 : decode cX5_add 24 = .ok (.aload_n 0, 1) := okD_get dqa_41 14 rfl
theorem dX5_add_25 : decode cX5_add 25 = .ok (.getfield 30, 3) := okD_get dqa_41 15 rfl
theorem dX5_add_28 : decode cX5_add 28 = .ok (.iload_n 3, 1) := okD_get dqa_41 16 rfl
theorem dX5_add_29 : decode cX5_add 29 = .ok (.iastore, 1) := okD_get dqa_41 17 rfl
theorem dX5_add_30 : decode cX5_add 30 = .ok (.aload_n 0, 1) := okD_get dqa_41 18 rfl
theorem dX5_add_31 : decode cX5_add 31 = .ok (.getfield 21, 3) := okD_get dqa_41 19 rfl
theorem dX5_add_34 : decode cX5_add 34 = .ok (.aload_n 0, 1) := okD_get dqa_41 20 rfl
theorem dX5_add_35 : decode cX5_add 35 = .ok (.getfield 30, 3) := okD_get dqa_41 21 rfl
theorem dX5_add_38 : decode cX5_add 38 = .ok (.iload 4, 2) := okD_get dqa_41 22 rfl
theorem dX5_add_40 : decode cX5_add 40 = .ok (.iastore, 1) := okD_get dqa_41 23 rfl
theorem dX5_add_41 : decode cX5_add 41 = .ok (.aload_n 0, 1) := okD_get dqa_41 24 rfl
theorem dX5_add_42 : decode cX5_add 42 = .ok (.dup, 1) := okD_get dqa_41 25 rfl
theorem dX5_add_43 : decode cX5_add 43 = .ok (.getfield 30, 3) := okD_get dqa_41 26 rfl
theorem dX5_add_46 : decode cX5_add 46 = .ok (.iconst 1, 1) := okD_get dqa_41 27 rfl
theorem dX5_add_47 : decode cX5_add 47 = .ok (.iadd, 1) := okD_get dqa_41 28 rfl
theorem dX5_add_48 : decode cX5_add 48 = .ok (.putfield 30, 3) := okD_get dqa_41 29 rfl
theorem dX5_add_51 : decode cX5_add 51 = .ok (.return_, 1) := okD_get dqa_41 30 rfl
theorem dqa_42 : okD cX5_sumUp [(0, (.iconst 0, 1)), (1, (.istore_n 3, 1)), (2, (.iload_n 3, 1)), (3, (.bipush 24, 2)), (5, (.if_icmp .ge 23, 3)), (8, (.aload_n 0, 1)), (9, (.getfield 24, 3)), (12, (.iload_n 3, 1)), (13, (.iconst 0, 1)), (14, (.iastore, 1)), (15, (.aload_n 0, 1)), (16, (.getfield 27, 3)), (19, (.iload_n 3, 1)), (20, (.iconst 0, 1)), (21, (.iastore, 1)), (22, (.iinc 3 1, 3)), (25, (.goto (-23), 3)), (28, (.iconst 0, 1)), (29, (.istore_n 3, 1)), (30, (.iload_n 3, 1)), (31, (.aload_n 0, 1)), (32, (.getfield 30, 3)), (35, (.if_icmp .ge 69, 3)), (38, (.aload_n 0, 1)), (39, (.getfield 21, 3)), (42, (.iload_n 3, 1)), (43, (.iaload, 1)), (44, (.iload_n 2, 1)), (45, (.if_icmp .gt 53, 3)), (48, (.aload_n 0, 1)), (49, (.getfield 27, 3)), (52, (.aload_n 0, 1)), (53, (.getfield 15, 3)), (56, (.iload_n 3, 1)), (57, (.iaload, 1)), (58, (.dup2, 1)), (59, (.iaload, 1)), (60, (.aload_n 0, 1)), (61, (.getfield 18, 3)), (64, (.iload_n 3, 1))] = true := by decide +kernel
theorem dX5_sumUp_0 : decode cX5_sumUp 0 = .ok (.iconst 0, 1) := okD_get dqa_42 0 rfl
theorem dX5_sumUp_1 : decode cX5_sumUp 1 = .ok (.istore_n 3, 1) := okD_get dqa_42 1 rfl
theorem dX5_sumUp_2 : decode cX5_sumUp 2 = .ok (.iload_n 3, 1) := okD_get dqa_42 2 rfl
theorem dX5_sumUp_3 : decode cX5_sumUp 3 = .ok (.bipush 24, 2) := okD_get dqa_42 3 rfl
theorem dX5_sumUp_5 : decode cX5_sumUp 5 = .ok (.if_icmp .ge 23, 3) := okD_get dqa_42 4 rfl
theorem dX5_sumUp_8 : decode cX5_sumUp 8 = .ok (.aload_n 0, 1) := okD_get dqa_42 5 rfl
theorem dX5_sumUp_9 : decode cX5_sumUp 9 = .ok (.getfield 24, 3) := okD_get dqa_42 6 rfl
theorem dX5_sumUp_12 : decode cX5_sumUp 12 = .ok (.iload_n 3, 1) := okD_get dqa_42 7 rfl
theorem dX5_sumUp_13 : decode cX5_sumUp 13 = .ok (.iconst 0, 1) := okD_get dqa_42 8 rfl
theorem dX5_sumUp_14 : decode cX5_sumUp 14 = .ok (.iastore, 1) := okD_get dqa_42 9 rfl
theorem dX5_sumUp_15 : decode cX5_sumUp 15 = .ok (.aload_n 0, 1) := okD_get dqa_42 10 rfl
theorem dX5_sumUp_16 : decode cX5_sumUp 16 = .ok (.getfield 27, 3) := okD_get dqa_42 11 rfl
theorem dX5_sumUp_19 : decode cX5_sumUp 19 = .ok (.iload_n 3, 1) := okD_get dqa_42 12 rfl
theorem dX5_sumUp_20 : decode cX5_sumUp 20 = .ok (.iconst 0, 1) := okD_get dqa_42 13 rfl
theorem dX5_sumUp_21 : decode cX5_sumUp 21 = .ok (.iastore, 1) := okD_get dqa_42 14 rfl
theorem dX5_sumUp_22 : decode cX5_sumUp 22 = .ok (.iinc 3 1, 3) := okD_get dqa_42 15 rfl
theorem dX5_sumUp_25 : decode cX5_sumUp 25 = .ok (.goto (-23), 3) := okD_get dqa_42 16 rfl
theorem dX5_sumUp_28 : decode cX5_sumUp 28 = .ok (.iconst 0, 1) := okD_get dqa_42 17 rfl
theorem dX5_sumUp_29 : decode cX5_sumUp 29 = .ok (.istore_n 3, 1) := okD_get dqa_42 18 rfl
theorem dX5_sumUp_30 : decode cX5_sumUp 30 = .ok (.iload_n 3, 1) := okD_get dqa_42 19 rfl
theorem dX5_sumUp_31 : decode cX5_sumUp 31 = .ok (.aload_n 0, 1) := okD_get dqa_42 20 rfl
theorem dX5_sumUp_32 : decode cX5_sumUp 32 = .ok (.getfield 30, 3) := okD_get dqa_42 21 rfl
theorem dX5_sumUp_35 : decode cX5_sumUp 35 = .ok (.if_icmp .ge 69, 3) := okD_get dqa_42 22 rfl
theorem dX5_sumUp_38 : decode cX5_sumUp 38 = .ok (.aload_n 0, 1) := okD_get dqa_42 23 rfl
theorem dX5_sumUp_39 : decode cX5_sumUp 39 = .ok (.getfield 21, 3) := okD_get dqa_42 24 rfl
theorem dX5_sumUp_42 : decode cX5_sumUp 42 = .ok (.iload_n 3, 1) := okD_get dqa_42 25 rfl
theorem dX5_sumUp_43 : decode cX5_sumUp 43 = .ok (.iaload, 1) := okD_get dqa_42 26 rfl
theorem dX5_sumUp_44 : decode cX5_sumUp 44 = .ok (.iload_n 2, 1) := okD_get dqa_42 27 rfl
theorem dX5_sumUp_45 : decode cX5_sumUp 45 = .ok (.if_icmp .gt 53, 3) := okD_get dqa_42 28 rfl
theorem dX5_sumUp_48 : decode cX5_sumUp 48 = .ok (.aload_n 0, 1) := okD_get dqa_42 29 rfl
theorem dX5_sumUp_49 : decode cX5_sumUp 49 = .ok (.getfield 27, 3) := okD_get dqa_42 30 rfl
theorem dX5_sumUp_52 : decode cX5_sumUp 52 = .ok (.aload_n 0, 1) := okD_get dqa_42 31 rfl
theorem dX5_sumUp_53 : decode cX5_sumUp 53 = .ok (.getfield 15, 3) := okD_get dqa_42 32 rfl
theorem dX5_sumUp_56 : decode cX5_sumUp 56 = .ok (.iload_n 3, 1) := okD_get dqa_42 33 rfl
theorem dX5_sumUp_57 : decode cX5_sumUp 57 = .ok (.iaload, 1) := okD_get dqa_42 34 rfl
theorem dX5_sumUp_58 : decode cX5_sumUp 58 = .ok (.dup2, 1) := okD_get dqa_42 35 rfl
theorem dX5_sumUp_59 : decode cX5_sumUp 59 = .ok (.iaload, 1) := okD_get dqa_42 36 rfl
theorem dX5_sumUp_60 : decode cX5_sumUp 60 = .ok (.aload_n 0, 1) := okD_get dqa_42 37 rfl
theorem dX5_sumUp_61 : decode cX5_sumUp 61 = .ok (.getfield 18, 3) := okD_get dqa_42 38 rfl
theorem dX5_sumUp_64 : decode cX5_sumUp 64 = .ok (.iload_n 3, 1) := okD_get dqa_42 39 rfl
theorem dqa_43 : okD cX5_sumUp [(65, (.iaload, 1)), (66, (.iadd, 1)), (67, (.iastore, 1)), (68, (.aload_n 0, 1)), (69, (.getfield 9, 3)), (72, (.iload_n 3, 1)), (73, (.iaload, 1)), (74, (.iload_n 1, 1)), (75, (.if_icmp .ne 23, 3)), (78, (.aload_n 0, 1)), (79, (.getfield 24, 3)), (82, (.aload_n 0, 1)), (83, (.getfield 15, 3)), (86, (.iload_n 3, 1)), (87, (.iaload, 1)), (88, (.dup2, 1)), (89, (.iaload, 1)), (90, (.aload_n 0, 1)), (91, (.getfield 18, 3)), (94, (.iload_n 3, 1)), (95, (.iaload, 1)), (96, (.iadd, 1)), (97, (.iastore, 1)), (98, (.iinc 3 1, 3)), (101, (.goto (-71), 3)), (104, (.return_, 1))] = true := by decide +kernel
theorem dX5_sumUp_65 : decode cX5_sumUp 65 = .ok (.iaload, 1) := okD_get dqa_43 0 rfl
theorem dX5_sumUp_66 : decode cX5_sumUp 66 = .ok (.iadd, 1) := okD_get dqa_43 1 rfl
theorem dX5_sumUp_67 : decode cX5_sumUp 67 = .ok (.iastore, 1) := okD_get dqa_43 2 rfl
theorem dX5_sumUp_68 : decode cX5_sumUp 68 = .ok (.aload_n 0, 1) := okD_get dqa_43 3 rfl
theorem dX5_sumUp_69 : decode cX5_sumUp 69 = .ok (.getfield 9, 3) := okD_get dqa_43 4 rfl
theorem dX5_sumUp_72 : decode cX5_sumUp 72 = .ok (.iload_n 3, 1) := okD_get dqa_43 5 rfl
theorem dX5_sumUp_73 : decode cX5_sumUp 73 = .ok (.iaload, 1) := okD_get dqa_43 6 rfl
theorem dX5_sumUp_74 : decode cX5_sumUp 74 = .ok (.iload_n 1, 1) := okD_get dqa_43 7 rfl
theorem dX5_sumUp_75 : decode cX5_sumUp 75 = .ok (.if_icmp .ne 23, 3) := okD_get dqa_43 8 rfl
theorem dX5_sumUp_78 : decode cX5_sumUp 78 = .ok (.aload_n 0, 1) := okD_get dqa_43 9 rfl
theorem dX5_sumUp_79 : decode cX5_sumUp 79 = .ok (.getfield 24, 3) := okD_get dqa_43 10 rfl
theorem dX5_sumUp_82 : decode cX5_sumUp 82 = .ok (.aload_n 0, 1) := okD_get dqa_43 11 rfl
theorem dX5_sumUp_83 : decode cX5_sumUp 83 = .ok (.getfield 15, 3) := okD_get dqa_43 12 rfl
theorem dX5_sumUp_86 : decode cX5_sumUp 86 = .ok (.iload_n 3, 1) := okD_get dqa_43 13 rfl
theorem dX5_sumUp_87 : decode cX5_sumUp 87 = .ok (.iaload, 1) := okD_get dqa_43 14 rfl
theorem dX5_sumUp_88 : decode cX5_sumUp 88 = .ok (.dup2, 1) := okD_get dqa_43 15 rfl
theorem dX5_sumUp_89 : decode cX5_sumUp 89 = .ok (.iaload, 1) := okD_get dqa_43 16 rfl
theorem dX5_sumUp_90 : decode cX5_sumUp 90 = .ok (.aload_n 0, 1) := okD_get dqa_43 17 rfl
theorem dX5_sumUp_91 : decode cX5_sumUp 91 = .ok (.getfield 18, 3) := okD_get dqa_43 18 rfl
theorem dX5_sumUp_94 : decode cX5_sumUp 94 = .ok (.iload_n 3, 1) := okD_get dqa_43 19 rfl
theorem dX5_sumUp_95 : decode cX5_sumUp 95 = .ok (.iaload, 1) := okD_get dqa_43 20 rfl
theorem dX5_sumUp_96 : decode cX5_sumUp 96 = .ok (.iadd, 1) := okD_get dqa_43 21 rfl
theorem dX5_sumUp_97 : decode cX5_sumUp 97 = .ok (.iastore, 1) := okD_get dqa_43 22 rfl
theorem dX5_sumUp_98 : decode cX5_sumUp 98 = .ok (.iinc 3 1, 3) := okD_get dqa_43 23 rfl
theorem dX5_sumUp_101 : decode cX5_sumUp 101 = .ok (.goto (-71), 3) := okD_get dqa_43 24 rfl
theorem dX5_sumUp_104 : decode cX5_sumUp 104 = .ok (.return_, 1) := okD_get dqa_43 25 rfl
theorem dqa_44 : okD cX6_init [(0, (.aload_n 0, 1)), (1, (.invokespecial 3, 3)), (4, (.aload_n 0, 1)), (5, (.sipush 200, 3)), (8, (.newarray .int, 2)), (10, (.putfield 9, 3)), (13, (.aload_n 0, 1)), (14, (.iconst 0, 1)), (15, (.putfield 15, 3)), (18, (.aload_n 0, 1)), (19, (.iconst 0, 1)), (20, (.putfield 19, 3)), (23, (.aload_n 0, 1)), (24, (.iconst 0, 1)), (25, (.putfield 22, 3)), (28, (.aload_n 0, 1)), (29, (.iconst 0, 1)), (30, (.putfield 25, 3)), (33, (.return_, 1))] = true := by decide +kernel
theorem dX6_init_0 : decode cX6_init 0 = .ok (.aload_n 0, 1) := okD_get dqa_44 0 rfl
theorem dX6_init_1 : decode cX6_init 1 = .ok (.invokespecial 3, 3) := okD_get dqa_44 1 rfl
theorem dX6_init_4 : decode cX6_init 4 = .ok (.aload_n 0, 1) := okD_get dqa_44 2 rfl
theorem dX6_init_5 : decode cX6_init 5 = .ok (.sipush 200, 3) := okD_get dqa_44 3 rfl
theorem dX6_init_8 : decode cX6_init 8 = .ok (.newarray .int, 2) := okD_get dqa_44 4 rfl
theorem dX6_init_10 : decode cX6_init 10 = .ok (.putfield 9, 3) := okD_get dqa_44 5 rfl
theorem dX6_init_13 : decode cX6_init 13 = .ok (.aload_n 0, 1) := okD_get dqa_44 6 rfl
theorem dX6_init_14 : decode cX6_init 14 = .ok (.iconst 0, 1) := okD_get dqa_44 7 rfl
theorem dX6_init_15 : decode cX6_init 15 = .ok (.putfield 15, 3) := okD_get dqa_44 8 rfl
theorem dX6_init_18 : decode cX6_init 18 = .ok (.aload_n 0, 1) := okD_get dqa_44 9 rfl
theorem dX6_init_19 : decode cX6_init 19 = .ok (.iconst 0, 1) := okD_get dqa_44 10 rfl
theorem dX6_init_20 : decode cX6_init 20 = .ok (.putfield 19, 3) := okD_get dqa_44 11 rfl
theorem dX6_init_23 : decode cX6_init 23 = .ok (.aload_n 0, 1) := okD_get dqa_44 12 rfl
theorem dX6_init_24 : decode cX6_init 24 = .ok (.iconst 0, 1) := okD_get dqa_44 13 rfl
theorem dX6_init_25 : decode cX6_init 25 = .ok (.putfield 22, 3) := okD_get dqa_44 14 rfl
theorem dX6_init_28 : decode cX6_init 28 = .ok (.aload_n 0, 1) := okD_get dqa_44 15 rfl
theorem dX6_init_29 : decode cX6_init 29 = .ok (.iconst 0, 1) := okD_get dqa_44 16 rfl
theorem dX6_init_30 : decode cX6_init 30 = .ok (.putfield 25, 3) := okD_get dqa_44 17 rfl
theorem dX6_init_33 : decode cX6_init 33 = .ok (.return_, 1) := okD_get dqa_44 18 rfl
theorem dqa_45 : okD cX6_append [(0, (.bipush 24, 2)), (2, (.istore_n 2, 1)), (3, (.iload_n 2, 1)), (4, (.ifCond .lt 45, 3)), (7, (.aload_n 0, 1)), (8, (.getfield 15, 3)), (11, (.sipush 200, 3)), (14, (.if_icmp .ge 29, 3)), (17, (.aload_n 0, 1)), (18, (.getfield 9, 3)), (21, (.aload_n 0, 1)), (22, (.getfield 15, 3)), (25, (.iload_n 1, 1)), (26, (.iload_n 2, 1)), (27, (.iushr, 1)), (28, (.sipush 255, 3)), (31, (.iand, 1)), (32, (.iastore, 1)), (33, (.aload_n 0, 1)), (34, (.dup, 1)), (35, (.getfield 15, 3)), (38, (.iconst 1, 1)), (39, (.iadd, 1)), (40, (.putfield 15, 3)), (43, (.iinc 2 (-8), 3)), (46, (.goto (-43), 3)), (49, (.return_, 1))] = true := by decide +kernel
theorem dX6_append_0 : decode cX6_append 0 = .ok (.bipush 24, 2) := okD_get dqa_45 0 rfl
theorem dX6_append_2 : decode cX6_append 2 = .ok (.istore_n 2, 1) := okD_get dqa_45 1 rfl
theorem dX6_append_3 : decode cX6_append 3 = .ok (.iload_n 2, 1) := okD_get dqa_45 2 rfl
theorem dX6_append_4 : decode cX6_append 4 = .ok (.ifCond .lt 45, 3) := okD_get dqa_45 3 rfl
theorem dX6_append_7 : decode cX6_append 7 = .ok (.aload_n 0, 1) := okD_get dqa_45 4 rfl
theorem dX6_append_8 : decode cX6_append 8 = .ok (.getfield 15, 3) := okD_get dqa_45 5 rfl
theorem dX6_append_11 : decode cX6_append 11 = .ok (.sipush 200, 3) := okD_get dqa_45 6 rfl
theorem dX6_append_14 : decode cX6_append 14 = .ok (.if_icmp .ge 29, 3) := okD_get dqa_45 7 rfl
theorem dX6_append_17 : decode cX6_append 17 = .ok (.aload_n 0, 1) := okD_get dqa_45 8 rfl
theorem dX6_append_18 : decode cX6_append 18 = .ok (.getfield 9, 3) := okD_get dqa_45 9 rfl
theorem dX6_append_21 : decode cX6_append 21 = .ok (.aload_n 0, 1) := okD_get dqa_45 10 rfl
theorem dX6_append_22 : decode cX6_append 22 = .ok (.getfield 15, 3) := okD_get dqa_45 11 rfl
theorem dX6_append_25 : decode cX6_append 25 = .ok (.iload_n 1, 1) := okD_get dqa_45 12 rfl
theorem dX6_append_26 : decode cX6_append 26 = .ok (.iload_n 2, 1) := okD_get dqa_45 13 rfl
theorem dX6_append_27 : decode cX6_append 27 = .ok (.iushr, 1) := okD_get dqa_45 14 rfl
theorem dX6_append_28 : decode cX6_append 28 = .ok (.sipush 255, 3) := okD_get dqa_45 15 rfl
theorem dX6_append_31 : decode cX6_append 31 = .ok (.iand, 1) := okD_get dqa_45 16 rfl
theorem dX6_append_32 : decode cX6_append 32 = .ok (.iastore, 1) := okD_get dqa_45 17 rfl
theorem dX6_append_33 : decode cX6_append 33 = .ok (.aload_n 0, 1) := okD_get dqa_45 18 rfl
theorem dX6_append_34 : decode cX6_append 34 = .ok (.dup, 1) := okD_get dqa_45 19 rfl
theorem dX6_append_35 : decode cX6_append 35 = .ok (.getfield 15, 3) := okD_get dqa_45 20 rfl
theorem dX6_append_38 : decode cX6_append 38 = .ok (.iconst 1, 1) := okD_get dqa_45 21 rfl
theorem dX6_append_39 : decode cX6_append 39 = .ok (.iadd, 1) := okD_get dqa_45 22 rfl
theorem dX6_append_40 : decode cX6_append 40 = .ok (.putfield 15, 3) := okD_get dqa_45 23 rfl
theorem dX6_append_43 : decode cX6_append 43 = .ok (.iinc 2 (-8), 3) := okD_get dqa_45 24 rfl
theorem dX6_append_46 : decode cX6_append 46 = .ok (.goto (-43), 3) := okD_get dqa_45 25 rfl
theorem dX6_append_49 : decode cX6_append 49 = .ok (.return_, 1) := okD_get dqa_45 26 rfl
theorem dqa_46 : okD cX6_parseInto [(0, (.aload_n 1, 1)), (1, (.iconst 0, 1)), (2, (.putfield 28, 3)), (5, (.aload_n 0, 1)), (6, (.iconst 0, 1)), (7, (.putfield 25, 3)), (10, (.aload_n 0, 1)), (11, (.invokevirtual 33, 3)), (14, (.aload_n 0, 1)), (15, (.getfield 19, 3)), (18, (.ifCond .ne 5, 3)), (21, (.iconst (-1), 1)), (22, (.ireturn, 1)), (23, (.iconst 0, 1)), (24, (.istore_n 2, 1)), (25, (.iload_n 2, 1)), (26, (.bipush 20, 2)), (28, (.if_icmp .ge 43, 3)), (31, (.aload_n 0, 1)), (32, (.aload_n 1, 1)), (33, (.invokevirtual 36, 3)), (36, (.ifCond .ne 8, 3)), (39, (.aload_n 0, 1)), (40, (.getfield 22, 3)), (43, (.ireturn, 1)), (44, (.aload_n 0, 1)), (45, (.getfield 19, 3)), (48, (.ifCond .ne 5, 3)), (51, (.iconst (-1), 1)), (52, (.ireturn, 1)), (53, (.aload_n 0, 1)), (54, (.invokevirtual 40, 3)), (57, (.ifCond .ne 8, 3)), (60, (.aload_n 0, 1)), (61, (.getfield 22, 3)), (64, (.ireturn, 1)), (65, (.iinc 2 1, 3)), (68, (.goto (-43), 3)), (71, (.aload_n 0, 1)), (72, (.getfield 22, 3))] = true := by decide +kernel
theorem dX6_parseInto_0 : decode cX6_parseInto 0 = .ok (.aload_n 1, 1) := okD_get dqa_46 0 rfl
theorem dX6_parseInto_1 : decode cX6_parseInto 1 = .ok (.iconst 0, 1) := okD_get dqa_46 1 rfl
theorem dX6_parseInto_2 : decode cX6_parseInto 2 = .ok (.putfield 28, 3) := okD_get dqa_46 2 rfl
theorem dX6_parseInto_5 : decode cX6_parseInto 5 = .ok (.aload_n 0, 1) := okD_get dqa_46 3 rfl
theorem dX6_parseInto_6 : decode cX6_parseInto 6 = .ok (.iconst 0, 1) := okD_get dqa_46 4 rfl
theorem dX6_parseInto_7 : decode cX6_parseInto 7 = .ok (.putfield 25, 3) := okD_get dqa_46 5 rfl
theorem dX6_parseInto_10 : decode cX6_parseInto 10 = .ok (.aload_n 0, 1) := okD_get dqa_46 6 rfl
theorem dX6_parseInto_11 : decode cX6_parseInto 11 = .ok (.invokevirtual 33, 3) := okD_get dqa_46 7 rfl
theorem dX6_parseInto_14 : decode cX6_parseInto 14 = .ok (.aload_n 0, 1) := okD_get dqa_46 8 rfl
theorem dX6_parseInto_15 : decode cX6_parseInto 15 = .ok (.getfield 19, 3) := okD_get dqa_46 9 rfl
theorem dX6_parseInto_18 : decode cX6_parseInto 18 = .ok (.ifCond .ne 5, 3) := okD_get dqa_46 10 rfl
theorem dX6_parseInto_21 : decode cX6_parseInto 21 = .ok (.iconst (-1), 1) := okD_get dqa_46 11 rfl
theorem dX6_parseInto_22 : decode cX6_parseInto 22 = .ok (.ireturn, 1) := okD_get dqa_46 12 rfl
theorem dX6_parseInto_23 : decode cX6_parseInto 23 = .ok (.iconst 0, 1) := okD_get dqa_46 13 rfl
theorem dX6_parseInto_24 : decode cX6_parseInto 24 = .ok (.istore_n 2, 1) := okD_get dqa_46 14 rfl
theorem dX6_parseInto_25 : decode cX6_parseInto 25 = .ok (.iload_n 2, 1) := okD_get dqa_46 15 rfl
theorem dX6_parseInto_26 : decode cX6_parseInto 26 = .ok (.bipush 20, 2) := okD_get dqa_46 16 rfl
theorem dX6_parseInto_28 : decode cX6_parseInto 28 = .ok (.if_icmp .ge 43, 3) := okD_get dqa_46 17 rfl
theorem dX6_parseInto_31 : decode cX6_parseInto 31 = .ok (.aload_n 0, 1) := okD_get dqa_46 18 rfl
theorem dX6_parseInto_32 : decode cX6_parseInto 32 = .ok (.aload_n 1, 1) := okD_get dqa_46 19 rfl
theorem dX6_parseInto_33 : decode cX6_parseInto 33 = .ok (.invokevirtual 36, 3) := okD_get dqa_46 20 rfl
theorem dX6_parseInto_36 : decode cX6_parseInto 36 = .ok (.ifCond .ne 8, 3) := okD_get dqa_46 21 rfl
theorem dX6_parseInto_39 : decode cX6_parseInto 39 = .ok (.aload_n 0, 1) := okD_get dqa_46 22 rfl
theorem dX6_parseInto_40 : decode cX6_parseInto 40 = .ok (.getfield 22, 3) := okD_get dqa_46 23 rfl
theorem dX6_parseInto_43 : decode cX6_parseInto 43 = .ok (.ireturn, 1) := okD_get dqa_46 24 rfl
theorem dX6_parseInto_44 : decode cX6_parseInto 44 = .ok (.aload_n 0, 1) := okD_get dqa_46 25 rfl
theorem dX6_parseInto_45 : decode cX6_parseInto 45 = .ok (.getfield 19, 3) := okD_get dqa_46 26 rfl
theorem dX6_parseInto_48 : decode cX6_parseInto 48 = .ok (.ifCond .ne 5, 3) := okD_get dqa_46 27 rfl
theorem dX6_parseInto_51 : decode cX6_parseInto 51 = .ok (.iconst (-1), 1) := okD_get dqa_46 28 rfl
theorem dX6_parseInto_52 : decode cX6_parseInto 52 = .ok (.ireturn, 1) := okD_get dqa_46 29 rfl
theorem dX6_parseInto_53 : decode cX6_parseInto 53 = .ok (.aload_n 0, 1) := okD_get dqa_46 30 rfl
theorem dX6_parseInto_54 : decode cX6_parseInto 54 = .ok (.invokevirtual 40, 3) := okD_get dqa_46 31 rfl
theorem dX6_parseInto_57 : decode cX6_parseInto 57 = .ok (.ifCond .ne 8, 3) := okD_get dqa_46 32 rfl
theorem dX6_parseInto_60 : decode cX6_parseInto 60 = .ok (.aload_n 0, 1) := okD_get dqa_46 33 rfl
theorem dX6_parseInto_61 : decode cX6_parseInto 61 = .ok (.getfield 22, 3) := okD_get dqa_46 34 rfl
theorem dX6_parseInto_64 : decode cX6_parseInto 64 = .ok (.ireturn, 1) := okD_get dqa_46 35 rfl
theorem dX6_parseInto_65 : decode cX6_parseInto 65 = .ok (.iinc 2 1, 3) := okD_get dqa_46 36 rfl
theorem dX6_parseInto_68 : decode cX6_parseInto 68 = .ok (.goto (-43), 3) := okD_get dqa_46 37 rfl
theorem dX6_parseInto_71 : decode cX6_parseInto 71 = .ok (.aload_n 0, 1) := okD_get dqa_46 38 rfl
theorem dX6_parseInto_72 : decode cX6_parseInto 72 = .ok (.getfield 22, 3) := okD_get dqa_46 39 rfl
theorem dqa_47 : okD cX6_parseInto [(75, (.ireturn, 1))] = true := by decide +kernel
theorem dX6_parseInto_75 : decode cX6_parseInto 75 = .ok (.ireturn, 1) := okD_get dqa_47 0 rfl
theorem dqa_48 : okD cX6_takeDecree [(0, (.aload_n 0, 1)), (1, (.invokevirtual 44, 3)), (4, (.istore_n 2, 1)), (5, (.iload_n 2, 1)), (6, (.iconst (-1), 1)), (7, (.if_icmp .ne 5, 3)), (10, (.iconst 0, 1)), (11, (.ireturn, 1)), (12, (.aload_n 0, 1)), (13, (.iconst 0, 1)), (14, (.invokevirtual 48, 3)), (17, (.istore_n 3, 1)), (18, (.iload_n 3, 1)), (19, (.iconst (-1), 1)), (20, (.if_icmp .ne 5, 3)), (23, (.iconst 0, 1)), (24, (.ireturn, 1)), (25, (.iload_n 2, 1)), (26, (.iconst 2, 1)), (27, (.if_icmp .ne 13, 3)), (30, (.aload_n 1, 1)), (31, (.iload_n 2, 1)), (32, (.iconst 0, 1)), (33, (.iconst 1, 1)), (34, (.iload_n 3, 1)), (35, (.invokevirtual 52, 3)), (38, (.iconst 1, 1)), (39, (.ireturn, 1)), (40, (.aload_n 0, 1)), (41, (.ldc 56, 2)), (43, (.invokevirtual 58, 3)), (46, (.ifCond .ne 5, 3)), (49, (.iconst 0, 1)), (50, (.ireturn, 1)), (51, (.aload_n 0, 1)), (52, (.iconst 1, 1)), (53, (.iload_n 3, 1)), (54, (.invokestatic 62, 3)), (57, (.invokevirtual 48, 3)), (60, (.istore 4, 2))] = true := by decide +kernel
theorem dX6_takeDecree_0 : decode cX6_takeDecree 0 = .ok (.aload_n 0, 1) := okD_get dqa_48 0 rfl
theorem dX6_takeDecree_1 : decode cX6_takeDecree 1 = .ok (.invokevirtual 44, 3) := okD_get dqa_48 1 rfl
theorem dX6_takeDecree_4 : decode cX6_takeDecree 4 = .ok (.istore_n 2, 1) := okD_get dqa_48 2 rfl
theorem dX6_takeDecree_5 : decode cX6_takeDecree 5 = .ok (.iload_n 2, 1) := okD_get dqa_48 3 rfl
theorem dX6_takeDecree_6 : decode cX6_takeDecree 6 = .ok (.iconst (-1), 1) := okD_get dqa_48 4 rfl
theorem dX6_takeDecree_7 : decode cX6_takeDecree 7 = .ok (.if_icmp .ne 5, 3) := okD_get dqa_48 5 rfl
theorem dX6_takeDecree_10 : decode cX6_takeDecree 10 = .ok (.iconst 0, 1) := okD_get dqa_48 6 rfl
theorem dX6_takeDecree_11 : decode cX6_takeDecree 11 = .ok (.ireturn, 1) := okD_get dqa_48 7 rfl
theorem dX6_takeDecree_12 : decode cX6_takeDecree 12 = .ok (.aload_n 0, 1) := okD_get dqa_48 8 rfl
theorem dX6_takeDecree_13 : decode cX6_takeDecree 13 = .ok (.iconst 0, 1) := okD_get dqa_48 9 rfl
theorem dX6_takeDecree_14 : decode cX6_takeDecree 14 = .ok (.invokevirtual 48, 3) := okD_get dqa_48 10 rfl
theorem dX6_takeDecree_17 : decode cX6_takeDecree 17 = .ok (.istore_n 3, 1) := okD_get dqa_48 11 rfl
theorem dX6_takeDecree_18 : decode cX6_takeDecree 18 = .ok (.iload_n 3, 1) := okD_get dqa_48 12 rfl
theorem dX6_takeDecree_19 : decode cX6_takeDecree 19 = .ok (.iconst (-1), 1) := okD_get dqa_48 13 rfl
theorem dX6_takeDecree_20 : decode cX6_takeDecree 20 = .ok (.if_icmp .ne 5, 3) := okD_get dqa_48 14 rfl
theorem dX6_takeDecree_23 : decode cX6_takeDecree 23 = .ok (.iconst 0, 1) := okD_get dqa_48 15 rfl
theorem dX6_takeDecree_24 : decode cX6_takeDecree 24 = .ok (.ireturn, 1) := okD_get dqa_48 16 rfl
theorem dX6_takeDecree_25 : decode cX6_takeDecree 25 = .ok (.iload_n 2, 1) := okD_get dqa_48 17 rfl
theorem dX6_takeDecree_26 : decode cX6_takeDecree 26 = .ok (.iconst 2, 1) := okD_get dqa_48 18 rfl
theorem dX6_takeDecree_27 : decode cX6_takeDecree 27 = .ok (.if_icmp .ne 13, 3) := okD_get dqa_48 19 rfl
theorem dX6_takeDecree_30 : decode cX6_takeDecree 30 = .ok (.aload_n 1, 1) := okD_get dqa_48 20 rfl
theorem dX6_takeDecree_31 : decode cX6_takeDecree 31 = .ok (.iload_n 2, 1) := okD_get dqa_48 21 rfl
theorem dX6_takeDecree_32 : decode cX6_takeDecree 32 = .ok (.iconst 0, 1) := okD_get dqa_48 22 rfl
theorem dX6_takeDecree_33 : decode cX6_takeDecree 33 = .ok (.iconst 1, 1) := okD_get dqa_48 23 rfl
theorem dX6_takeDecree_34 : decode cX6_takeDecree 34 = .ok (.iload_n 3, 1) := okD_get dqa_48 24 rfl
theorem dX6_takeDecree_35 : decode cX6_takeDecree 35 = .ok (.invokevirtual 52, 3) := okD_get dqa_48 25 rfl
theorem dX6_takeDecree_38 : decode cX6_takeDecree 38 = .ok (.iconst 1, 1) := okD_get dqa_48 26 rfl
theorem dX6_takeDecree_39 : decode cX6_takeDecree 39 = .ok (.ireturn, 1) := okD_get dqa_48 27 rfl
theorem dX6_takeDecree_40 : decode cX6_takeDecree 40 = .ok (.aload_n 0, 1) := okD_get dqa_48 28 rfl
theorem dX6_takeDecree_41 : decode cX6_takeDecree 41 = .ok (.ldc 56, 2) := okD_get dqa_48 29 rfl
theorem dX6_takeDecree_43 : decode cX6_takeDecree 43 = .ok (.invokevirtual 58, 3) := okD_get dqa_48 30 rfl
theorem dX6_takeDecree_46 : decode cX6_takeDecree 46 = .ok (.ifCond .ne 5, 3) := okD_get dqa_48 31 rfl
theorem dX6_takeDecree_49 : decode cX6_takeDecree 49 = .ok (.iconst 0, 1) := okD_get dqa_48 32 rfl
theorem dX6_takeDecree_50 : decode cX6_takeDecree 50 = .ok (.ireturn, 1) := okD_get dqa_48 33 rfl
theorem dX6_takeDecree_51 : decode cX6_takeDecree 51 = .ok (.aload_n 0, 1) := okD_get dqa_48 34 rfl
theorem dX6_takeDecree_52 : decode cX6_takeDecree 52 = .ok (.iconst 1, 1) := okD_get dqa_48 35 rfl
theorem dX6_takeDecree_53 : decode cX6_takeDecree 53 = .ok (.iload_n 3, 1) := okD_get dqa_48 36 rfl
theorem dX6_takeDecree_54 : decode cX6_takeDecree 54 = .ok (.invokestatic 62, 3) := okD_get dqa_48 37 rfl
theorem dX6_takeDecree_57 : decode cX6_takeDecree 57 = .ok (.invokevirtual 48, 3) := okD_get dqa_48 38 rfl
theorem dX6_takeDecree_60 : decode cX6_takeDecree 60 = .ok (.istore 4, 2) := okD_get dqa_48 39 rfl
theorem dqa_49 : okD cX6_takeDecree [(62, (.iload 4, 2)), (64, (.iconst (-1), 1)), (65, (.if_icmp .ne 5, 3)), (68, (.iconst 0, 1)), (69, (.ireturn, 1)), (70, (.aload_n 0, 1)), (71, (.iload_n 2, 1)), (72, (.invokevirtual 68, 3)), (75, (.istore 5, 2)), (77, (.iload 5, 2)), (79, (.iconst (-1), 1)), (80, (.if_icmp .ne 5, 3)), (83, (.iconst 0, 1)), (84, (.ireturn, 1)), (85, (.aload_n 1, 1)), (86, (.iload_n 2, 1)), (87, (.iload_n 3, 1)), (88, (.iload 4, 2)), (90, (.iload 5, 2)), (92, (.invokevirtual 52, 3)), (95, (.iconst 1, 1)), (96, (.ireturn, 1))] = true := by decide +kernel
theorem dX6_takeDecree_62 : decode cX6_takeDecree 62 = .ok (.iload 4, 2) := okD_get dqa_49 0 rfl
theorem dX6_takeDecree_64 : decode cX6_takeDecree 64 = .ok (.iconst (-1), 1) := okD_get dqa_49 1 rfl
theorem dX6_takeDecree_65 : decode cX6_takeDecree 65 = .ok (.if_icmp .ne 5, 3) := okD_get dqa_49 2 rfl
theorem dX6_takeDecree_68 : decode cX6_takeDecree 68 = .ok (.iconst 0, 1) := okD_get dqa_49 3 rfl
theorem dX6_takeDecree_69 : decode cX6_takeDecree 69 = .ok (.ireturn, 1) := okD_get dqa_49 4 rfl
theorem dX6_takeDecree_70 : decode cX6_takeDecree 70 = .ok (.aload_n 0, 1) := okD_get dqa_49 5 rfl
theorem dX6_takeDecree_71 : decode cX6_takeDecree 71 = .ok (.iload_n 2, 1) := okD_get dqa_49 6 rfl
theorem dX6_takeDecree_72 : decode cX6_takeDecree 72 = .ok (.invokevirtual 68, 3) := okD_get dqa_49 7 rfl
theorem dX6_takeDecree_75 : decode cX6_takeDecree 75 = .ok (.istore 5, 2) := okD_get dqa_49 8 rfl
theorem dX6_takeDecree_77 : decode cX6_takeDecree 77 = .ok (.iload 5, 2) := okD_get dqa_49 9 rfl
theorem dX6_takeDecree_79 : decode cX6_takeDecree 79 = .ok (.iconst (-1), 1) := okD_get dqa_49 10 rfl
theorem dX6_takeDecree_80 : decode cX6_takeDecree 80 = .ok (.if_icmp .ne 5, 3) := okD_get dqa_49 11 rfl
theorem dX6_takeDecree_83 : decode cX6_takeDecree 83 = .ok (.iconst 0, 1) := okD_get dqa_49 12 rfl
theorem dX6_takeDecree_84 : decode cX6_takeDecree 84 = .ok (.ireturn, 1) := okD_get dqa_49 13 rfl
theorem dX6_takeDecree_85 : decode cX6_takeDecree 85 = .ok (.aload_n 1, 1) := okD_get dqa_49 14 rfl
theorem dX6_takeDecree_86 : decode cX6_takeDecree 86 = .ok (.iload_n 2, 1) := okD_get dqa_49 15 rfl
theorem dX6_takeDecree_87 : decode cX6_takeDecree 87 = .ok (.iload_n 3, 1) := okD_get dqa_49 16 rfl
theorem dX6_takeDecree_88 : decode cX6_takeDecree 88 = .ok (.iload 4, 2) := okD_get dqa_49 17 rfl
theorem dX6_takeDecree_90 : decode cX6_takeDecree 90 = .ok (.iload 5, 2) := okD_get dqa_49 18 rfl
theorem dX6_takeDecree_92 : decode cX6_takeDecree 92 = .ok (.invokevirtual 52, 3) := okD_get dqa_49 19 rfl
theorem dX6_takeDecree_95 : decode cX6_takeDecree 95 = .ok (.iconst 1, 1) := okD_get dqa_49 20 rfl
theorem dX6_takeDecree_96 : decode cX6_takeDecree 96 = .ok (.ireturn, 1) := okD_get dqa_49 21 rfl
theorem dqa_50 : okD cX6_takeDecreeKind [(0, (.aload_n 0, 1)), (1, (.ldc 71, 2)), (3, (.invokevirtual 58, 3)), (6, (.ifCond .eq 5, 3)), (9, (.iconst 0, 1)), (10, (.ireturn, 1)), (11, (.aload_n 0, 1)), (12, (.ldc 73, 2)), (14, (.invokevirtual 58, 3)), (17, (.ifCond .eq 5, 3)), (20, (.iconst 1, 1)), (21, (.ireturn, 1)), (22, (.aload_n 0, 1)), (23, (.ldc 75, 2)), (25, (.invokevirtual 58, 3)), (28, (.ifCond .eq 5, 3)), (31, (.iconst 2, 1)), (32, (.ireturn, 1)), (33, (.aload_n 0, 1)), (34, (.ldc 77, 2)), (36, (.invokevirtual 58, 3)), (39, (.ifCond .eq 7, 3)), (42, (.iconst 3, 1)), (43, (.goto 4, 3)), (46, (.iconst (-1), 1)), (47, (.ireturn, 1))] = true := by decide +kernel
theorem dX6_takeDecreeKind_0 : decode cX6_takeDecreeKind 0 = .ok (.aload_n 0, 1) := okD_get dqa_50 0 rfl
theorem dX6_takeDecreeKind_1 : decode cX6_takeDecreeKind 1 = .ok (.ldc 71, 2) := okD_get dqa_50 1 rfl
theorem dX6_takeDecreeKind_3 : decode cX6_takeDecreeKind 3 = .ok (.invokevirtual 58, 3) := okD_get dqa_50 2 rfl
theorem dX6_takeDecreeKind_6 : decode cX6_takeDecreeKind 6 = .ok (.ifCond .eq 5, 3) := okD_get dqa_50 3 rfl
theorem dX6_takeDecreeKind_9 : decode cX6_takeDecreeKind 9 = .ok (.iconst 0, 1) := okD_get dqa_50 4 rfl
theorem dX6_takeDecreeKind_10 : decode cX6_takeDecreeKind 10 = .ok (.ireturn, 1) := okD_get dqa_50 5 rfl
theorem dX6_takeDecreeKind_11 : decode cX6_takeDecreeKind 11 = .ok (.aload_n 0, 1) := okD_get dqa_50 6 rfl
theorem dX6_takeDecreeKind_12 : decode cX6_takeDecreeKind 12 = .ok (.ldc 73, 2) := okD_get dqa_50 7 rfl
theorem dX6_takeDecreeKind_14 : decode cX6_takeDecreeKind 14 = .ok (.invokevirtual 58, 3) := okD_get dqa_50 8 rfl
theorem dX6_takeDecreeKind_17 : decode cX6_takeDecreeKind 17 = .ok (.ifCond .eq 5, 3) := okD_get dqa_50 9 rfl
theorem dX6_takeDecreeKind_20 : decode cX6_takeDecreeKind 20 = .ok (.iconst 1, 1) := okD_get dqa_50 10 rfl
theorem dX6_takeDecreeKind_21 : decode cX6_takeDecreeKind 21 = .ok (.ireturn, 1) := okD_get dqa_50 11 rfl
theorem dX6_takeDecreeKind_22 : decode cX6_takeDecreeKind 22 = .ok (.aload_n 0, 1) := okD_get dqa_50 12 rfl
theorem dX6_takeDecreeKind_23 : decode cX6_takeDecreeKind 23 = .ok (.ldc 75, 2) := okD_get dqa_50 13 rfl
theorem dX6_takeDecreeKind_25 : decode cX6_takeDecreeKind 25 = .ok (.invokevirtual 58, 3) := okD_get dqa_50 14 rfl
theorem dX6_takeDecreeKind_28 : decode cX6_takeDecreeKind 28 = .ok (.ifCond .eq 5, 3) := okD_get dqa_50 15 rfl
theorem dX6_takeDecreeKind_31 : decode cX6_takeDecreeKind 31 = .ok (.iconst 2, 1) := okD_get dqa_50 16 rfl
theorem dX6_takeDecreeKind_32 : decode cX6_takeDecreeKind 32 = .ok (.ireturn, 1) := okD_get dqa_50 17 rfl
theorem dX6_takeDecreeKind_33 : decode cX6_takeDecreeKind 33 = .ok (.aload_n 0, 1) := okD_get dqa_50 18 rfl
theorem dX6_takeDecreeKind_34 : decode cX6_takeDecreeKind 34 = .ok (.ldc 77, 2) := okD_get dqa_50 19 rfl
theorem dX6_takeDecreeKind_36 : decode cX6_takeDecreeKind 36 = .ok (.invokevirtual 58, 3) := okD_get dqa_50 20 rfl
theorem dX6_takeDecreeKind_39 : decode cX6_takeDecreeKind 39 = .ok (.ifCond .eq 7, 3) := okD_get dqa_50 21 rfl
theorem dX6_takeDecreeKind_42 : decode cX6_takeDecreeKind 42 = .ok (.iconst 3, 1) := okD_get dqa_50 22 rfl
theorem dX6_takeDecreeKind_43 : decode cX6_takeDecreeKind 43 = .ok (.goto 4, 3) := okD_get dqa_50 23 rfl
theorem dX6_takeDecreeKind_46 : decode cX6_takeDecreeKind 46 = .ok (.iconst (-1), 1) := okD_get dqa_50 24 rfl
theorem dX6_takeDecreeKind_47 : decode cX6_takeDecreeKind 47 = .ok (.ireturn, 1) := okD_get dqa_50 25 rfl
theorem dqa_51 : okD cX6_takeBound [(0, (.iload_n 1, 1)), (1, (.iconst 3, 1)), (2, (.if_icmp .ne 5, 3)), (5, (.iconst 0, 1)), (6, (.ireturn, 1)), (7, (.iload_n 1, 1)), (8, (.ifCond .ne 12, 3)), (11, (.aload_n 0, 1)), (12, (.ldc 79, 2)), (14, (.invokevirtual 58, 3)), (17, (.goto 9, 3)), (20, (.aload_n 0, 1)), (21, (.ldc 81, 2)), (23, (.invokevirtual 58, 3)), (26, (.istore_n 2, 1)), (27, (.iload_n 2, 1)), (28, (.ifCond .eq 11, 3)), (31, (.aload_n 0, 1)), (32, (.iconst 0, 1)), (33, (.invokevirtual 48, 3)), (36, (.goto 4, 3)), (39, (.iconst (-1), 1)), (40, (.ireturn, 1))] = true := by decide +kernel
theorem dX6_takeBound_0 : decode cX6_takeBound 0 = .ok (.iload_n 1, 1) := okD_get dqa_51 0 rfl
theorem dX6_takeBound_1 : decode cX6_takeBound 1 = .ok (.iconst 3, 1) := okD_get dqa_51 1 rfl
theorem dX6_takeBound_2 : decode cX6_takeBound 2 = .ok (.if_icmp .ne 5, 3) := okD_get dqa_51 2 rfl
theorem dX6_takeBound_5 : decode cX6_takeBound 5 = .ok (.iconst 0, 1) := okD_get dqa_51 3 rfl
theorem dX6_takeBound_6 : decode cX6_takeBound 6 = .ok (.ireturn, 1) := okD_get dqa_51 4 rfl
theorem dX6_takeBound_7 : decode cX6_takeBound 7 = .ok (.iload_n 1, 1) := okD_get dqa_51 5 rfl
theorem dX6_takeBound_8 : decode cX6_takeBound 8 = .ok (.ifCond .ne 12, 3) := okD_get dqa_51 6 rfl
theorem dX6_takeBound_11 : decode cX6_takeBound 11 = .ok (.aload_n 0, 1) := okD_get dqa_51 7 rfl
theorem dX6_takeBound_12 : decode cX6_takeBound 12 = .ok (.ldc 79, 2) := okD_get dqa_51 8 rfl
theorem dX6_takeBound_14 : decode cX6_takeBound 14 = .ok (.invokevirtual 58, 3) := okD_get dqa_51 9 rfl
theorem dX6_takeBound_17 : decode cX6_takeBound 17 = .ok (.goto 9, 3) := okD_get dqa_51 10 rfl
theorem dX6_takeBound_20 : decode cX6_takeBound 20 = .ok (.aload_n 0, 1) := okD_get dqa_51 11 rfl
theorem dX6_takeBound_21 : decode cX6_takeBound 21 = .ok (.ldc 81, 2) := okD_get dqa_51 12 rfl
theorem dX6_takeBound_23 : decode cX6_takeBound 23 = .ok (.invokevirtual 58, 3) := okD_get dqa_51 13 rfl
theorem dX6_takeBound_26 : decode cX6_takeBound 26 = .ok (.istore_n 2, 1) := okD_get dqa_51 14 rfl
theorem dX6_takeBound_27 : decode cX6_takeBound 27 = .ok (.iload_n 2, 1) := okD_get dqa_51 15 rfl
theorem dX6_takeBound_28 : decode cX6_takeBound 28 = .ok (.ifCond .eq 11, 3) := okD_get dqa_51 16 rfl
theorem dX6_takeBound_31 : decode cX6_takeBound 31 = .ok (.aload_n 0, 1) := okD_get dqa_51 17 rfl
theorem dX6_takeBound_32 : decode cX6_takeBound 32 = .ok (.iconst 0, 1) := okD_get dqa_51 18 rfl
theorem dX6_takeBound_33 : decode cX6_takeBound 33 = .ok (.invokevirtual 48, 3) := okD_get dqa_51 19 rfl
theorem dX6_takeBound_36 : decode cX6_takeBound 36 = .ok (.goto 4, 3) := okD_get dqa_51 20 rfl
theorem dX6_takeBound_39 : decode cX6_takeBound 39 = .ok (.iconst (-1), 1) := okD_get dqa_51 21 rfl
theorem dX6_takeBound_40 : decode cX6_takeBound 40 = .ok (.ireturn, 1) := okD_get dqa_51 22 rfl
theorem dqa_52 : okD cX6_takeNumber [(0, (.aload_n 0, 1)), (1, (.getfield 19, 3)), (4, (.iconst 2, 1)), (5, (.if_icmp .eq 5, 3)), (8, (.iconst (-1), 1)), (9, (.ireturn, 1)), (10, (.aload_n 0, 1)), (11, (.invokevirtual 83, 3)), (14, (.istore_n 2, 1)), (15, (.iload_n 2, 1)), (16, (.iload_n 1, 1)), (17, (.if_icmp .lt 10, 3)), (20, (.iload_n 2, 1)), (21, (.sipush 10000, 3)), (24, (.if_icmp .le 5, 3)), (27, (.iconst (-1), 1)), (28, (.ireturn, 1)), (29, (.aload_n 0, 1)), (30, (.invokevirtual 33, 3)), (33, (.iload_n 2, 1)), (34, (.ireturn, 1))] = true := by decide +kernel
theorem dX6_takeNumber_0 : decode cX6_takeNumber 0 = .ok (.aload_n 0, 1) := okD_get dqa_52 0 rfl
theorem dX6_takeNumber_1 : decode cX6_takeNumber 1 = .ok (.getfield 19, 3) := okD_get dqa_52 1 rfl
theorem dX6_takeNumber_4 : decode cX6_takeNumber 4 = .ok (.iconst 2, 1) := okD_get dqa_52 2 rfl
theorem dX6_takeNumber_5 : decode cX6_takeNumber 5 = .ok (.if_icmp .eq 5, 3) := okD_get dqa_52 3 rfl
theorem dX6_takeNumber_8 : decode cX6_takeNumber 8 = .ok (.iconst (-1), 1) := okD_get dqa_52 4 rfl
theorem dX6_takeNumber_9 : decode cX6_takeNumber 9 = .ok (.ireturn, 1) := okD_get dqa_52 5 rfl
theorem dX6_takeNumber_10 : decode cX6_takeNumber 10 = .ok (.aload_n 0, 1) := okD_get dqa_52 6 rfl
theorem dX6_takeNumber_11 : decode cX6_takeNumber 11 = .ok (.invokevirtual 83, 3) := okD_get dqa_52 7 rfl
theorem dX6_takeNumber_14 : decode cX6_takeNumber 14 = .ok (.istore_n 2, 1) := okD_get dqa_52 8 rfl
theorem dX6_takeNumber_15 : decode cX6_takeNumber 15 = .ok (.iload_n 2, 1) := okD_get dqa_52 9 rfl
theorem dX6_takeNumber_16 : decode cX6_takeNumber 16 = .ok (.iload_n 1, 1) := okD_get dqa_52 10 rfl
theorem dX6_takeNumber_17 : decode cX6_takeNumber 17 = .ok (.if_icmp .lt 10, 3) := okD_get dqa_52 11 rfl
theorem dX6_takeNumber_20 : decode cX6_takeNumber 20 = .ok (.iload_n 2, 1) := okD_get dqa_52 12 rfl
theorem dX6_takeNumber_21 : decode cX6_takeNumber 21 = .ok (.sipush 10000, 3) := okD_get dqa_52 13 rfl
theorem dX6_takeNumber_24 : decode cX6_takeNumber 24 = .ok (.if_icmp .le 5, 3) := okD_get dqa_52 14 rfl
theorem dX6_takeNumber_27 : decode cX6_takeNumber 27 = .ok (.iconst (-1), 1) := okD_get dqa_52 15 rfl
theorem dX6_takeNumber_28 : decode cX6_takeNumber 28 = .ok (.ireturn, 1) := okD_get dqa_52 16 rfl
theorem dX6_takeNumber_29 : decode cX6_takeNumber 29 = .ok (.aload_n 0, 1) := okD_get dqa_52 17 rfl
theorem dX6_takeNumber_30 : decode cX6_takeNumber 30 = .ok (.invokevirtual 33, 3) := okD_get dqa_52 18 rfl
theorem dX6_takeNumber_33 : decode cX6_takeNumber 33 = .ok (.iload_n 2, 1) := okD_get dqa_52 19 rfl
theorem dX6_takeNumber_34 : decode cX6_takeNumber 34 = .ok (.ireturn, 1) := okD_get dqa_52 20 rfl
theorem dqa_53 : okD cX6_numberAhead [(0, (.iconst 0, 1)), (1, (.istore_n 1, 1)), (2, (.aload_n 0, 1)), (3, (.getfield 22, 3)), (6, (.istore_n 2, 1)), (7, (.iload_n 2, 1)), (8, (.aload_n 0, 1)), (9, (.getfield 25, 3)), (12, (.if_icmp .ge 30, 3)), (15, (.iload_n 1, 1)), (16, (.bipush 10, 2)), (18, (.imul, 1)), (19, (.aload_n 0, 1)), (20, (.getfield 9, 3)), (23, (.iload_n 2, 1)), (24, (.iaload, 1)), (25, (.iadd, 1)), (26, (.bipush 48, 2)), (28, (.isub, 1)), (29, (.sipush 10001, 3)), (32, (.invokestatic 86, 3)), (35, (.istore_n 1, 1)), (36, (.iinc 2 1, 3)), (39, (.goto (-32), 3)), (42, (.iload_n 1, 1)), (43, (.ireturn, 1))] = true := by decide +kernel
theorem dX6_numberAhead_0 : decode cX6_numberAhead 0 = .ok (.iconst 0, 1) := okD_get dqa_53 0 rfl
theorem dX6_numberAhead_1 : decode cX6_numberAhead 1 = .ok (.istore_n 1, 1) := okD_get dqa_53 1 rfl
theorem dX6_numberAhead_2 : decode cX6_numberAhead 2 = .ok (.aload_n 0, 1) := okD_get dqa_53 2 rfl
theorem dX6_numberAhead_3 : decode cX6_numberAhead 3 = .ok (.getfield 22, 3) := okD_get dqa_53 3 rfl
theorem dX6_numberAhead_6 : decode cX6_numberAhead 6 = .ok (.istore_n 2, 1) := okD_get dqa_53 4 rfl
theorem dX6_numberAhead_7 : decode cX6_numberAhead 7 = .ok (.iload_n 2, 1) := okD_get dqa_53 5 rfl
theorem dX6_numberAhead_8 : decode cX6_numberAhead 8 = .ok (.aload_n 0, 1) := okD_get dqa_53 6 rfl
theorem dX6_numberAhead_9 : decode cX6_numberAhead 9 = .ok (.getfield 25, 3) := okD_get dqa_53 7 rfl
theorem dX6_numberAhead_12 : decode cX6_numberAhead 12 = .ok (.if_icmp .ge 30, 3) := okD_get dqa_53 8 rfl
theorem dX6_numberAhead_15 : decode cX6_numberAhead 15 = .ok (.iload_n 1, 1) := okD_get dqa_53 9 rfl
theorem dX6_numberAhead_16 : decode cX6_numberAhead 16 = .ok (.bipush 10, 2) := okD_get dqa_53 10 rfl
theorem dX6_numberAhead_18 : decode cX6_numberAhead 18 = .ok (.imul, 1) := okD_get dqa_53 11 rfl
theorem dX6_numberAhead_19 : decode cX6_numberAhead 19 = .ok (.aload_n 0, 1) := okD_get dqa_53 12 rfl
theorem dX6_numberAhead_20 : decode cX6_numberAhead 20 = .ok (.getfield 9, 3) := okD_get dqa_53 13 rfl
theorem dX6_numberAhead_23 : decode cX6_numberAhead 23 = .ok (.iload_n 2, 1) := okD_get dqa_53 14 rfl
theorem dX6_numberAhead_24 : decode cX6_numberAhead 24 = .ok (.iaload, 1) := okD_get dqa_53 15 rfl
theorem dX6_numberAhead_25 : decode cX6_numberAhead 25 = .ok (.iadd, 1) := okD_get dqa_53 16 rfl
theorem dX6_numberAhead_26 : decode cX6_numberAhead 26 = .ok (.bipush 48, 2) := okD_get dqa_53 17 rfl
theorem dX6_numberAhead_28 : decode cX6_numberAhead 28 = .ok (.isub, 1) := okD_get dqa_53 18 rfl
theorem dX6_numberAhead_29 : decode cX6_numberAhead 29 = .ok (.sipush 10001, 3) := okD_get dqa_53 19 rfl
theorem dX6_numberAhead_32 : decode cX6_numberAhead 32 = .ok (.invokestatic 86, 3) := okD_get dqa_53 20 rfl
theorem dX6_numberAhead_35 : decode cX6_numberAhead 35 = .ok (.istore_n 1, 1) := okD_get dqa_53 21 rfl
theorem dX6_numberAhead_36 : decode cX6_numberAhead 36 = .ok (.iinc 2 1, 3) := okD_get dqa_53 22 rfl
theorem dX6_numberAhead_39 : decode cX6_numberAhead 39 = .ok (.goto (-32), 3) := okD_get dqa_53 23 rfl
theorem dX6_numberAhead_42 : decode cX6_numberAhead 42 = .ok (.iload_n 1, 1) := okD_get dqa_53 24 rfl
theorem dX6_numberAhead_43 : decode cX6_numberAhead 43 = .ok (.ireturn, 1) := okD_get dqa_53 25 rfl
theorem dqa_54 : okD cX6_takeWord [(0, (.aload_n 0, 1)), (1, (.getfield 19, 3)), (4, (.iconst 1, 1)), (5, (.if_icmp .ne 19, 3)), (8, (.aload_n 0, 1)), (9, (.getfield 25, 3)), (12, (.aload_n 0, 1)), (13, (.getfield 22, 3)), (16, (.isub, 1)), (17, (.aload_n 1, 1)), (18, (.invokevirtual 89, 3)), (21, (.if_icmp .eq 5, 3)), (24, (.iconst 0, 1)), (25, (.ireturn, 1)), (26, (.iconst 0, 1)), (27, (.istore_n 2, 1)), (28, (.iload_n 2, 1)), (29, (.aload_n 1, 1)), (30, (.invokevirtual 89, 3)), (33, (.if_icmp .ge 30, 3)), (36, (.aload_n 0, 1)), (37, (.getfield 9, 3)), (40, (.aload_n 0, 1)), (41, (.getfield 22, 3)), (44, (.iload_n 2, 1)), (45, (.iadd, 1)), (46, (.iaload, 1)), (47, (.aload_n 1, 1)), (48, (.iload_n 2, 1)), (49, (.invokevirtual 93, 3)), (52, (.if_icmp .eq 5, 3)), (55, (.iconst 0, 1)), (56, (.ireturn, 1)), (57, (.iinc 2 1, 3)), (60, (.goto (-32), 3)), (63, (.aload_n 0, 1)), (64, (.invokevirtual 33, 3)), (67, (.iconst 1, 1)), (68, (.ireturn, 1))] = true := by decide +kernel
theorem dX6_takeWord_0 : decode cX6_takeWord 0 = .ok (.aload_n 0, 1) := okD_get dqa_54 0 rfl
theorem dX6_takeWord_1 : decode cX6_takeWord 1 = .ok (.getfield 19, 3) := okD_get dqa_54 1 rfl
theorem dX6_takeWord_4 : decode cX6_takeWord 4 = .ok (.iconst 1, 1) := okD_get dqa_54 2 rfl
theorem dX6_takeWord_5 : decode cX6_takeWord 5 = .ok (.if_icmp .ne 19, 3) := okD_get dqa_54 3 rfl
theorem dX6_takeWord_8 : decode cX6_takeWord 8 = .ok (.aload_n 0, 1) := okD_get dqa_54 4 rfl
theorem dX6_takeWord_9 : decode cX6_takeWord 9 = .ok (.getfield 25, 3) := okD_get dqa_54 5 rfl
theorem dX6_takeWord_12 : decode cX6_takeWord 12 = .ok (.aload_n 0, 1) := okD_get dqa_54 6 rfl
theorem dX6_takeWord_13 : decode cX6_takeWord 13 = .ok (.getfield 22, 3) := okD_get dqa_54 7 rfl
theorem dX6_takeWord_16 : decode cX6_takeWord 16 = .ok (.isub, 1) := okD_get dqa_54 8 rfl
theorem dX6_takeWord_17 : decode cX6_takeWord 17 = .ok (.aload_n 1, 1) := okD_get dqa_54 9 rfl
theorem dX6_takeWord_18 : decode cX6_takeWord 18 = .ok (.invokevirtual 89, 3) := okD_get dqa_54 10 rfl
theorem dX6_takeWord_21 : decode cX6_takeWord 21 = .ok (.if_icmp .eq 5, 3) := okD_get dqa_54 11 rfl
theorem dX6_takeWord_24 : decode cX6_takeWord 24 = .ok (.iconst 0, 1) := okD_get dqa_54 12 rfl
theorem dX6_takeWord_25 : decode cX6_takeWord 25 = .ok (.ireturn, 1) := okD_get dqa_54 13 rfl
theorem dX6_takeWord_26 : decode cX6_takeWord 26 = .ok (.iconst 0, 1) := okD_get dqa_54 14 rfl
theorem dX6_takeWord_27 : decode cX6_takeWord 27 = .ok (.istore_n 2, 1) := okD_get dqa_54 15 rfl
theorem dX6_takeWord_28 : decode cX6_takeWord 28 = .ok (.iload_n 2, 1) := okD_get dqa_54 16 rfl
theorem dX6_takeWord_29 : decode cX6_takeWord 29 = .ok (.aload_n 1, 1) := okD_get dqa_54 17 rfl
theorem dX6_takeWord_30 : decode cX6_takeWord 30 = .ok (.invokevirtual 89, 3) := okD_get dqa_54 18 rfl
theorem dX6_takeWord_33 : decode cX6_takeWord 33 = .ok (.if_icmp .ge 30, 3) := okD_get dqa_54 19 rfl
theorem dX6_takeWord_36 : decode cX6_takeWord 36 = .ok (.aload_n 0, 1) := okD_get dqa_54 20 rfl
theorem dX6_takeWord_37 : decode cX6_takeWord 37 = .ok (.getfield 9, 3) := okD_get dqa_54 21 rfl
theorem dX6_takeWord_40 : decode cX6_takeWord 40 = .ok (.aload_n 0, 1) := okD_get dqa_54 22 rfl
theorem dX6_takeWord_41 : decode cX6_takeWord 41 = .ok (.getfield 22, 3) := okD_get dqa_54 23 rfl
theorem dX6_takeWord_44 : decode cX6_takeWord 44 = .ok (.iload_n 2, 1) := okD_get dqa_54 24 rfl
theorem dX6_takeWord_45 : decode cX6_takeWord 45 = .ok (.iadd, 1) := okD_get dqa_54 25 rfl
theorem dX6_takeWord_46 : decode cX6_takeWord 46 = .ok (.iaload, 1) := okD_get dqa_54 26 rfl
theorem dX6_takeWord_47 : decode cX6_takeWord 47 = .ok (.aload_n 1, 1) := okD_get dqa_54 27 rfl
theorem dX6_takeWord_48 : decode cX6_takeWord 48 = .ok (.iload_n 2, 1) := okD_get dqa_54 28 rfl
theorem dX6_takeWord_49 : decode cX6_takeWord 49 = .ok (.invokevirtual 93, 3) := okD_get dqa_54 29 rfl
theorem dX6_takeWord_52 : decode cX6_takeWord 52 = .ok (.if_icmp .eq 5, 3) := okD_get dqa_54 30 rfl
theorem dX6_takeWord_55 : decode cX6_takeWord 55 = .ok (.iconst 0, 1) := okD_get dqa_54 31 rfl
theorem dX6_takeWord_56 : decode cX6_takeWord 56 = .ok (.ireturn, 1) := okD_get dqa_54 32 rfl
theorem dX6_takeWord_57 : decode cX6_takeWord 57 = .ok (.iinc 2 1, 3) := okD_get dqa_54 33 rfl
theorem dX6_takeWord_60 : decode cX6_takeWord 60 = .ok (.goto (-32), 3) := okD_get dqa_54 34 rfl
theorem dX6_takeWord_63 : decode cX6_takeWord 63 = .ok (.aload_n 0, 1) := okD_get dqa_54 35 rfl
theorem dX6_takeWord_64 : decode cX6_takeWord 64 = .ok (.invokevirtual 33, 3) := okD_get dqa_54 36 rfl
theorem dX6_takeWord_67 : decode cX6_takeWord 67 = .ok (.iconst 1, 1) := okD_get dqa_54 37 rfl
theorem dX6_takeWord_68 : decode cX6_takeWord 68 = .ok (.ireturn, 1) := okD_get dqa_54 38 rfl
theorem dqa_55 : okD cX6_takeSemicolon [(0, (.aload_n 0, 1)), (1, (.getfield 19, 3)), (4, (.iconst 3, 1)), (5, (.if_icmp .ne 17, 3)), (8, (.aload_n 0, 1)), (9, (.getfield 9, 3)), (12, (.aload_n 0, 1)), (13, (.getfield 22, 3)), (16, (.iaload, 1)), (17, (.bipush 59, 2)), (19, (.if_icmp .eq 5, 3)), (22, (.iconst 0, 1)), (23, (.ireturn, 1)), (24, (.aload_n 0, 1)), (25, (.invokevirtual 33, 3)), (28, (.iconst 1, 1)), (29, (.ireturn, 1))] = true := by decide +kernel
theorem dX6_takeSemicolon_0 : decode cX6_takeSemicolon 0 = .ok (.aload_n 0, 1) := okD_get dqa_55 0 rfl
theorem dX6_takeSemicolon_1 : decode cX6_takeSemicolon 1 = .ok (.getfield 19, 3) := okD_get dqa_55 1 rfl
theorem dX6_takeSemicolon_4 : decode cX6_takeSemicolon 4 = .ok (.iconst 3, 1) := okD_get dqa_55 2 rfl
theorem dX6_takeSemicolon_5 : decode cX6_takeSemicolon 5 = .ok (.if_icmp .ne 17, 3) := okD_get dqa_55 3 rfl
theorem dX6_takeSemicolon_8 : decode cX6_takeSemicolon 8 = .ok (.aload_n 0, 1) := okD_get dqa_55 4 rfl
theorem dX6_takeSemicolon_9 : decode cX6_takeSemicolon 9 = .ok (.getfield 9, 3) := okD_get dqa_55 5 rfl
theorem dX6_takeSemicolon_12 : decode cX6_takeSemicolon 12 = .ok (.aload_n 0, 1) := okD_get dqa_55 6 rfl
theorem dX6_takeSemicolon_13 : decode cX6_takeSemicolon 13 = .ok (.getfield 22, 3) := okD_get dqa_55 7 rfl
theorem dX6_takeSemicolon_16 : decode cX6_takeSemicolon 16 = .ok (.iaload, 1) := okD_get dqa_55 8 rfl
theorem dX6_takeSemicolon_17 : decode cX6_takeSemicolon 17 = .ok (.bipush 59, 2) := okD_get dqa_55 9 rfl
theorem dX6_takeSemicolon_19 : decode cX6_takeSemicolon 19 = .ok (.if_icmp .eq 5, 3) := okD_get dqa_55 10 rfl
theorem dX6_takeSemicolon_22 : decode cX6_takeSemicolon 22 = .ok (.iconst 0, 1) := okD_get dqa_55 11 rfl
theorem dX6_takeSemicolon_23 : decode cX6_takeSemicolon 23 = .ok (.ireturn, 1) := okD_get dqa_55 12 rfl
theorem dX6_takeSemicolon_24 : decode cX6_takeSemicolon 24 = .ok (.aload_n 0, 1) := okD_get dqa_55 13 rfl
theorem dX6_takeSemicolon_25 : decode cX6_takeSemicolon 25 = .ok (.invokevirtual 33, 3) := okD_get dqa_55 14 rfl
theorem dX6_takeSemicolon_28 : decode cX6_takeSemicolon 28 = .ok (.iconst 1, 1) := okD_get dqa_55 15 rfl
theorem dX6_takeSemicolon_29 : decode cX6_takeSemicolon 29 = .ok (.ireturn, 1) := okD_get dqa_55 16 rfl
theorem dqa_56 : okD cX6_nextToken [(0, (.aload_n 0, 1)), (1, (.aload_n 0, 1)), (2, (.getfield 25, 3)), (5, (.putfield 22, 3)), (8, (.aload_n 0, 1)), (9, (.getfield 22, 3)), (12, (.aload_n 0, 1)), (13, (.getfield 15, 3)), (16, (.if_icmp .ge 30, 3)), (19, (.aload_n 0, 1)), (20, (.getfield 9, 3)), (23, (.aload_n 0, 1)), (24, (.getfield 22, 3)), (27, (.iaload, 1)), (28, (.bipush 32, 2)), (30, (.if_icmp .ne 16, 3)), (33, (.aload_n 0, 1)), (34, (.dup, 1)), (35, (.getfield 22, 3)), (38, (.iconst 1, 1)), (39, (.iadd, 1)), (40, (.putfield 22, 3)), (43, (.goto (-35), 3)), (46, (.aload_n 0, 1)), (47, (.aload_n 0, 1)), (48, (.aload_n 0, 1)), (49, (.getfield 22, 3)), (52, (.invokevirtual 97, 3)), (55, (.putfield 19, 3)), (58, (.aload_n 0, 1)), (59, (.getfield 19, 3)), (62, (.iconst 3, 1)), (63, (.if_icmp .ne 12, 3)), (66, (.aload_n 0, 1)), (67, (.getfield 22, 3)), (70, (.iconst 1, 1)), (71, (.iadd, 1)), (72, (.goto 7, 3)), (75, (.aload_n 0, 1)), (76, (.getfield 15, 3))] = true := by decide +kernel
theorem dX6_nextToken_0 : decode cX6_nextToken 0 = .ok (.aload_n 0, 1) := okD_get dqa_56 0 rfl
theorem dX6_nextToken_1 : decode cX6_nextToken 1 = .ok (.aload_n 0, 1) := okD_get dqa_56 1 rfl
theorem dX6_nextToken_2 : decode cX6_nextToken 2 = .ok (.getfield 25, 3) := okD_get dqa_56 2 rfl
theorem dX6_nextToken_5 : decode cX6_nextToken 5 = .ok (.putfield 22, 3) := okD_get dqa_56 3 rfl
theorem dX6_nextToken_8 : decode cX6_nextToken 8 = .ok (.aload_n 0, 1) := okD_get dqa_56 4 rfl
theorem dX6_nextToken_9 : decode cX6_nextToken 9 = .ok (.getfield 22, 3) := okD_get dqa_56 5 rfl
theorem dX6_nextToken_12 : decode cX6_nextToken 12 = .ok (.aload_n 0, 1) := okD_get dqa_56 6 rfl
theorem dX6_nextToken_13 : decode cX6_nextToken 13 = .ok (.getfield 15, 3) := okD_get dqa_56 7 rfl
theorem dX6_nextToken_16 : decode cX6_nextToken 16 = .ok (.if_icmp .ge 30, 3) := okD_get dqa_56 8 rfl
theorem dX6_nextToken_19 : decode cX6_nextToken 19 = .ok (.aload_n 0, 1) := okD_get dqa_56 9 rfl
theorem dX6_nextToken_20 : decode cX6_nextToken 20 = .ok (.getfield 9, 3) := okD_get dqa_56 10 rfl
theorem dX6_nextToken_23 : decode cX6_nextToken 23 = .ok (.aload_n 0, 1) := okD_get dqa_56 11 rfl
theorem dX6_nextToken_24 : decode cX6_nextToken 24 = .ok (.getfield 22, 3) := okD_get dqa_56 12 rfl
theorem dX6_nextToken_27 : decode cX6_nextToken 27 = .ok (.iaload, 1) := okD_get dqa_56 13 rfl
theorem dX6_nextToken_28 : decode cX6_nextToken 28 = .ok (.bipush 32, 2) := okD_get dqa_56 14 rfl
theorem dX6_nextToken_30 : decode cX6_nextToken 30 = .ok (.if_icmp .ne 16, 3) := okD_get dqa_56 15 rfl
theorem dX6_nextToken_33 : decode cX6_nextToken 33 = .ok (.aload_n 0, 1) := okD_get dqa_56 16 rfl
theorem dX6_nextToken_34 : decode cX6_nextToken 34 = .ok (.dup, 1) := okD_get dqa_56 17 rfl
theorem dX6_nextToken_35 : decode cX6_nextToken 35 = .ok (.getfield 22, 3) := okD_get dqa_56 18 rfl
theorem dX6_nextToken_38 : decode cX6_nextToken 38 = .ok (.iconst 1, 1) := okD_get dqa_56 19 rfl
theorem dX6_nextToken_39 : decode cX6_nextToken 39 = .ok (.iadd, 1) := okD_get dqa_56 20 rfl
theorem dX6_nextToken_40 : decode cX6_nextToken 40 = .ok (.putfield 22, 3) := okD_get dqa_56 21 rfl
theorem dX6_nextToken_43 : decode cX6_nextToken 43 = .ok (.goto (-35), 3) := okD_get dqa_56 22 rfl
theorem dX6_nextToken_46 : decode cX6_nextToken 46 = .ok (.aload_n 0, 1) := okD_get dqa_56 23 rfl
theorem dX6_nextToken_47 : decode cX6_nextToken 47 = .ok (.aload_n 0, 1) := okD_get dqa_56 24 rfl
theorem dX6_nextToken_48 : decode cX6_nextToken 48 = .ok (.aload_n 0, 1) := okD_get dqa_56 25 rfl
theorem dX6_nextToken_49 : decode cX6_nextToken 49 = .ok (.getfield 22, 3) := okD_get dqa_56 26 rfl
theorem dX6_nextToken_52 : decode cX6_nextToken 52 = .ok (.invokevirtual 97, 3) := okD_get dqa_56 27 rfl
theorem dX6_nextToken_55 : decode cX6_nextToken 55 = .ok (.putfield 19, 3) := okD_get dqa_56 28 rfl
theorem dX6_nextToken_58 : decode cX6_nextToken 58 = .ok (.aload_n 0, 1) := okD_get dqa_56 29 rfl
theorem dX6_nextToken_59 : decode cX6_nextToken 59 = .ok (.getfield 19, 3) := okD_get dqa_56 30 rfl
theorem dX6_nextToken_62 : decode cX6_nextToken 62 = .ok (.iconst 3, 1) := okD_get dqa_56 31 rfl
theorem dX6_nextToken_63 : decode cX6_nextToken 63 = .ok (.if_icmp .ne 12, 3) := okD_get dqa_56 32 rfl
theorem dX6_nextToken_66 : decode cX6_nextToken 66 = .ok (.aload_n 0, 1) := okD_get dqa_56 33 rfl
theorem dX6_nextToken_67 : decode cX6_nextToken 67 = .ok (.getfield 22, 3) := okD_get dqa_56 34 rfl
theorem dX6_nextToken_70 : decode cX6_nextToken 70 = .ok (.iconst 1, 1) := okD_get dqa_56 35 rfl
theorem dX6_nextToken_71 : decode cX6_nextToken 71 = .ok (.iadd, 1) := okD_get dqa_56 36 rfl
theorem dX6_nextToken_72 : decode cX6_nextToken 72 = .ok (.goto 7, 3) := okD_get dqa_56 37 rfl
theorem dX6_nextToken_75 : decode cX6_nextToken 75 = .ok (.aload_n 0, 1) := okD_get dqa_56 38 rfl
theorem dX6_nextToken_76 : decode cX6_nextToken 76 = .ok (.getfield 15, 3) := okD_get dqa_56 39 rfl
theorem dqa_57 : okD cX6_nextToken [(79, (.istore_n 1, 1)), (80, (.aload_n 0, 1)), (81, (.aload_n 0, 1)), (82, (.getfield 22, 3)), (85, (.putfield 25, 3)), (88, (.aload_n 0, 1)), (89, (.getfield 25, 3)), (92, (.iload_n 1, 1)), (93, (.if_icmp .ge 31, 3)), (96, (.aload_n 0, 1)), (97, (.aload_n 0, 1)), (98, (.getfield 25, 3)), (101, (.invokevirtual 97, 3)), (104, (.aload_n 0, 1)), (105, (.getfield 19, 3)), (108, (.if_icmp .ne 16, 3)), (111, (.aload_n 0, 1)), (112, (.dup, 1)), (113, (.getfield 25, 3)), (116, (.iconst 1, 1)), (117, (.iadd, 1)), (118, (.putfield 25, 3)), (121, (.goto (-33), 3)), (124, (.return_, 1))] = true := by decide +kernel
theorem dX6_nextToken_79 : decode cX6_nextToken 79 = .ok (.istore_n 1, 1) := okD_get dqa_57 0 rfl
theorem dX6_nextToken_80 : decode cX6_nextToken 80 = .ok (.aload_n 0, 1) := okD_get dqa_57 1 rfl
theorem dX6_nextToken_81 : decode cX6_nextToken 81 = .ok (.aload_n 0, 1) := okD_get dqa_57 2 rfl
theorem dX6_nextToken_82 : decode cX6_nextToken 82 = .ok (.getfield 22, 3) := okD_get dqa_57 3 rfl
theorem dX6_nextToken_85 : decode cX6_nextToken 85 = .ok (.putfield 25, 3) := okD_get dqa_57 4 rfl
theorem dX6_nextToken_88 : decode cX6_nextToken 88 = .ok (.aload_n 0, 1) := okD_get dqa_57 5 rfl
theorem dX6_nextToken_89 : decode cX6_nextToken 89 = .ok (.getfield 25, 3) := okD_get dqa_57 6 rfl
theorem dX6_nextToken_92 : decode cX6_nextToken 92 = .ok (.iload_n 1, 1) := okD_get dqa_57 7 rfl
theorem dX6_nextToken_93 : decode cX6_nextToken 93 = .ok (.if_icmp .ge 31, 3) := okD_get dqa_57 8 rfl
theorem dX6_nextToken_96 : decode cX6_nextToken 96 = .ok (.aload_n 0, 1) := okD_get dqa_57 9 rfl
theorem dX6_nextToken_97 : decode cX6_nextToken 97 = .ok (.aload_n 0, 1) := okD_get dqa_57 10 rfl
theorem dX6_nextToken_98 : decode cX6_nextToken 98 = .ok (.getfield 25, 3) := okD_get dqa_57 11 rfl
theorem dX6_nextToken_101 : decode cX6_nextToken 101 = .ok (.invokevirtual 97, 3) := okD_get dqa_57 12 rfl
theorem dX6_nextToken_104 : decode cX6_nextToken 104 = .ok (.aload_n 0, 1) := okD_get dqa_57 13 rfl
theorem dX6_nextToken_105 : decode cX6_nextToken 105 = .ok (.getfield 19, 3) := okD_get dqa_57 14 rfl
theorem dX6_nextToken_108 : decode cX6_nextToken 108 = .ok (.if_icmp .ne 16, 3) := okD_get dqa_57 15 rfl
theorem dX6_nextToken_111 : decode cX6_nextToken 111 = .ok (.aload_n 0, 1) := okD_get dqa_57 16 rfl
theorem dX6_nextToken_112 : decode cX6_nextToken 112 = .ok (.dup, 1) := okD_get dqa_57 17 rfl
theorem dX6_nextToken_113 : decode cX6_nextToken 113 = .ok (.getfield 25, 3) := okD_get dqa_57 18 rfl
theorem dX6_nextToken_116 : decode cX6_nextToken 116 = .ok (.iconst 1, 1) := okD_get dqa_57 19 rfl
theorem dX6_nextToken_117 : decode cX6_nextToken 117 = .ok (.iadd, 1) := okD_get dqa_57 20 rfl
theorem dX6_nextToken_118 : decode cX6_nextToken 118 = .ok (.putfield 25, 3) := okD_get dqa_57 21 rfl
theorem dX6_nextToken_121 : decode cX6_nextToken 121 = .ok (.goto (-33), 3) := okD_get dqa_57 22 rfl
theorem dX6_nextToken_124 : decode cX6_nextToken 124 = .ok (.return_, 1) := okD_get dqa_57 23 rfl
theorem dqa_58 : okD cX6_kindAt [(0, (.iload_n 1, 1)), (1, (.aload_n 0, 1)), (2, (.getfield 15, 3)), (5, (.if_icmp .lt 5, 3)), (8, (.iconst 0, 1)), (9, (.ireturn, 1)), (10, (.aload_n 0, 1)), (11, (.getfield 9, 3)), (14, (.iload_n 1, 1)), (15, (.iaload, 1)), (16, (.istore_n 2, 1)), (17, (.iload_n 2, 1)), (18, (.bipush 97, 2)), (20, (.if_icmp .lt 11, 3)), (23, (.iload_n 2, 1)), (24, (.bipush 122, 2)), (26, (.if_icmp .gt 5, 3)), (29, (.iconst 1, 1)), (30, (.ireturn, 1)), (31, (.iload_n 2, 1)), (32, (.bipush 48, 2)), (34, (.if_icmp .lt 13, 3)), (37, (.iload_n 2, 1)), (38, (.bipush 57, 2)), (40, (.if_icmp .gt 7, 3)), (43, (.iconst 2, 1)), (44, (.goto 4, 3)), (47, (.iconst 3, 1)), (48, (.ireturn, 1))] = true := by decide +kernel
theorem dX6_kindAt_0 : decode cX6_kindAt 0 = .ok (.iload_n 1, 1) := okD_get dqa_58 0 rfl
theorem dX6_kindAt_1 : decode cX6_kindAt 1 = .ok (.aload_n 0, 1) := okD_get dqa_58 1 rfl
theorem dX6_kindAt_2 : decode cX6_kindAt 2 = .ok (.getfield 15, 3) := okD_get dqa_58 2 rfl
theorem dX6_kindAt_5 : decode cX6_kindAt 5 = .ok (.if_icmp .lt 5, 3) := okD_get dqa_58 3 rfl
theorem dX6_kindAt_8 : decode cX6_kindAt 8 = .ok (.iconst 0, 1) := okD_get dqa_58 4 rfl
theorem dX6_kindAt_9 : decode cX6_kindAt 9 = .ok (.ireturn, 1) := okD_get dqa_58 5 rfl
theorem dX6_kindAt_10 : decode cX6_kindAt 10 = .ok (.aload_n 0, 1) := okD_get dqa_58 6 rfl
theorem dX6_kindAt_11 : decode cX6_kindAt 11 = .ok (.getfield 9, 3) := okD_get dqa_58 7 rfl
theorem dX6_kindAt_14 : decode cX6_kindAt 14 = .ok (.iload_n 1, 1) := okD_get dqa_58 8 rfl
theorem dX6_kindAt_15 : decode cX6_kindAt 15 = .ok (.iaload, 1) := okD_get dqa_58 9 rfl
theorem dX6_kindAt_16 : decode cX6_kindAt 16 = .ok (.istore_n 2, 1) := okD_get dqa_58 10 rfl
theorem dX6_kindAt_17 : decode cX6_kindAt 17 = .ok (.iload_n 2, 1) := okD_get dqa_58 11 rfl
theorem dX6_kindAt_18 : decode cX6_kindAt 18 = .ok (.bipush 97, 2) := okD_get dqa_58 12 rfl
theorem dX6_kindAt_20 : decode cX6_kindAt 20 = .ok (.if_icmp .lt 11, 3) := okD_get dqa_58 13 rfl
theorem dX6_kindAt_23 : decode cX6_kindAt 23 = .ok (.iload_n 2, 1) := okD_get dqa_58 14 rfl
theorem dX6_kindAt_24 : decode cX6_kindAt 24 = .ok (.bipush 122, 2) := okD_get dqa_58 15 rfl
theorem dX6_kindAt_26 : decode cX6_kindAt 26 = .ok (.if_icmp .gt 5, 3) := okD_get dqa_58 16 rfl
theorem dX6_kindAt_29 : decode cX6_kindAt 29 = .ok (.iconst 1, 1) := okD_get dqa_58 17 rfl
theorem dX6_kindAt_30 : decode cX6_kindAt 30 = .ok (.ireturn, 1) := okD_get dqa_58 18 rfl
theorem dX6_kindAt_31 : decode cX6_kindAt 31 = .ok (.iload_n 2, 1) := okD_get dqa_58 19 rfl
theorem dX6_kindAt_32 : decode cX6_kindAt 32 = .ok (.bipush 48, 2) := okD_get dqa_58 20 rfl
theorem dX6_kindAt_34 : decode cX6_kindAt 34 = .ok (.if_icmp .lt 13, 3) := okD_get dqa_58 21 rfl
theorem dX6_kindAt_37 : decode cX6_kindAt 37 = .ok (.iload_n 2, 1) := okD_get dqa_58 22 rfl
theorem dX6_kindAt_38 : decode cX6_kindAt 38 = .ok (.bipush 57, 2) := okD_get dqa_58 23 rfl
theorem dX6_kindAt_40 : decode cX6_kindAt 40 = .ok (.if_icmp .gt 7, 3) := okD_get dqa_58 24 rfl
theorem dX6_kindAt_43 : decode cX6_kindAt 43 = .ok (.iconst 2, 1) := okD_get dqa_58 25 rfl
theorem dX6_kindAt_44 : decode cX6_kindAt 44 = .ok (.goto 4, 3) := okD_get dqa_58 26 rfl
theorem dX6_kindAt_47 : decode cX6_kindAt 47 = .ok (.iconst 3, 1) := okD_get dqa_58 27 rfl
theorem dX6_kindAt_48 : decode cX6_kindAt 48 = .ok (.ireturn, 1) := okD_get dqa_58 28 rfl
theorem dqa_59 : okD cX7_init [(0, (.aload_n 0, 1)), (1, (.invokespecial 1, 3)), (4, (.aload_n 0, 1)), (5, (.new 7, 3)), (8, (.dup, 1)), (9, (.invokespecial 9, 3)), (12, (.putfield 10, 3)), (15, (.aload_n 0, 1)), (16, (.new 16, 3)), (19, (.dup, 1)), (20, (.invokespecial 18, 3)), (23, (.putfield 19, 3)), (26, (.aload_n 0, 1)), (27, (.new 23, 3)), (30, (.dup, 1)), (31, (.invokespecial 25, 3)), (34, (.putfield 26, 3)), (37, (.aload_n 0, 1)), (38, (.new 30, 3)), (41, (.dup, 1)), (42, (.invokespecial 32, 3)), (45, (.putfield 33, 3)), (48, (.aload_n 0, 1)), (49, (.new 37, 3)), (52, (.dup, 1)), (53, (.invokespecial 39, 3)), (56, (.putfield 40, 3)), (59, (.aload_n 0, 1)), (60, (.new 44, 3)), (63, (.dup, 1)), (64, (.invokespecial 46, 3)), (67, (.putfield 47, 3)), (70, (.aload_n 0, 1)), (71, (.new 51, 3)), (74, (.dup, 1)), (75, (.invokespecial 53, 3)), (78, (.putfield 54, 3)), (81, (.aload_n 0, 1)), (82, (.new 51, 3)), (85, (.dup, 1))] = true := by decide +kernel
theorem dX7_init_0 : decode cX7_init 0 = .ok (.aload_n 0, 1) := okD_get dqa_59 0 rfl
theorem dX7_init_1 : decode cX7_init 1 = .ok (.invokespecial 1, 3) := okD_get dqa_59 1 rfl
theorem dX7_init_4 : decode cX7_init 4 = .ok (.aload_n 0, 1) := okD_get dqa_59 2 rfl
theorem dX7_init_5 : decode cX7_init 5 = .ok (.new 7, 3) := okD_get dqa_59 3 rfl
theorem dX7_init_8 : decode cX7_init 8 = .ok (.dup, 1) := okD_get dqa_59 4 rfl
theorem dX7_init_9 : decode cX7_init 9 = .ok (.invokespecial 9, 3) := okD_get dqa_59 5 rfl
theorem dX7_init_12 : decode cX7_init 12 = .ok (.putfield 10, 3) := okD_get dqa_59 6 rfl
theorem dX7_init_15 : decode cX7_init 15 = .ok (.aload_n 0, 1) := okD_get dqa_59 7 rfl
theorem dX7_init_16 : decode cX7_init 16 = .ok (.new 16, 3) := okD_get dqa_59 8 rfl
theorem dX7_init_19 : decode cX7_init 19 = .ok (.dup, 1) := okD_get dqa_59 9 rfl
theorem dX7_init_20 : decode cX7_init 20 = .ok (.invokespecial 18, 3) := okD_get dqa_59 10 rfl
theorem dX7_init_23 : decode cX7_init 23 = .ok (.putfield 19, 3) := okD_get dqa_59 11 rfl
theorem dX7_init_26 : decode cX7_init 26 = .ok (.aload_n 0, 1) := okD_get dqa_59 12 rfl
theorem dX7_init_27 : decode cX7_init 27 = .ok (.new 23, 3) := okD_get dqa_59 13 rfl
theorem dX7_init_30 : decode cX7_init 30 = .ok (.dup, 1) := okD_get dqa_59 14 rfl
theorem dX7_init_31 : decode cX7_init 31 = .ok (.invokespecial 25, 3) := okD_get dqa_59 15 rfl
theorem dX7_init_34 : decode cX7_init 34 = .ok (.putfield 26, 3) := okD_get dqa_59 16 rfl
theorem dX7_init_37 : decode cX7_init 37 = .ok (.aload_n 0, 1) := okD_get dqa_59 17 rfl
theorem dX7_init_38 : decode cX7_init 38 = .ok (.new 30, 3) := okD_get dqa_59 18 rfl
theorem dX7_init_41 : decode cX7_init 41 = .ok (.dup, 1) := okD_get dqa_59 19 rfl
theorem dX7_init_42 : decode cX7_init 42 = .ok (.invokespecial 32, 3) := okD_get dqa_59 20 rfl
theorem dX7_init_45 : decode cX7_init 45 = .ok (.putfield 33, 3) := okD_get dqa_59 21 rfl
theorem dX7_init_48 : decode cX7_init 48 = .ok (.aload_n 0, 1) := okD_get dqa_59 22 rfl
theorem dX7_init_49 : decode cX7_init 49 = .ok (.new 37, 3) := okD_get dqa_59 23 rfl
theorem dX7_init_52 : decode cX7_init 52 = .ok (.dup, 1) := okD_get dqa_59 24 rfl
theorem dX7_init_53 : decode cX7_init 53 = .ok (.invokespecial 39, 3) := okD_get dqa_59 25 rfl
theorem dX7_init_56 : decode cX7_init 56 = .ok (.putfield 40, 3) := okD_get dqa_59 26 rfl
theorem dX7_init_59 : decode cX7_init 59 = .ok (.aload_n 0, 1) := okD_get dqa_59 27 rfl
theorem dX7_init_60 : decode cX7_init 60 = .ok (.new 44, 3) := okD_get dqa_59 28 rfl
theorem dX7_init_63 : decode cX7_init 63 = .ok (.dup, 1) := okD_get dqa_59 29 rfl
theorem dX7_init_64 : decode cX7_init 64 = .ok (.invokespecial 46, 3) := okD_get dqa_59 30 rfl
theorem dX7_init_67 : decode cX7_init 67 = .ok (.putfield 47, 3) := okD_get dqa_59 31 rfl
theorem dX7_init_70 : decode cX7_init 70 = .ok (.aload_n 0, 1) := okD_get dqa_59 32 rfl
theorem dX7_init_71 : decode cX7_init 71 = .ok (.new 51, 3) := okD_get dqa_59 33 rfl
theorem dX7_init_74 : decode cX7_init 74 = .ok (.dup, 1) := okD_get dqa_59 34 rfl
theorem dX7_init_75 : decode cX7_init 75 = .ok (.invokespecial 53, 3) := okD_get dqa_59 35 rfl
theorem dX7_init_78 : decode cX7_init 78 = .ok (.putfield 54, 3) := okD_get dqa_59 36 rfl
theorem dX7_init_81 : decode cX7_init 81 = .ok (.aload_n 0, 1) := okD_get dqa_59 37 rfl
theorem dX7_init_82 : decode cX7_init 82 = .ok (.new 51, 3) := okD_get dqa_59 38 rfl
theorem dX7_init_85 : decode cX7_init 85 = .ok (.dup, 1) := okD_get dqa_59 39 rfl
theorem dqa_60 : okD cX7_init [(86, (.invokespecial 53, 3)), (89, (.putfield 58, 3)), (92, (.aload_n 0, 1)), (93, (.iconst (-1), 1)), (94, (.putfield 61, 3)), (97, (.aload_n 0, 1)), (98, (.iconst 0, 1)), (99, (.putfield 65, 3)), (102, (.return_, 1))] = true := by decide +kernel
theorem dX7_init_86 : decode cX7_init 86 = .ok (.invokespecial 53, 3) := okD_get dqa_60 0 rfl
theorem dX7_init_89 : decode cX7_init 89 = .ok (.putfield 58, 3) := okD_get dqa_60 1 rfl
theorem dX7_init_92 : decode cX7_init 92 = .ok (.aload_n 0, 1) := okD_get dqa_60 2 rfl
theorem dX7_init_93 : decode cX7_init 93 = .ok (.iconst (-1), 1) := okD_get dqa_60 3 rfl
theorem dX7_init_94 : decode cX7_init 94 = .ok (.putfield 61, 3) := okD_get dqa_60 4 rfl
theorem dX7_init_97 : decode cX7_init 97 = .ok (.aload_n 0, 1) := okD_get dqa_60 5 rfl
theorem dX7_init_98 : decode cX7_init 98 = .ok (.iconst 0, 1) := okD_get dqa_60 6 rfl
theorem dX7_init_99 : decode cX7_init 99 = .ok (.putfield 65, 3) := okD_get dqa_60 7 rfl
theorem dX7_init_102 : decode cX7_init 102 = .ok (.return_, 1) := okD_get dqa_60 8 rfl
theorem dqa_61 : okD cX7_read [(0, (.iload_n 1, 1)), (1, (.bipush 119, 2)), (3, (.invokestatic 68, 3)), (6, (.ifCond .eq 20, 3)), (9, (.iload_n 2, 1)), (10, (.sipush 400, 3)), (13, (.invokestatic 68, 3)), (16, (.ifCond .eq 10, 3)), (19, (.iload_n 3, 1)), (20, (.invokestatic 72, 3)), (23, (.ifCond .ne 9, 3)), (26, (.aload_n 0, 1)), (27, (.iconst (-1), 1)), (28, (.invokevirtual 76, 3)), (31, (.ireturn, 1)), (32, (.aload_n 0, 1)), (33, (.getfield 10, 3)), (36, (.getfield 80, 3)), (39, (.sipush 300, 3)), (42, (.if_icmp .lt 10, 3)), (45, (.aload_n 0, 1)), (46, (.bipush (-5), 2)), (48, (.invokevirtual 76, 3)), (51, (.ireturn, 1)), (52, (.aload_n 0, 1)), (53, (.getfield 10, 3)), (56, (.iload_n 1, 1)), (57, (.iload_n 2, 1)), (58, (.iload_n 3, 1)), (59, (.invokevirtual 83, 3)), (62, (.aload_n 0, 1)), (63, (.aload_n 0, 1)), (64, (.getfield 10, 3)), (67, (.getfield 80, 3)), (70, (.invokevirtual 87, 3)), (73, (.ireturn, 1))] = true := by decide +kernel
theorem dX7_read_0 : decode cX7_read 0 = .ok (.iload_n 1, 1) := okD_get dqa_61 0 rfl
theorem dX7_read_1 : decode cX7_read 1 = .ok (.bipush 119, 2) := okD_get dqa_61 1 rfl
theorem dX7_read_3 : decode cX7_read 3 = .ok (.invokestatic 68, 3) := okD_get dqa_61 2 rfl
theorem dX7_read_6 : decode cX7_read 6 = .ok (.ifCond .eq 20, 3) := okD_get dqa_61 3 rfl
theorem dX7_read_9 : decode cX7_read 9 = .ok (.iload_n 2, 1) := okD_get dqa_61 4 rfl
theorem dX7_read_10 : decode cX7_read 10 = .ok (.sipush 400, 3) := okD_get dqa_61 5 rfl
theorem dX7_read_13 : decode cX7_read 13 = .ok (.invokestatic 68, 3) := okD_get dqa_61 6 rfl
theorem dX7_read_16 : decode cX7_read 16 = .ok (.ifCond .eq 10, 3) := okD_get dqa_61 7 rfl
theorem dX7_read_19 : decode cX7_read 19 = .ok (.iload_n 3, 1) := okD_get dqa_61 8 rfl
theorem dX7_read_20 : decode cX7_read 20 = .ok (.invokestatic 72, 3) := okD_get dqa_61 9 rfl
theorem dX7_read_23 : decode cX7_read 23 = .ok (.ifCond .ne 9, 3) := okD_get dqa_61 10 rfl
theorem dX7_read_26 : decode cX7_read 26 = .ok (.aload_n 0, 1) := okD_get dqa_61 11 rfl
theorem dX7_read_27 : decode cX7_read 27 = .ok (.iconst (-1), 1) := okD_get dqa_61 12 rfl
theorem dX7_read_28 : decode cX7_read 28 = .ok (.invokevirtual 76, 3) := okD_get dqa_61 13 rfl
theorem dX7_read_31 : decode cX7_read 31 = .ok (.ireturn, 1) := okD_get dqa_61 14 rfl
theorem dX7_read_32 : decode cX7_read 32 = .ok (.aload_n 0, 1) := okD_get dqa_61 15 rfl
theorem dX7_read_33 : decode cX7_read 33 = .ok (.getfield 10, 3) := okD_get dqa_61 16 rfl
theorem dX7_read_36 : decode cX7_read 36 = .ok (.getfield 80, 3) := okD_get dqa_61 17 rfl
theorem dX7_read_39 : decode cX7_read 39 = .ok (.sipush 300, 3) := okD_get dqa_61 18 rfl
theorem dX7_read_42 : decode cX7_read 42 = .ok (.if_icmp .lt 10, 3) := okD_get dqa_61 19 rfl
theorem dX7_read_45 : decode cX7_read 45 = .ok (.aload_n 0, 1) := okD_get dqa_61 20 rfl
theorem dX7_read_46 : decode cX7_read 46 = .ok (.bipush (-5), 2) := okD_get dqa_61 21 rfl
theorem dX7_read_48 : decode cX7_read 48 = .ok (.invokevirtual 76, 3) := okD_get dqa_61 22 rfl
theorem dX7_read_51 : decode cX7_read 51 = .ok (.ireturn, 1) := okD_get dqa_61 23 rfl
theorem dX7_read_52 : decode cX7_read 52 = .ok (.aload_n 0, 1) := okD_get dqa_61 24 rfl
theorem dX7_read_53 : decode cX7_read 53 = .ok (.getfield 10, 3) := okD_get dqa_61 25 rfl
theorem dX7_read_56 : decode cX7_read 56 = .ok (.iload_n 1, 1) := okD_get dqa_61 26 rfl
theorem dX7_read_57 : decode cX7_read 57 = .ok (.iload_n 2, 1) := okD_get dqa_61 27 rfl
theorem dX7_read_58 : decode cX7_read 58 = .ok (.iload_n 3, 1) := okD_get dqa_61 28 rfl
theorem dX7_read_59 : decode cX7_read 59 = .ok (.invokevirtual 83, 3) := okD_get dqa_61 29 rfl
theorem dX7_read_62 : decode cX7_read 62 = .ok (.aload_n 0, 1) := okD_get dqa_61 30 rfl
theorem dX7_read_63 : decode cX7_read 63 = .ok (.aload_n 0, 1) := okD_get dqa_61 31 rfl
theorem dX7_read_64 : decode cX7_read 64 = .ok (.getfield 10, 3) := okD_get dqa_61 32 rfl
theorem dX7_read_67 : decode cX7_read 67 = .ok (.getfield 80, 3) := okD_get dqa_61 33 rfl
theorem dX7_read_70 : decode cX7_read 70 = .ok (.invokevirtual 87, 3) := okD_get dqa_61 34 rfl
theorem dX7_read_73 : decode cX7_read 73 = .ok (.ireturn, 1) := okD_get dqa_61 35 rfl
theorem dqa_62 : okD cX7_height [(0, (.iload_n 1, 1)), (1, (.bipush 119, 2)), (3, (.invokestatic 68, 3)), (6, (.ifCond .eq 10, 3)), (9, (.iload_n 2, 1)), (10, (.invokestatic 72, 3)), (13, (.ifCond .ne 5, 3)), (16, (.iconst (-1), 1)), (17, (.ireturn, 1)), (18, (.aload_n 0, 1)), (19, (.getfield 10, 3)), (22, (.iload_n 2, 1)), (23, (.invokevirtual 90, 3)), (26, (.aload_n 0, 1)), (27, (.getfield 10, 3)), (30, (.getfield 94, 3)), (33, (.iload_n 1, 1)), (34, (.iaload, 1)), (35, (.ireturn, 1))] = true := by decide +kernel
theorem dX7_height_0 : decode cX7_height 0 = .ok (.iload_n 1, 1) := okD_get dqa_62 0 rfl
theorem dX7_height_1 : decode cX7_height 1 = .ok (.bipush 119, 2) := okD_get dqa_62 1 rfl
theorem dX7_height_3 : decode cX7_height 3 = .ok (.invokestatic 68, 3) := okD_get dqa_62 2 rfl
theorem dX7_height_6 : decode cX7_height 6 = .ok (.ifCond .eq 10, 3) := okD_get dqa_62 3 rfl
theorem dX7_height_9 : decode cX7_height 9 = .ok (.iload_n 2, 1) := okD_get dqa_62 4 rfl
theorem dX7_height_10 : decode cX7_height 10 = .ok (.invokestatic 72, 3) := okD_get dqa_62 5 rfl
theorem dX7_height_13 : decode cX7_height 13 = .ok (.ifCond .ne 5, 3) := okD_get dqa_62 6 rfl
theorem dX7_height_16 : decode cX7_height 16 = .ok (.iconst (-1), 1) := okD_get dqa_62 7 rfl
theorem dX7_height_17 : decode cX7_height 17 = .ok (.ireturn, 1) := okD_get dqa_62 8 rfl
theorem dX7_height_18 : decode cX7_height 18 = .ok (.aload_n 0, 1) := okD_get dqa_62 9 rfl
theorem dX7_height_19 : decode cX7_height 19 = .ok (.getfield 10, 3) := okD_get dqa_62 10 rfl
theorem dX7_height_22 : decode cX7_height 22 = .ok (.iload_n 2, 1) := okD_get dqa_62 11 rfl
theorem dX7_height_23 : decode cX7_height 23 = .ok (.invokevirtual 90, 3) := okD_get dqa_62 12 rfl
theorem dX7_height_26 : decode cX7_height 26 = .ok (.aload_n 0, 1) := okD_get dqa_62 13 rfl
theorem dX7_height_27 : decode cX7_height 27 = .ok (.getfield 10, 3) := okD_get dqa_62 14 rfl
theorem dX7_height_30 : decode cX7_height 30 = .ok (.getfield 94, 3) := okD_get dqa_62 15 rfl
theorem dX7_height_33 : decode cX7_height 33 = .ok (.iload_n 1, 1) := okD_get dqa_62 16 rfl
theorem dX7_height_34 : decode cX7_height 34 = .ok (.iaload, 1) := okD_get dqa_62 17 rfl
theorem dX7_height_35 : decode cX7_height 35 = .ok (.ireturn, 1) := okD_get dqa_62 18 rfl
theorem dqa_63 : okD cX7_peak [(0, (.iload_n 1, 1)), (1, (.invokestatic 72, 3)), (4, (.ifCond .ne 5, 3)), (7, (.iconst (-1), 1)), (8, (.ireturn, 1)), (9, (.aload_n 0, 1)), (10, (.getfield 10, 3)), (13, (.iload_n 1, 1)), (14, (.invokevirtual 90, 3)), (17, (.aload_n 0, 1)), (18, (.getfield 10, 3)), (21, (.getfield 98, 3)), (24, (.ireturn, 1))] = true := by decide +kernel
theorem dX7_peak_0 : decode cX7_peak 0 = .ok (.iload_n 1, 1) := okD_get dqa_63 0 rfl
theorem dX7_peak_1 : decode cX7_peak 1 = .ok (.invokestatic 72, 3) := okD_get dqa_63 1 rfl
theorem dX7_peak_4 : decode cX7_peak 4 = .ok (.ifCond .ne 5, 3) := okD_get dqa_63 2 rfl
theorem dX7_peak_7 : decode cX7_peak 7 = .ok (.iconst (-1), 1) := okD_get dqa_63 3 rfl
theorem dX7_peak_8 : decode cX7_peak 8 = .ok (.ireturn, 1) := okD_get dqa_63 4 rfl
theorem dX7_peak_9 : decode cX7_peak 9 = .ok (.aload_n 0, 1) := okD_get dqa_63 5 rfl
theorem dX7_peak_10 : decode cX7_peak 10 = .ok (.getfield 10, 3) := okD_get dqa_63 6 rfl
theorem dX7_peak_13 : decode cX7_peak 13 = .ok (.iload_n 1, 1) := okD_get dqa_63 7 rfl
theorem dX7_peak_14 : decode cX7_peak 14 = .ok (.invokevirtual 90, 3) := okD_get dqa_63 8 rfl
theorem dX7_peak_17 : decode cX7_peak 17 = .ok (.aload_n 0, 1) := okD_get dqa_63 9 rfl
theorem dX7_peak_18 : decode cX7_peak 18 = .ok (.getfield 10, 3) := okD_get dqa_63 10 rfl
theorem dX7_peak_21 : decode cX7_peak 21 = .ok (.getfield 98, 3) := okD_get dqa_63 11 rfl
theorem dX7_peak_24 : decode cX7_peak 24 = .ok (.ireturn, 1) := okD_get dqa_63 12 rfl
theorem dqa_64 : okD cX7_strip [(0, (.iload_n 1, 1)), (1, (.iconst 1, 1)), (2, (.if_icmp .lt 29, 3)), (5, (.iload_n 1, 1)), (6, (.sipush 400, 3)), (9, (.if_icmp .gt 22, 3)), (12, (.iload_n 2, 1)), (13, (.sipush 400, 3)), (16, (.invokestatic 68, 3)), (19, (.ifCond .eq 12, 3)), (22, (.iload_n 3, 1)), (23, (.bipush 19, 2)), (25, (.invokestatic 68, 3)), (28, (.ifCond .ne 9, 3)), (31, (.aload_n 0, 1)), (32, (.iconst (-1), 1)), (33, (.invokevirtual 76, 3)), (36, (.ireturn, 1)), (37, (.aload_n 0, 1)), (38, (.getfield 19, 3)), (41, (.getfield 101, 3)), (44, (.bipush 24, 2)), (46, (.if_icmp .lt 10, 3)), (49, (.aload_n 0, 1)), (50, (.bipush (-5), 2)), (52, (.invokevirtual 76, 3)), (55, (.ireturn, 1)), (56, (.aload_n 0, 1)), (57, (.getfield 19, 3)), (60, (.iload_n 1, 1)), (61, (.iload_n 2, 1)), (62, (.iload_n 3, 1)), (63, (.invokevirtual 104, 3)), (66, (.aload_n 0, 1)), (67, (.aload_n 0, 1)), (68, (.getfield 19, 3)), (71, (.getfield 101, 3)), (74, (.iconst 1, 1)), (75, (.isub, 1)), (76, (.invokevirtual 87, 3))] = true := by decide +kernel
theorem dX7_strip_0 : decode cX7_strip 0 = .ok (.iload_n 1, 1) := okD_get dqa_64 0 rfl
theorem dX7_strip_1 : decode cX7_strip 1 = .ok (.iconst 1, 1) := okD_get dqa_64 1 rfl
theorem dX7_strip_2 : decode cX7_strip 2 = .ok (.if_icmp .lt 29, 3) := okD_get dqa_64 2 rfl
theorem dX7_strip_5 : decode cX7_strip 5 = .ok (.iload_n 1, 1) := okD_get dqa_64 3 rfl
theorem dX7_strip_6 : decode cX7_strip 6 = .ok (.sipush 400, 3) := okD_get dqa_64 4 rfl
theorem dX7_strip_9 : decode cX7_strip 9 = .ok (.if_icmp .gt 22, 3) := okD_get dqa_64 5 rfl
theorem dX7_strip_12 : decode cX7_strip 12 = .ok (.iload_n 2, 1) := okD_get dqa_64 6 rfl
theorem dX7_strip_13 : decode cX7_strip 13 = .ok (.sipush 400, 3) := okD_get dqa_64 7 rfl
theorem dX7_strip_16 : decode cX7_strip 16 = .ok (.invokestatic 68, 3) := okD_get dqa_64 8 rfl
theorem dX7_strip_19 : decode cX7_strip 19 = .ok (.ifCond .eq 12, 3) := okD_get dqa_64 9 rfl
theorem dX7_strip_22 : decode cX7_strip 22 = .ok (.iload_n 3, 1) := okD_get dqa_64 10 rfl
theorem dX7_strip_23 : decode cX7_strip 23 = .ok (.bipush 19, 2) := okD_get dqa_64 11 rfl
theorem dX7_strip_25 : decode cX7_strip 25 = .ok (.invokestatic 68, 3) := okD_get dqa_64 12 rfl
theorem dX7_strip_28 : decode cX7_strip 28 = .ok (.ifCond .ne 9, 3) := okD_get dqa_64 13 rfl
theorem dX7_strip_31 : decode cX7_strip 31 = .ok (.aload_n 0, 1) := okD_get dqa_64 14 rfl
theorem dX7_strip_32 : decode cX7_strip 32 = .ok (.iconst (-1), 1) := okD_get dqa_64 15 rfl
theorem dX7_strip_33 : decode cX7_strip 33 = .ok (.invokevirtual 76, 3) := okD_get dqa_64 16 rfl
theorem dX7_strip_36 : decode cX7_strip 36 = .ok (.ireturn, 1) := okD_get dqa_64 17 rfl
theorem dX7_strip_37 : decode cX7_strip 37 = .ok (.aload_n 0, 1) := okD_get dqa_64 18 rfl
theorem dX7_strip_38 : decode cX7_strip 38 = .ok (.getfield 19, 3) := okD_get dqa_64 19 rfl
theorem dX7_strip_41 : decode cX7_strip 41 = .ok (.getfield 101, 3) := okD_get dqa_64 20 rfl
theorem dX7_strip_44 : decode cX7_strip 44 = .ok (.bipush 24, 2) := okD_get dqa_64 21 rfl
theorem dX7_strip_46 : decode cX7_strip 46 = .ok (.if_icmp .lt 10, 3) := okD_get dqa_64 22 rfl
theorem dX7_strip_49 : decode cX7_strip 49 = .ok (.aload_n 0, 1) := okD_get dqa_64 23 rfl
theorem dX7_strip_50 : decode cX7_strip 50 = .ok (.bipush (-5), 2) := okD_get dqa_64 24 rfl
theorem dX7_strip_52 : decode cX7_strip 52 = .ok (.invokevirtual 76, 3) := okD_get dqa_64 25 rfl
theorem dX7_strip_55 : decode cX7_strip 55 = .ok (.ireturn, 1) := okD_get dqa_64 26 rfl
theorem dX7_strip_56 : decode cX7_strip 56 = .ok (.aload_n 0, 1) := okD_get dqa_64 27 rfl
theorem dX7_strip_57 : decode cX7_strip 57 = .ok (.getfield 19, 3) := okD_get dqa_64 28 rfl
theorem dX7_strip_60 : decode cX7_strip 60 = .ok (.iload_n 1, 1) := okD_get dqa_64 29 rfl
theorem dX7_strip_61 : decode cX7_strip 61 = .ok (.iload_n 2, 1) := okD_get dqa_64 30 rfl
theorem dX7_strip_62 : decode cX7_strip 62 = .ok (.iload_n 3, 1) := okD_get dqa_64 31 rfl
theorem dX7_strip_63 : decode cX7_strip 63 = .ok (.invokevirtual 104, 3) := okD_get dqa_64 32 rfl
theorem dX7_strip_66 : decode cX7_strip 66 = .ok (.aload_n 0, 1) := okD_get dqa_64 33 rfl
theorem dX7_strip_67 : decode cX7_strip 67 = .ok (.aload_n 0, 1) := okD_get dqa_64 34 rfl
theorem dX7_strip_68 : decode cX7_strip 68 = .ok (.getfield 19, 3) := okD_get dqa_64 35 rfl
theorem dX7_strip_71 : decode cX7_strip 71 = .ok (.getfield 101, 3) := okD_get dqa_64 36 rfl
theorem dX7_strip_74 : decode cX7_strip 74 = .ok (.iconst 1, 1) := okD_get dqa_64 37 rfl
theorem dX7_strip_75 : decode cX7_strip 75 = .ok (.isub, 1) := okD_get dqa_64 38 rfl
theorem dX7_strip_76 : decode cX7_strip 76 = .ok (.invokevirtual 87, 3) := okD_get dqa_64 39 rfl
theorem dqa_65 : okD cX7_strip [(79, (.ireturn, 1))] = true := by decide +kernel
theorem dX7_strip_79 : decode cX7_strip 79 = .ok (.ireturn, 1) := okD_get dqa_65 0 rfl
theorem dqa_66 : okD cX7_of [(0, (.aload_n 0, 1)), (1, (.getfield 19, 3)), (4, (.iload_n 1, 1)), (5, (.invokevirtual 107, 3)), (8, (.ifCond .ne 5, 3)), (11, (.iconst (-1), 1)), (12, (.ireturn, 1)), (13, (.iload_n 2, 1)), (14, (.tableswitch 70 0 3 #[30, 40, 50, 60], 30)), (44, (.aload_n 0, 1)), (45, (.getfield 19, 3)), (48, (.getfield 110, 3)), (51, (.iload_n 1, 1)), (52, (.iaload, 1)), (53, (.ireturn, 1)), (54, (.aload_n 0, 1)), (55, (.getfield 19, 3)), (58, (.getfield 113, 3)), (61, (.iload_n 1, 1)), (62, (.iaload, 1)), (63, (.ireturn, 1)), (64, (.aload_n 0, 1)), (65, (.getfield 19, 3)), (68, (.getfield 116, 3)), (71, (.iload_n 1, 1)), (72, (.iaload, 1)), (73, (.ireturn, 1)), (74, (.aload_n 0, 1)), (75, (.getfield 19, 3)), (78, (.getfield 119, 3)), (81, (.iload_n 1, 1)), (82, (.iaload, 1)), (83, (.ireturn, 1)), (84, (.iconst (-1), 1)), (85, (.ireturn, 1))] = true := by decide +kernel
theorem dX7_of_0 : decode cX7_of 0 = .ok (.aload_n 0, 1) := okD_get dqa_66 0 rfl
theorem dX7_of_1 : decode cX7_of 1 = .ok (.getfield 19, 3) := okD_get dqa_66 1 rfl
theorem dX7_of_4 : decode cX7_of 4 = .ok (.iload_n 1, 1) := okD_get dqa_66 2 rfl
theorem dX7_of_5 : decode cX7_of 5 = .ok (.invokevirtual 107, 3) := okD_get dqa_66 3 rfl
theorem dX7_of_8 : decode cX7_of 8 = .ok (.ifCond .ne 5, 3) := okD_get dqa_66 4 rfl
theorem dX7_of_11 : decode cX7_of 11 = .ok (.iconst (-1), 1) := okD_get dqa_66 5 rfl
theorem dX7_of_12 : decode cX7_of 12 = .ok (.ireturn, 1) := okD_get dqa_66 6 rfl
theorem dX7_of_13 : decode cX7_of 13 = .ok (.iload_n 2, 1) := okD_get dqa_66 7 rfl
theorem dX7_of_14 : decode cX7_of 14 = .ok (.tableswitch 70 0 3 #[30, 40, 50, 60], 30) := okD_get dqa_66 8 rfl
theorem dX7_of_44 : decode cX7_of 44 = .ok (.aload_n 0, 1) := okD_get dqa_66 9 rfl
theorem dX7_of_45 : decode cX7_of 45 = .ok (.getfield 19, 3) := okD_get dqa_66 10 rfl
theorem dX7_of_48 : decode cX7_of 48 = .ok (.getfield 110, 3) := okD_get dqa_66 11 rfl
theorem dX7_of_51 : decode cX7_of 51 = .ok (.iload_n 1, 1) := okD_get dqa_66 12 rfl
theorem dX7_of_52 : decode cX7_of 52 = .ok (.iaload, 1) := okD_get dqa_66 13 rfl
theorem dX7_of_53 : decode cX7_of 53 = .ok (.ireturn, 1) := okD_get dqa_66 14 rfl
theorem dX7_of_54 : decode cX7_of 54 = .ok (.aload_n 0, 1) := okD_get dqa_66 15 rfl
theorem dX7_of_55 : decode cX7_of 55 = .ok (.getfield 19, 3) := okD_get dqa_66 16 rfl
theorem dX7_of_58 : decode cX7_of 58 = .ok (.getfield 113, 3) := okD_get dqa_66 17 rfl
theorem dX7_of_61 : decode cX7_of 61 = .ok (.iload_n 1, 1) := okD_get dqa_66 18 rfl
theorem dX7_of_62 : decode cX7_of 62 = .ok (.iaload, 1) := okD_get dqa_66 19 rfl
theorem dX7_of_63 : decode cX7_of 63 = .ok (.ireturn, 1) := okD_get dqa_66 20 rfl
theorem dX7_of_64 : decode cX7_of 64 = .ok (.aload_n 0, 1) := okD_get dqa_66 21 rfl
theorem dX7_of_65 : decode cX7_of 65 = .ok (.getfield 19, 3) := okD_get dqa_66 22 rfl
theorem dX7_of_68 : decode cX7_of 68 = .ok (.getfield 116, 3) := okD_get dqa_66 23 rfl
theorem dX7_of_71 : decode cX7_of 71 = .ok (.iload_n 1, 1) := okD_get dqa_66 24 rfl
theorem dX7_of_72 : decode cX7_of 72 = .ok (.iaload, 1) := okD_get dqa_66 25 rfl
theorem dX7_of_73 : decode cX7_of 73 = .ok (.ireturn, 1) := okD_get dqa_66 26 rfl
theorem dX7_of_74 : decode cX7_of 74 = .ok (.aload_n 0, 1) := okD_get dqa_66 27 rfl
theorem dX7_of_75 : decode cX7_of 75 = .ok (.getfield 19, 3) := okD_get dqa_66 28 rfl
theorem dX7_of_78 : decode cX7_of 78 = .ok (.getfield 119, 3) := okD_get dqa_66 29 rfl
theorem dX7_of_81 : decode cX7_of 81 = .ok (.iload_n 1, 1) := okD_get dqa_66 30 rfl
theorem dX7_of_82 : decode cX7_of 82 = .ok (.iaload, 1) := okD_get dqa_66 31 rfl
theorem dX7_of_83 : decode cX7_of 83 = .ok (.ireturn, 1) := okD_get dqa_66 32 rfl
theorem dX7_of_84 : decode cX7_of 84 = .ok (.iconst (-1), 1) := okD_get dqa_66 33 rfl
theorem dX7_of_85 : decode cX7_of 85 = .ok (.ireturn, 1) := okD_get dqa_66 34 rfl
theorem dqa_67 : okD cX7_lose [(0, (.aload_n 0, 1)), (1, (.getfield 19, 3)), (4, (.iload_n 1, 1)), (5, (.invokevirtual 122, 3)), (8, (.ifCond .ne 10, 3)), (11, (.aload_n 0, 1)), (12, (.bipush (-2), 2)), (14, (.invokevirtual 76, 3)), (17, (.ireturn, 1)), (18, (.aload_n 0, 1)), (19, (.getfield 19, 3)), (22, (.iload_n 1, 1)), (23, (.invokevirtual 125, 3)), (26, (.ifCond .ne 15, 3)), (29, (.aload_n 0, 1)), (30, (.getfield 19, 3)), (33, (.getfield 128, 3)), (36, (.iload_n 1, 1)), (37, (.baload, 1)), (38, (.ifCond .eq 10, 3)), (41, (.aload_n 0, 1)), (42, (.bipush (-3), 2)), (44, (.invokevirtual 76, 3)), (47, (.ireturn, 1)), (48, (.aload_n 0, 1)), (49, (.getfield 19, 3)), (52, (.getfield 128, 3)), (55, (.iload_n 1, 1)), (56, (.iconst 1, 1)), (57, (.bastore, 1)), (58, (.aload_n 0, 1)), (59, (.iconst 0, 1)), (60, (.invokevirtual 87, 3)), (63, (.ireturn, 1))] = true := by decide +kernel
theorem dX7_lose_0 : decode cX7_lose 0 = .ok (.aload_n 0, 1) := okD_get dqa_67 0 rfl
theorem dX7_lose_1 : decode cX7_lose 1 = .ok (.getfield 19, 3) := okD_get dqa_67 1 rfl
theorem dX7_lose_4 : decode cX7_lose 4 = .ok (.iload_n 1, 1) := okD_get dqa_67 2 rfl
theorem dX7_lose_5 : decode cX7_lose 5 = .ok (.invokevirtual 122, 3) := okD_get dqa_67 3 rfl
theorem dX7_lose_8 : decode cX7_lose 8 = .ok (.ifCond .ne 10, 3) := okD_get dqa_67 4 rfl
theorem dX7_lose_11 : decode cX7_lose 11 = .ok (.aload_n 0, 1) := okD_get dqa_67 5 rfl
theorem dX7_lose_12 : decode cX7_lose 12 = .ok (.bipush (-2), 2) := okD_get dqa_67 6 rfl
theorem dX7_lose_14 : decode cX7_lose 14 = .ok (.invokevirtual 76, 3) := okD_get dqa_67 7 rfl
theorem dX7_lose_17 : decode cX7_lose 17 = .ok (.ireturn, 1) := okD_get dqa_67 8 rfl
theorem dX7_lose_18 : decode cX7_lose 18 = .ok (.aload_n 0, 1) := okD_get dqa_67 9 rfl
theorem dX7_lose_19 : decode cX7_lose 19 = .ok (.getfield 19, 3) := okD_get dqa_67 10 rfl
theorem dX7_lose_22 : decode cX7_lose 22 = .ok (.iload_n 1, 1) := okD_get dqa_67 11 rfl
theorem dX7_lose_23 : decode cX7_lose 23 = .ok (.invokevirtual 125, 3) := okD_get dqa_67 12 rfl
theorem dX7_lose_26 : decode cX7_lose 26 = .ok (.ifCond .ne 15, 3) := okD_get dqa_67 13 rfl
theorem dX7_lose_29 : decode cX7_lose 29 = .ok (.aload_n 0, 1) := okD_get dqa_67 14 rfl
theorem dX7_lose_30 : decode cX7_lose 30 = .ok (.getfield 19, 3) := okD_get dqa_67 15 rfl
theorem dX7_lose_33 : decode cX7_lose 33 = .ok (.getfield 128, 3) := okD_get dqa_67 16 rfl
theorem dX7_lose_36 : decode cX7_lose 36 = .ok (.iload_n 1, 1) := okD_get dqa_67 17 rfl
theorem dX7_lose_37 : decode cX7_lose 37 = .ok (.baload, 1) := okD_get dqa_67 18 rfl
theorem dX7_lose_38 : decode cX7_lose 38 = .ok (.ifCond .eq 10, 3) := okD_get dqa_67 19 rfl
theorem dX7_lose_41 : decode cX7_lose 41 = .ok (.aload_n 0, 1) := okD_get dqa_67 20 rfl
theorem dX7_lose_42 : decode cX7_lose 42 = .ok (.bipush (-3), 2) := okD_get dqa_67 21 rfl
theorem dX7_lose_44 : decode cX7_lose 44 = .ok (.invokevirtual 76, 3) := okD_get dqa_67 22 rfl
theorem dX7_lose_47 : decode cX7_lose 47 = .ok (.ireturn, 1) := okD_get dqa_67 23 rfl
theorem dX7_lose_48 : decode cX7_lose 48 = .ok (.aload_n 0, 1) := okD_get dqa_67 24 rfl
theorem dX7_lose_49 : decode cX7_lose 49 = .ok (.getfield 19, 3) := okD_get dqa_67 25 rfl
theorem dX7_lose_52 : decode cX7_lose 52 = .ok (.getfield 128, 3) := okD_get dqa_67 26 rfl
theorem dX7_lose_55 : decode cX7_lose 55 = .ok (.iload_n 1, 1) := okD_get dqa_67 27 rfl
theorem dX7_lose_56 : decode cX7_lose 56 = .ok (.iconst 1, 1) := okD_get dqa_67 28 rfl
theorem dX7_lose_57 : decode cX7_lose 57 = .ok (.bastore, 1) := okD_get dqa_67 29 rfl
theorem dX7_lose_58 : decode cX7_lose 58 = .ok (.aload_n 0, 1) := okD_get dqa_67 30 rfl
theorem dX7_lose_59 : decode cX7_lose 59 = .ok (.iconst 0, 1) := okD_get dqa_67 31 rfl
theorem dX7_lose_60 : decode cX7_lose 60 = .ok (.invokevirtual 87, 3) := okD_get dqa_67 32 rfl
theorem dX7_lose_63 : decode cX7_lose 63 = .ok (.ireturn, 1) := okD_get dqa_67 33 rfl
theorem dqa_68 : okD cX7_draw [(0, (.iload_n 2, 1)), (1, (.iload_n 1, 1)), (2, (.if_icmp .le 13, 3)), (5, (.iload_n 3, 1)), (6, (.sipush 10000, 3)), (9, (.invokestatic 68, 3)), (12, (.ifCond .ne 9, 3)), (15, (.aload_n 0, 1)), (16, (.iconst (-1), 1)), (17, (.invokevirtual 76, 3)), (20, (.ireturn, 1)), (21, (.aload_n 0, 1)), (22, (.getfield 19, 3)), (25, (.iload_n 1, 1)), (26, (.invokevirtual 122, 3)), (29, (.ifCond .eq 14, 3)), (32, (.aload_n 0, 1)), (33, (.getfield 19, 3)), (36, (.iload_n 2, 1)), (37, (.invokevirtual 122, 3)), (40, (.ifCond .ne 10, 3)), (43, (.aload_n 0, 1)), (44, (.bipush (-2), 2)), (46, (.invokevirtual 76, 3)), (49, (.ireturn, 1)), (50, (.aload_n 0, 1)), (51, (.getfield 19, 3)), (54, (.iload_n 1, 1)), (55, (.iload_n 2, 1)), (56, (.invokevirtual 132, 3)), (59, (.ifCond .ne 10, 3)), (62, (.aload_n 0, 1)), (63, (.bipush (-3), 2)), (65, (.invokevirtual 76, 3)), (68, (.ireturn, 1)), (69, (.aload_n 0, 1)), (70, (.getfield 19, 3)), (73, (.iload_n 1, 1)), (74, (.iload_n 2, 1)), (75, (.iload_n 3, 1))] = true := by decide +kernel
theorem dX7_draw_0 : decode cX7_draw 0 = .ok (.iload_n 2, 1) := okD_get dqa_68 0 rfl
theorem dX7_draw_1 : decode cX7_draw 1 = .ok (.iload_n 1, 1) := okD_get dqa_68 1 rfl
theorem dX7_draw_2 : decode cX7_draw 2 = .ok (.if_icmp .le 13, 3) := okD_get dqa_68 2 rfl
theorem dX7_draw_5 : decode cX7_draw 5 = .ok (.iload_n 3, 1) := okD_get dqa_68 3 rfl
theorem dX7_draw_6 : decode cX7_draw 6 = .ok (.sipush 10000, 3) := okD_get dqa_68 4 rfl
theorem dX7_draw_9 : decode cX7_draw 9 = .ok (.invokestatic 68, 3) := okD_get dqa_68 5 rfl
theorem dX7_draw_12 : decode cX7_draw 12 = .ok (.ifCond .ne 9, 3) := okD_get dqa_68 6 rfl
theorem dX7_draw_15 : decode cX7_draw 15 = .ok (.aload_n 0, 1) := okD_get dqa_68 7 rfl
theorem dX7_draw_16 : decode cX7_draw 16 = .ok (.iconst (-1), 1) := okD_get dqa_68 8 rfl
theorem dX7_draw_17 : decode cX7_draw 17 = .ok (.invokevirtual 76, 3) := okD_get dqa_68 9 rfl
theorem dX7_draw_20 : decode cX7_draw 20 = .ok (.ireturn, 1) := okD_get dqa_68 10 rfl
theorem dX7_draw_21 : decode cX7_draw 21 = .ok (.aload_n 0, 1) := okD_get dqa_68 11 rfl
theorem dX7_draw_22 : decode cX7_draw 22 = .ok (.getfield 19, 3) := okD_get dqa_68 12 rfl
theorem dX7_draw_25 : decode cX7_draw 25 = .ok (.iload_n 1, 1) := okD_get dqa_68 13 rfl
theorem dX7_draw_26 : decode cX7_draw 26 = .ok (.invokevirtual 122, 3) := okD_get dqa_68 14 rfl
theorem dX7_draw_29 : decode cX7_draw 29 = .ok (.ifCond .eq 14, 3) := okD_get dqa_68 15 rfl
theorem dX7_draw_32 : decode cX7_draw 32 = .ok (.aload_n 0, 1) := okD_get dqa_68 16 rfl
theorem dX7_draw_33 : decode cX7_draw 33 = .ok (.getfield 19, 3) := okD_get dqa_68 17 rfl
theorem dX7_draw_36 : decode cX7_draw 36 = .ok (.iload_n 2, 1) := okD_get dqa_68 18 rfl
theorem dX7_draw_37 : decode cX7_draw 37 = .ok (.invokevirtual 122, 3) := okD_get dqa_68 19 rfl
theorem dX7_draw_40 : decode cX7_draw 40 = .ok (.ifCond .ne 10, 3) := okD_get dqa_68 20 rfl
theorem dX7_draw_43 : decode cX7_draw 43 = .ok (.aload_n 0, 1) := okD_get dqa_68 21 rfl
theorem dX7_draw_44 : decode cX7_draw 44 = .ok (.bipush (-2), 2) := okD_get dqa_68 22 rfl
theorem dX7_draw_46 : decode cX7_draw 46 = .ok (.invokevirtual 76, 3) := okD_get dqa_68 23 rfl
theorem dX7_draw_49 : decode cX7_draw 49 = .ok (.ireturn, 1) := okD_get dqa_68 24 rfl
theorem dX7_draw_50 : decode cX7_draw 50 = .ok (.aload_n 0, 1) := okD_get dqa_68 25 rfl
theorem dX7_draw_51 : decode cX7_draw 51 = .ok (.getfield 19, 3) := okD_get dqa_68 26 rfl
theorem dX7_draw_54 : decode cX7_draw 54 = .ok (.iload_n 1, 1) := okD_get dqa_68 27 rfl
theorem dX7_draw_55 : decode cX7_draw 55 = .ok (.iload_n 2, 1) := okD_get dqa_68 28 rfl
theorem dX7_draw_56 : decode cX7_draw 56 = .ok (.invokevirtual 132, 3) := okD_get dqa_68 29 rfl
theorem dX7_draw_59 : decode cX7_draw 59 = .ok (.ifCond .ne 10, 3) := okD_get dqa_68 30 rfl
theorem dX7_draw_62 : decode cX7_draw 62 = .ok (.aload_n 0, 1) := okD_get dqa_68 31 rfl
theorem dX7_draw_63 : decode cX7_draw 63 = .ok (.bipush (-3), 2) := okD_get dqa_68 32 rfl
theorem dX7_draw_65 : decode cX7_draw 65 = .ok (.invokevirtual 76, 3) := okD_get dqa_68 33 rfl
theorem dX7_draw_68 : decode cX7_draw 68 = .ok (.ireturn, 1) := okD_get dqa_68 34 rfl
theorem dX7_draw_69 : decode cX7_draw 69 = .ok (.aload_n 0, 1) := okD_get dqa_68 35 rfl
theorem dX7_draw_70 : decode cX7_draw 70 = .ok (.getfield 19, 3) := okD_get dqa_68 36 rfl
theorem dX7_draw_73 : decode cX7_draw 73 = .ok (.iload_n 1, 1) := okD_get dqa_68 37 rfl
theorem dX7_draw_74 : decode cX7_draw 74 = .ok (.iload_n 2, 1) := okD_get dqa_68 38 rfl
theorem dX7_draw_75 : decode cX7_draw 75 = .ok (.iload_n 3, 1) := okD_get dqa_68 39 rfl
theorem dqa_69 : okD cX7_draw [(76, (.invokevirtual 135, 3)), (79, (.aload_n 0, 1)), (80, (.aload_n 0, 1)), (81, (.getfield 19, 3)), (84, (.iload_n 1, 1)), (85, (.iload_n 2, 1)), (86, (.invokevirtual 138, 3)), (89, (.invokevirtual 87, 3)), (92, (.ireturn, 1))] = true := by decide +kernel
theorem dX7_draw_76 : decode cX7_draw 76 = .ok (.invokevirtual 135, 3) := okD_get dqa_69 0 rfl
theorem dX7_draw_79 : decode cX7_draw 79 = .ok (.aload_n 0, 1) := okD_get dqa_69 1 rfl
theorem dX7_draw_80 : decode cX7_draw 80 = .ok (.aload_n 0, 1) := okD_get dqa_69 2 rfl
theorem dX7_draw_81 : decode cX7_draw 81 = .ok (.getfield 19, 3) := okD_get dqa_69 3 rfl
theorem dX7_draw_84 : decode cX7_draw 84 = .ok (.iload_n 1, 1) := okD_get dqa_69 4 rfl
theorem dX7_draw_85 : decode cX7_draw 85 = .ok (.iload_n 2, 1) := okD_get dqa_69 5 rfl
theorem dX7_draw_86 : decode cX7_draw 86 = .ok (.invokevirtual 138, 3) := okD_get dqa_69 6 rfl
theorem dX7_draw_89 : decode cX7_draw 89 = .ok (.invokevirtual 87, 3) := okD_get dqa_69 7 rfl
theorem dX7_draw_92 : decode cX7_draw 92 = .ok (.ireturn, 1) := okD_get dqa_69 8 rfl
theorem dqa_70 : okD cX7_stands [(0, (.aload_n 0, 1)), (1, (.getfield 19, 3)), (4, (.iload_n 1, 1)), (5, (.invokevirtual 122, 3)), (8, (.ifCond .ne 5, 3)), (11, (.iconst (-1), 1)), (12, (.ireturn, 1)), (13, (.aload_n 0, 1)), (14, (.getfield 19, 3)), (17, (.getfield 128, 3)), (20, (.iload_n 1, 1)), (21, (.baload, 1)), (22, (.ifCond .eq 7, 3)), (25, (.iconst 0, 1)), (26, (.goto 4, 3)), (29, (.iconst 1, 1)), (30, (.ireturn, 1))] = true := by decide +kernel
theorem dX7_stands_0 : decode cX7_stands 0 = .ok (.aload_n 0, 1) := okD_get dqa_70 0 rfl
theorem dX7_stands_1 : decode cX7_stands 1 = .ok (.getfield 19, 3) := okD_get dqa_70 1 rfl
theorem dX7_stands_4 : decode cX7_stands 4 = .ok (.iload_n 1, 1) := okD_get dqa_70 2 rfl
theorem dX7_stands_5 : decode cX7_stands 5 = .ok (.invokevirtual 122, 3) := okD_get dqa_70 3 rfl
theorem dX7_stands_8 : decode cX7_stands 8 = .ok (.ifCond .ne 5, 3) := okD_get dqa_70 4 rfl
theorem dX7_stands_11 : decode cX7_stands 11 = .ok (.iconst (-1), 1) := okD_get dqa_70 5 rfl
theorem dX7_stands_12 : decode cX7_stands 12 = .ok (.ireturn, 1) := okD_get dqa_70 6 rfl
theorem dX7_stands_13 : decode cX7_stands 13 = .ok (.aload_n 0, 1) := okD_get dqa_70 7 rfl
theorem dX7_stands_14 : decode cX7_stands 14 = .ok (.getfield 19, 3) := okD_get dqa_70 8 rfl
theorem dX7_stands_17 : decode cX7_stands 17 = .ok (.getfield 128, 3) := okD_get dqa_70 9 rfl
theorem dX7_stands_20 : decode cX7_stands 20 = .ok (.iload_n 1, 1) := okD_get dqa_70 10 rfl
theorem dX7_stands_21 : decode cX7_stands 21 = .ok (.baload, 1) := okD_get dqa_70 11 rfl
theorem dX7_stands_22 : decode cX7_stands 22 = .ok (.ifCond .eq 7, 3) := okD_get dqa_70 12 rfl
theorem dX7_stands_25 : decode cX7_stands 25 = .ok (.iconst 0, 1) := okD_get dqa_70 13 rfl
theorem dX7_stands_26 : decode cX7_stands 26 = .ok (.goto 4, 3) := okD_get dqa_70 14 rfl
theorem dX7_stands_29 : decode cX7_stands 29 = .ok (.iconst 1, 1) := okD_get dqa_70 15 rfl
theorem dX7_stands_30 : decode cX7_stands 30 = .ok (.ireturn, 1) := okD_get dqa_70 16 rfl
theorem dqa_71 : okD cX7_table [(0, (.iload_n 1, 1)), (1, (.bipush 7, 2)), (3, (.invokestatic 68, 3)), (6, (.ifCond .eq 21, 3)), (9, (.iload_n 2, 1)), (10, (.bipush 120, 2)), (12, (.invokestatic 68, 3)), (15, (.ifCond .eq 12, 3)), (18, (.iload_n 3, 1)), (19, (.bipush 100, 2)), (21, (.invokestatic 68, 3)), (24, (.ifCond .ne 9, 3)), (27, (.aload_n 0, 1)), (28, (.iconst (-1), 1)), (29, (.invokevirtual 76, 3)), (32, (.ireturn, 1)), (33, (.aload_n 0, 1)), (34, (.getfield 26, 3)), (37, (.getfield 142, 3)), (40, (.iload_n 1, 1)), (41, (.iload_n 2, 1)), (42, (.iastore, 1)), (43, (.aload_n 0, 1)), (44, (.getfield 26, 3)), (47, (.getfield 145, 3)), (50, (.iload_n 1, 1)), (51, (.iload_n 3, 1)), (52, (.iastore, 1)), (53, (.aload_n 0, 1)), (54, (.iconst 0, 1)), (55, (.invokevirtual 87, 3)), (58, (.ireturn, 1))] = true := by decide +kernel
theorem dX7_table_0 : decode cX7_table 0 = .ok (.iload_n 1, 1) := okD_get dqa_71 0 rfl
theorem dX7_table_1 : decode cX7_table 1 = .ok (.bipush 7, 2) := okD_get dqa_71 1 rfl
theorem dX7_table_3 : decode cX7_table 3 = .ok (.invokestatic 68, 3) := okD_get dqa_71 2 rfl
theorem dX7_table_6 : decode cX7_table 6 = .ok (.ifCond .eq 21, 3) := okD_get dqa_71 3 rfl
theorem dX7_table_9 : decode cX7_table 9 = .ok (.iload_n 2, 1) := okD_get dqa_71 4 rfl
theorem dX7_table_10 : decode cX7_table 10 = .ok (.bipush 120, 2) := okD_get dqa_71 5 rfl
theorem dX7_table_12 : decode cX7_table 12 = .ok (.invokestatic 68, 3) := okD_get dqa_71 6 rfl
theorem dX7_table_15 : decode cX7_table 15 = .ok (.ifCond .eq 12, 3) := okD_get dqa_71 7 rfl
theorem dX7_table_18 : decode cX7_table 18 = .ok (.iload_n 3, 1) := okD_get dqa_71 8 rfl
theorem dX7_table_19 : decode cX7_table 19 = .ok (.bipush 100, 2) := okD_get dqa_71 9 rfl
theorem dX7_table_21 : decode cX7_table 21 = .ok (.invokestatic 68, 3) := okD_get dqa_71 10 rfl
theorem dX7_table_24 : decode cX7_table 24 = .ok (.ifCond .ne 9, 3) := okD_get dqa_71 11 rfl
theorem dX7_table_27 : decode cX7_table 27 = .ok (.aload_n 0, 1) := okD_get dqa_71 12 rfl
theorem dX7_table_28 : decode cX7_table 28 = .ok (.iconst (-1), 1) := okD_get dqa_71 13 rfl
theorem dX7_table_29 : decode cX7_table 29 = .ok (.invokevirtual 76, 3) := okD_get dqa_71 14 rfl
theorem dX7_table_32 : decode cX7_table 32 = .ok (.ireturn, 1) := okD_get dqa_71 15 rfl
theorem dX7_table_33 : decode cX7_table 33 = .ok (.aload_n 0, 1) := okD_get dqa_71 16 rfl
theorem dX7_table_34 : decode cX7_table 34 = .ok (.getfield 26, 3) := okD_get dqa_71 17 rfl
theorem dX7_table_37 : decode cX7_table 37 = .ok (.getfield 142, 3) := okD_get dqa_71 18 rfl
theorem dX7_table_40 : decode cX7_table 40 = .ok (.iload_n 1, 1) := okD_get dqa_71 19 rfl
theorem dX7_table_41 : decode cX7_table 41 = .ok (.iload_n 2, 1) := okD_get dqa_71 20 rfl
theorem dX7_table_42 : decode cX7_table 42 = .ok (.iastore, 1) := okD_get dqa_71 21 rfl
theorem dX7_table_43 : decode cX7_table 43 = .ok (.aload_n 0, 1) := okD_get dqa_71 22 rfl
theorem dX7_table_44 : decode cX7_table 44 = .ok (.getfield 26, 3) := okD_get dqa_71 23 rfl
theorem dX7_table_47 : decode cX7_table 47 = .ok (.getfield 145, 3) := okD_get dqa_71 24 rfl
theorem dX7_table_50 : decode cX7_table 50 = .ok (.iload_n 1, 1) := okD_get dqa_71 25 rfl
theorem dX7_table_51 : decode cX7_table 51 = .ok (.iload_n 3, 1) := okD_get dqa_71 26 rfl
theorem dX7_table_52 : decode cX7_table 52 = .ok (.iastore, 1) := okD_get dqa_71 27 rfl
theorem dX7_table_53 : decode cX7_table 53 = .ok (.aload_n 0, 1) := okD_get dqa_71 28 rfl
theorem dX7_table_54 : decode cX7_table 54 = .ok (.iconst 0, 1) := okD_get dqa_71 29 rfl
theorem dX7_table_55 : decode cX7_table 55 = .ok (.invokevirtual 87, 3) := okD_get dqa_71 30 rfl
theorem dX7_table_58 : decode cX7_table 58 = .ok (.ireturn, 1) := okD_get dqa_71 31 rfl
theorem dqa_72 : okD cX7_wet [(0, (.aload_n 0, 1)), (1, (.getfield 19, 3)), (4, (.iload_n 1, 1)), (5, (.invokevirtual 107, 3)), (8, (.ifCond .eq 10, 3)), (11, (.iload_n 2, 1)), (12, (.invokestatic 72, 3)), (15, (.ifCond .ne 5, 3)), (18, (.iconst (-1), 1)), (19, (.ireturn, 1)), (20, (.aload_n 0, 1)), (21, (.getfield 10, 3)), (24, (.iload_n 2, 1)), (25, (.invokevirtual 90, 3)), (28, (.aload_n 0, 1)), (29, (.getfield 10, 3)), (32, (.aload_n 0, 1)), (33, (.getfield 19, 3)), (36, (.getfield 116, 3)), (39, (.iload_n 1, 1)), (40, (.iaload, 1)), (41, (.invokevirtual 148, 3)), (44, (.ireturn, 1))] = true := by decide +kernel
theorem dX7_wet_0 : decode cX7_wet 0 = .ok (.aload_n 0, 1) := okD_get dqa_72 0 rfl
theorem dX7_wet_1 : decode cX7_wet 1 = .ok (.getfield 19, 3) := okD_get dqa_72 1 rfl
theorem dX7_wet_4 : decode cX7_wet 4 = .ok (.iload_n 1, 1) := okD_get dqa_72 2 rfl
theorem dX7_wet_5 : decode cX7_wet 5 = .ok (.invokevirtual 107, 3) := okD_get dqa_72 3 rfl
theorem dX7_wet_8 : decode cX7_wet 8 = .ok (.ifCond .eq 10, 3) := okD_get dqa_72 4 rfl
theorem dX7_wet_11 : decode cX7_wet 11 = .ok (.iload_n 2, 1) := okD_get dqa_72 5 rfl
theorem dX7_wet_12 : decode cX7_wet 12 = .ok (.invokestatic 72, 3) := okD_get dqa_72 6 rfl
theorem dX7_wet_15 : decode cX7_wet 15 = .ok (.ifCond .ne 5, 3) := okD_get dqa_72 7 rfl
theorem dX7_wet_18 : decode cX7_wet 18 = .ok (.iconst (-1), 1) := okD_get dqa_72 8 rfl
theorem dX7_wet_19 : decode cX7_wet 19 = .ok (.ireturn, 1) := okD_get dqa_72 9 rfl
theorem dX7_wet_20 : decode cX7_wet 20 = .ok (.aload_n 0, 1) := okD_get dqa_72 10 rfl
theorem dX7_wet_21 : decode cX7_wet 21 = .ok (.getfield 10, 3) := okD_get dqa_72 11 rfl
theorem dX7_wet_24 : decode cX7_wet 24 = .ok (.iload_n 2, 1) := okD_get dqa_72 12 rfl
theorem dX7_wet_25 : decode cX7_wet 25 = .ok (.invokevirtual 90, 3) := okD_get dqa_72 13 rfl
theorem dX7_wet_28 : decode cX7_wet 28 = .ok (.aload_n 0, 1) := okD_get dqa_72 14 rfl
theorem dX7_wet_29 : decode cX7_wet 29 = .ok (.getfield 10, 3) := okD_get dqa_72 15 rfl
theorem dX7_wet_32 : decode cX7_wet 32 = .ok (.aload_n 0, 1) := okD_get dqa_72 16 rfl
theorem dX7_wet_33 : decode cX7_wet 33 = .ok (.getfield 19, 3) := okD_get dqa_72 17 rfl
theorem dX7_wet_36 : decode cX7_wet 36 = .ok (.getfield 116, 3) := okD_get dqa_72 18 rfl
theorem dX7_wet_39 : decode cX7_wet 39 = .ok (.iload_n 1, 1) := okD_get dqa_72 19 rfl
theorem dX7_wet_40 : decode cX7_wet 40 = .ok (.iaload, 1) := okD_get dqa_72 20 rfl
theorem dX7_wet_41 : decode cX7_wet 41 = .ok (.invokevirtual 148, 3) := okD_get dqa_72 21 rfl
theorem dX7_wet_44 : decode cX7_wet 44 = .ok (.ireturn, 1) := okD_get dqa_72 22 rfl
theorem dqa_73 : okD cX7_harvest [(0, (.aload_n 0, 1)), (1, (.getfield 19, 3)), (4, (.iload_n 1, 1)), (5, (.invokevirtual 107, 3)), (8, (.ifCond .eq 10, 3)), (11, (.iload_n 2, 1)), (12, (.invokestatic 72, 3)), (15, (.ifCond .ne 5, 3)), (18, (.iconst (-1), 1)), (19, (.ireturn, 1)), (20, (.aload_n 0, 1)), (21, (.getfield 10, 3)), (24, (.iload_n 2, 1)), (25, (.invokevirtual 90, 3)), (28, (.aload_n 0, 1)), (29, (.iload_n 1, 1)), (30, (.invokevirtual 151, 3)), (33, (.ireturn, 1))] = true := by decide +kernel
theorem dX7_harvest_0 : decode cX7_harvest 0 = .ok (.aload_n 0, 1) := okD_get dqa_73 0 rfl
theorem dX7_harvest_1 : decode cX7_harvest 1 = .ok (.getfield 19, 3) := okD_get dqa_73 1 rfl
theorem dX7_harvest_4 : decode cX7_harvest 4 = .ok (.iload_n 1, 1) := okD_get dqa_73 2 rfl
theorem dX7_harvest_5 : decode cX7_harvest 5 = .ok (.invokevirtual 107, 3) := okD_get dqa_73 3 rfl
theorem dX7_harvest_8 : decode cX7_harvest 8 = .ok (.ifCond .eq 10, 3) := okD_get dqa_73 4 rfl
theorem dX7_harvest_11 : decode cX7_harvest 11 = .ok (.iload_n 2, 1) := okD_get dqa_73 5 rfl
theorem dX7_harvest_12 : decode cX7_harvest 12 = .ok (.invokestatic 72, 3) := okD_get dqa_73 6 rfl
theorem dX7_harvest_15 : decode cX7_harvest 15 = .ok (.ifCond .ne 5, 3) := okD_get dqa_73 7 rfl
theorem dX7_harvest_18 : decode cX7_harvest 18 = .ok (.iconst (-1), 1) := okD_get dqa_73 8 rfl
theorem dX7_harvest_19 : decode cX7_harvest 19 = .ok (.ireturn, 1) := okD_get dqa_73 9 rfl
theorem dX7_harvest_20 : decode cX7_harvest 20 = .ok (.aload_n 0, 1) := okD_get dqa_73 10 rfl
theorem dX7_harvest_21 : decode cX7_harvest 21 = .ok (.getfield 10, 3) := okD_get dqa_73 11 rfl
theorem dX7_harvest_24 : decode cX7_harvest 24 = .ok (.iload_n 2, 1) := okD_get dqa_73 12 rfl
theorem dX7_harvest_25 : decode cX7_harvest 25 = .ok (.invokevirtual 90, 3) := okD_get dqa_73 13 rfl
theorem dX7_harvest_28 : decode cX7_harvest 28 = .ok (.aload_n 0, 1) := okD_get dqa_73 14 rfl
theorem dX7_harvest_29 : decode cX7_harvest 29 = .ok (.iload_n 1, 1) := okD_get dqa_73 15 rfl
theorem dX7_harvest_30 : decode cX7_harvest 30 = .ok (.invokevirtual 151, 3) := okD_get dqa_73 16 rfl
theorem dX7_harvest_33 : decode cX7_harvest 33 = .ok (.ireturn, 1) := okD_get dqa_73 17 rfl
theorem dqa_74 : okD cX7_foretold [(0, (.aload_n 0, 1)), (1, (.getfield 19, 3)), (4, (.iload_n 1, 1)), (5, (.invokevirtual 107, 3)), (8, (.ifCond .eq 12, 3)), (11, (.iload_n 2, 1)), (12, (.bipush 119, 2)), (14, (.invokestatic 68, 3)), (17, (.ifCond .ne 5, 3)), (20, (.iconst (-1), 1)), (21, (.ireturn, 1)), (22, (.aload_n 0, 1)), (23, (.getfield 10, 3)), (26, (.iload_n 2, 1)), (27, (.iload_n 2, 1)), (28, (.invokevirtual 154, 3)), (31, (.aload_n 0, 1)), (32, (.iload_n 1, 1)), (33, (.invokevirtual 151, 3)), (36, (.ireturn, 1))] = true := by decide +kernel
theorem dX7_foretold_0 : decode cX7_foretold 0 = .ok (.aload_n 0, 1) := okD_get dqa_74 0 rfl
theorem dX7_foretold_1 : decode cX7_foretold 1 = .ok (.getfield 19, 3) := okD_get dqa_74 1 rfl
theorem dX7_foretold_4 : decode cX7_foretold 4 = .ok (.iload_n 1, 1) := okD_get dqa_74 2 rfl
theorem dX7_foretold_5 : decode cX7_foretold 5 = .ok (.invokevirtual 107, 3) := okD_get dqa_74 3 rfl
theorem dX7_foretold_8 : decode cX7_foretold 8 = .ok (.ifCond .eq 12, 3) := okD_get dqa_74 4 rfl
theorem dX7_foretold_11 : decode cX7_foretold 11 = .ok (.iload_n 2, 1) := okD_get dqa_74 5 rfl
theorem dX7_foretold_12 : decode cX7_foretold 12 = .ok (.bipush 119, 2) := okD_get dqa_74 6 rfl
theorem dX7_foretold_14 : decode cX7_foretold 14 = .ok (.invokestatic 68, 3) := okD_get dqa_74 7 rfl
theorem dX7_foretold_17 : decode cX7_foretold 17 = .ok (.ifCond .ne 5, 3) := okD_get dqa_74 8 rfl
theorem dX7_foretold_20 : decode cX7_foretold 20 = .ok (.iconst (-1), 1) := okD_get dqa_74 9 rfl
theorem dX7_foretold_21 : decode cX7_foretold 21 = .ok (.ireturn, 1) := okD_get dqa_74 10 rfl
theorem dX7_foretold_22 : decode cX7_foretold 22 = .ok (.aload_n 0, 1) := okD_get dqa_74 11 rfl
theorem dX7_foretold_23 : decode cX7_foretold 23 = .ok (.getfield 10, 3) := okD_get dqa_74 12 rfl
theorem dX7_foretold_26 : decode cX7_foretold 26 = .ok (.iload_n 2, 1) := okD_get dqa_74 13 rfl
theorem dX7_foretold_27 : decode cX7_foretold 27 = .ok (.iload_n 2, 1) := okD_get dqa_74 14 rfl
theorem dX7_foretold_28 : decode cX7_foretold 28 = .ok (.invokevirtual 154, 3) := okD_get dqa_74 15 rfl
theorem dX7_foretold_31 : decode cX7_foretold 31 = .ok (.aload_n 0, 1) := okD_get dqa_74 16 rfl
theorem dX7_foretold_32 : decode cX7_foretold 32 = .ok (.iload_n 1, 1) := okD_get dqa_74 17 rfl
theorem dX7_foretold_33 : decode cX7_foretold 33 = .ok (.invokevirtual 151, 3) := okD_get dqa_74 18 rfl
theorem dX7_foretold_36 : decode cX7_foretold 36 = .ok (.ireturn, 1) := okD_get dqa_74 19 rfl
theorem dqa_75 : okD cX7_feed [(0, (.aload_n 0, 1)), (1, (.getfield 33, 3)), (4, (.getfield 158, 3)), (7, (.bipush 20, 2)), (9, (.iadd, 1)), (10, (.sipush 200, 3)), (13, (.if_icmp .le 5, 3)), (16, (.iconst (-1), 1)), (17, (.ireturn, 1)), (18, (.aload_n 0, 1)), (19, (.getfield 33, 3)), (22, (.iload_n 1, 1)), (23, (.invokevirtual 161, 3)), (26, (.aload_n 0, 1)), (27, (.getfield 33, 3)), (30, (.iload_n 2, 1)), (31, (.invokevirtual 161, 3)), (34, (.aload_n 0, 1)), (35, (.getfield 33, 3)), (38, (.iload_n 3, 1)), (39, (.invokevirtual 161, 3)), (42, (.aload_n 0, 1)), (43, (.getfield 33, 3)), (46, (.iload 4, 2)), (48, (.invokevirtual 161, 3)), (51, (.aload_n 0, 1)), (52, (.getfield 33, 3)), (55, (.iload 5, 2)), (57, (.invokevirtual 161, 3)), (60, (.aload_n 0, 1)), (61, (.getfield 33, 3)), (64, (.getfield 158, 3)), (67, (.ireturn, 1))] = true := by decide +kernel
theorem dX7_feed_0 : decode cX7_feed 0 = .ok (.aload_n 0, 1) := okD_get dqa_75 0 rfl
theorem dX7_feed_1 : decode cX7_feed 1 = .ok (.getfield 33, 3) := okD_get dqa_75 1 rfl
theorem dX7_feed_4 : decode cX7_feed 4 = .ok (.getfield 158, 3) := okD_get dqa_75 2 rfl
theorem dX7_feed_7 : decode cX7_feed 7 = .ok (.bipush 20, 2) := okD_get dqa_75 3 rfl
theorem dX7_feed_9 : decode cX7_feed 9 = .ok (.iadd, 1) := okD_get dqa_75 4 rfl
theorem dX7_feed_10 : decode cX7_feed 10 = .ok (.sipush 200, 3) := okD_get dqa_75 5 rfl
theorem dX7_feed_13 : decode cX7_feed 13 = .ok (.if_icmp .le 5, 3) := okD_get dqa_75 6 rfl
theorem dX7_feed_16 : decode cX7_feed 16 = .ok (.iconst (-1), 1) := okD_get dqa_75 7 rfl
theorem dX7_feed_17 : decode cX7_feed 17 = .ok (.ireturn, 1) := okD_get dqa_75 8 rfl
theorem dX7_feed_18 : decode cX7_feed 18 = .ok (.aload_n 0, 1) := okD_get dqa_75 9 rfl
theorem dX7_feed_19 : decode cX7_feed 19 = .ok (.getfield 33, 3) := okD_get dqa_75 10 rfl
theorem dX7_feed_22 : decode cX7_feed 22 = .ok (.iload_n 1, 1) := okD_get dqa_75 11 rfl
theorem dX7_feed_23 : decode cX7_feed 23 = .ok (.invokevirtual 161, 3) := okD_get dqa_75 12 rfl
theorem dX7_feed_26 : decode cX7_feed 26 = .ok (.aload_n 0, 1) := okD_get dqa_75 13 rfl
theorem dX7_feed_27 : decode cX7_feed 27 = .ok (.getfield 33, 3) := okD_get dqa_75 14 rfl
theorem dX7_feed_30 : decode cX7_feed 30 = .ok (.iload_n 2, 1) := okD_get dqa_75 15 rfl
theorem dX7_feed_31 : decode cX7_feed 31 = .ok (.invokevirtual 161, 3) := okD_get dqa_75 16 rfl
theorem dX7_feed_34 : decode cX7_feed 34 = .ok (.aload_n 0, 1) := okD_get dqa_75 17 rfl
theorem dX7_feed_35 : decode cX7_feed 35 = .ok (.getfield 33, 3) := okD_get dqa_75 18 rfl
theorem dX7_feed_38 : decode cX7_feed 38 = .ok (.iload_n 3, 1) := okD_get dqa_75 19 rfl
theorem dX7_feed_39 : decode cX7_feed 39 = .ok (.invokevirtual 161, 3) := okD_get dqa_75 20 rfl
theorem dX7_feed_42 : decode cX7_feed 42 = .ok (.aload_n 0, 1) := okD_get dqa_75 21 rfl
theorem dX7_feed_43 : decode cX7_feed 43 = .ok (.getfield 33, 3) := okD_get dqa_75 22 rfl
theorem dX7_feed_46 : decode cX7_feed 46 = .ok (.iload 4, 2) := okD_get dqa_75 23 rfl
theorem dX7_feed_48 : decode cX7_feed 48 = .ok (.invokevirtual 161, 3) := okD_get dqa_75 24 rfl
theorem dX7_feed_51 : decode cX7_feed 51 = .ok (.aload_n 0, 1) := okD_get dqa_75 25 rfl
theorem dX7_feed_52 : decode cX7_feed 52 = .ok (.getfield 33, 3) := okD_get dqa_75 26 rfl
theorem dX7_feed_55 : decode cX7_feed 55 = .ok (.iload 5, 2) := okD_get dqa_75 27 rfl
theorem dX7_feed_57 : decode cX7_feed 57 = .ok (.invokevirtual 161, 3) := okD_get dqa_75 28 rfl
theorem dX7_feed_60 : decode cX7_feed 60 = .ok (.aload_n 0, 1) := okD_get dqa_75 29 rfl
theorem dX7_feed_61 : decode cX7_feed 61 = .ok (.getfield 33, 3) := okD_get dqa_75 30 rfl
theorem dX7_feed_64 : decode cX7_feed 64 = .ok (.getfield 158, 3) := okD_get dqa_75 31 rfl
theorem dX7_feed_67 : decode cX7_feed 67 = .ok (.ireturn, 1) := okD_get dqa_75 32 rfl
theorem dqa_76 : okD cX7_end [(0, (.iload_n 1, 1)), (1, (.aload_n 0, 1)), (2, (.getfield 33, 3)), (5, (.getfield 158, 3)), (8, (.invokestatic 68, 3)), (11, (.ifCond .ne 5, 3)), (14, (.iconst (-1), 1)), (15, (.ireturn, 1)), (16, (.aload_n 0, 1)), (17, (.getfield 33, 3)), (20, (.iload_n 1, 1)), (21, (.putfield 158, 3)), (24, (.iload_n 1, 1)), (25, (.ireturn, 1))] = true := by decide +kernel
theorem dX7_end_0 : decode cX7_end 0 = .ok (.iload_n 1, 1) := okD_get dqa_76 0 rfl
theorem dX7_end_1 : decode cX7_end 1 = .ok (.aload_n 0, 1) := okD_get dqa_76 1 rfl
theorem dX7_end_2 : decode cX7_end 2 = .ok (.getfield 33, 3) := okD_get dqa_76 2 rfl
theorem dX7_end_5 : decode cX7_end 5 = .ok (.getfield 158, 3) := okD_get dqa_76 3 rfl
theorem dX7_end_8 : decode cX7_end 8 = .ok (.invokestatic 68, 3) := okD_get dqa_76 4 rfl
theorem dX7_end_11 : decode cX7_end 11 = .ok (.ifCond .ne 5, 3) := okD_get dqa_76 5 rfl
theorem dX7_end_14 : decode cX7_end 14 = .ok (.iconst (-1), 1) := okD_get dqa_76 6 rfl
theorem dX7_end_15 : decode cX7_end 15 = .ok (.ireturn, 1) := okD_get dqa_76 7 rfl
theorem dX7_end_16 : decode cX7_end 16 = .ok (.aload_n 0, 1) := okD_get dqa_76 8 rfl
theorem dX7_end_17 : decode cX7_end 17 = .ok (.getfield 33, 3) := okD_get dqa_76 9 rfl
theorem dX7_end_20 : decode cX7_end 20 = .ok (.iload_n 1, 1) := okD_get dqa_76 10 rfl
theorem dX7_end_21 : decode cX7_end 21 = .ok (.putfield 158, 3) := okD_get dqa_76 11 rfl
theorem dX7_end_24 : decode cX7_end 24 = .ok (.iload_n 1, 1) := okD_get dqa_76 12 rfl
theorem dX7_end_25 : decode cX7_end 25 = .ok (.ireturn, 1) := okD_get dqa_76 13 rfl
theorem dqa_77 : okD cX7_decrees [(0, (.aload_n 0, 1)), (1, (.aload_n 0, 1)), (2, (.getfield 33, 3)), (5, (.aload_n 0, 1)), (6, (.getfield 58, 3)), (9, (.invokevirtual 164, 3)), (12, (.putfield 61, 3)), (15, (.aload_n 0, 1)), (16, (.getfield 33, 3)), (19, (.iconst 0, 1)), (20, (.putfield 158, 3)), (23, (.aload_n 0, 1)), (24, (.getfield 61, 3)), (27, (.iconst (-1), 1)), (28, (.if_icmp .eq 10, 3)), (31, (.aload_n 0, 1)), (32, (.bipush (-6), 2)), (34, (.invokevirtual 76, 3)), (37, (.ireturn, 1)), (38, (.aload_n 0, 1)), (39, (.getfield 54, 3)), (42, (.astore_n 1, 1)), (43, (.aload_n 0, 1)), (44, (.aload_n 0, 1)), (45, (.getfield 58, 3)), (48, (.putfield 54, 3)), (51, (.aload_n 0, 1)), (52, (.aload_n 1, 1)), (53, (.putfield 58, 3)), (56, (.aload_n 0, 1)), (57, (.aload_n 0, 1)), (58, (.getfield 54, 3)), (61, (.getfield 168, 3)), (64, (.invokevirtual 87, 3)), (67, (.ireturn, 1))] = true := by decide +kernel
theorem dX7_decrees_0 : decode cX7_decrees 0 = .ok (.aload_n 0, 1) := okD_get dqa_77 0 rfl
theorem dX7_decrees_1 : decode cX7_decrees 1 = .ok (.aload_n 0, 1) := okD_get dqa_77 1 rfl
theorem dX7_decrees_2 : decode cX7_decrees 2 = .ok (.getfield 33, 3) := okD_get dqa_77 2 rfl
theorem dX7_decrees_5 : decode cX7_decrees 5 = .ok (.aload_n 0, 1) := okD_get dqa_77 3 rfl
theorem dX7_decrees_6 : decode cX7_decrees 6 = .ok (.getfield 58, 3) := okD_get dqa_77 4 rfl
theorem dX7_decrees_9 : decode cX7_decrees 9 = .ok (.invokevirtual 164, 3) := okD_get dqa_77 5 rfl
theorem dX7_decrees_12 : decode cX7_decrees 12 = .ok (.putfield 61, 3) := okD_get dqa_77 6 rfl
theorem dX7_decrees_15 : decode cX7_decrees 15 = .ok (.aload_n 0, 1) := okD_get dqa_77 7 rfl
theorem dX7_decrees_16 : decode cX7_decrees 16 = .ok (.getfield 33, 3) := okD_get dqa_77 8 rfl
theorem dX7_decrees_19 : decode cX7_decrees 19 = .ok (.iconst 0, 1) := okD_get dqa_77 9 rfl
theorem dX7_decrees_20 : decode cX7_decrees 20 = .ok (.putfield 158, 3) := okD_get dqa_77 10 rfl
theorem dX7_decrees_23 : decode cX7_decrees 23 = .ok (.aload_n 0, 1) := okD_get dqa_77 11 rfl
theorem dX7_decrees_24 : decode cX7_decrees 24 = .ok (.getfield 61, 3) := okD_get dqa_77 12 rfl
theorem dX7_decrees_27 : decode cX7_decrees 27 = .ok (.iconst (-1), 1) := okD_get dqa_77 13 rfl
theorem dX7_decrees_28 : decode cX7_decrees 28 = .ok (.if_icmp .eq 10, 3) := okD_get dqa_77 14 rfl
theorem dX7_decrees_31 : decode cX7_decrees 31 = .ok (.aload_n 0, 1) := okD_get dqa_77 15 rfl
theorem dX7_decrees_32 : decode cX7_decrees 32 = .ok (.bipush (-6), 2) := okD_get dqa_77 16 rfl
theorem dX7_decrees_34 : decode cX7_decrees 34 = .ok (.invokevirtual 76, 3) := okD_get dqa_77 17 rfl
theorem dX7_decrees_37 : decode cX7_decrees 37 = .ok (.ireturn, 1) := okD_get dqa_77 18 rfl
theorem dX7_decrees_38 : decode cX7_decrees 38 = .ok (.aload_n 0, 1) := okD_get dqa_77 19 rfl
theorem dX7_decrees_39 : decode cX7_decrees 39 = .ok (.getfield 54, 3) := okD_get dqa_77 20 rfl
theorem dX7_decrees_42 : decode cX7_decrees 42 = .ok (.astore_n 1, 1) := okD_get dqa_77 21 rfl
theorem dX7_decrees_43 : decode cX7_decrees 43 = .ok (.aload_n 0, 1) := okD_get dqa_77 22 rfl
theorem dX7_decrees_44 : decode cX7_decrees 44 = .ok (.aload_n 0, 1) := okD_get dqa_77 23 rfl
theorem dX7_decrees_45 : decode cX7_decrees 45 = .ok (.getfield 58, 3) := okD_get dqa_77 24 rfl
theorem dX7_decrees_48 : decode cX7_decrees 48 = .ok (.putfield 54, 3) := okD_get dqa_77 25 rfl
theorem dX7_decrees_51 : decode cX7_decrees 51 = .ok (.aload_n 0, 1) := okD_get dqa_77 26 rfl
theorem dX7_decrees_52 : decode cX7_decrees 52 = .ok (.aload_n 1, 1) := okD_get dqa_77 27 rfl
theorem dX7_decrees_53 : decode cX7_decrees 53 = .ok (.putfield 58, 3) := okD_get dqa_77 28 rfl
theorem dX7_decrees_56 : decode cX7_decrees 56 = .ok (.aload_n 0, 1) := okD_get dqa_77 29 rfl
theorem dX7_decrees_57 : decode cX7_decrees 57 = .ok (.aload_n 0, 1) := okD_get dqa_77 30 rfl
theorem dX7_decrees_58 : decode cX7_decrees 58 = .ok (.getfield 54, 3) := okD_get dqa_77 31 rfl
theorem dX7_decrees_61 : decode cX7_decrees 61 = .ok (.getfield 168, 3) := okD_get dqa_77 32 rfl
theorem dX7_decrees_64 : decode cX7_decrees 64 = .ok (.invokevirtual 87, 3) := okD_get dqa_77 33 rfl
theorem dX7_decrees_67 : decode cX7_decrees 67 = .ok (.ireturn, 1) := okD_get dqa_77 34 rfl
theorem dqa_78 : okD cX7_fault [(0, (.aload_n 0, 1)), (1, (.getfield 61, 3)), (4, (.ireturn, 1))] = true := by decide +kernel
theorem dX7_fault_0 : decode cX7_fault 0 = .ok (.aload_n 0, 1) := okD_get dqa_78 0 rfl
theorem dX7_fault_1 : decode cX7_fault 1 = .ok (.getfield 61, 3) := okD_get dqa_78 1 rfl
theorem dX7_fault_4 : decode cX7_fault 4 = .ok (.ireturn, 1) := okD_get dqa_78 2 rfl
theorem dqa_79 : okD cX7_tax [(0, (.aload_n 0, 1)), (1, (.getfield 19, 3)), (4, (.iload_n 1, 1)), (5, (.invokevirtual 107, 3)), (8, (.ifCond .eq 10, 3)), (11, (.iload_n 2, 1)), (12, (.invokestatic 72, 3)), (15, (.ifCond .ne 5, 3)), (18, (.iconst (-1), 1)), (19, (.ireturn, 1)), (20, (.aload_n 0, 1)), (21, (.getfield 10, 3)), (24, (.iload_n 2, 1)), (25, (.invokevirtual 90, 3)), (28, (.aload_n 0, 1)), (29, (.iload_n 1, 1)), (30, (.invokevirtual 171, 3)), (33, (.iload_n 3, 1)), (34, (.tableswitch 74 0 4 #[34, 42, 50, 58, 66], 34)), (68, (.aload_n 0, 1)), (69, (.getfield 40, 3)), (72, (.getfield 174, 3)), (75, (.ireturn, 1)), (76, (.aload_n 0, 1)), (77, (.getfield 40, 3)), (80, (.getfield 177, 3)), (83, (.ireturn, 1)), (84, (.aload_n 0, 1)), (85, (.getfield 40, 3)), (88, (.getfield 180, 3)), (91, (.ireturn, 1)), (92, (.aload_n 0, 1)), (93, (.getfield 40, 3)), (96, (.getfield 183, 3)), (99, (.ireturn, 1)), (100, (.aload_n 0, 1)), (101, (.getfield 40, 3)), (104, (.getfield 186, 3)), (107, (.ireturn, 1)), (108, (.iconst (-1), 1))] = true := by decide +kernel
theorem dX7_tax_0 : decode cX7_tax 0 = .ok (.aload_n 0, 1) := okD_get dqa_79 0 rfl
theorem dX7_tax_1 : decode cX7_tax 1 = .ok (.getfield 19, 3) := okD_get dqa_79 1 rfl
theorem dX7_tax_4 : decode cX7_tax 4 = .ok (.iload_n 1, 1) := okD_get dqa_79 2 rfl
theorem dX7_tax_5 : decode cX7_tax 5 = .ok (.invokevirtual 107, 3) := okD_get dqa_79 3 rfl
theorem dX7_tax_8 : decode cX7_tax 8 = .ok (.ifCond .eq 10, 3) := okD_get dqa_79 4 rfl
theorem dX7_tax_11 : decode cX7_tax 11 = .ok (.iload_n 2, 1) := okD_get dqa_79 5 rfl
theorem dX7_tax_12 : decode cX7_tax 12 = .ok (.invokestatic 72, 3) := okD_get dqa_79 6 rfl
theorem dX7_tax_15 : decode cX7_tax 15 = .ok (.ifCond .ne 5, 3) := okD_get dqa_79 7 rfl
theorem dX7_tax_18 : decode cX7_tax 18 = .ok (.iconst (-1), 1) := okD_get dqa_79 8 rfl
theorem dX7_tax_19 : decode cX7_tax 19 = .ok (.ireturn, 1) := okD_get dqa_79 9 rfl
theorem dX7_tax_20 : decode cX7_tax 20 = .ok (.aload_n 0, 1) := okD_get dqa_79 10 rfl
theorem dX7_tax_21 : decode cX7_tax 21 = .ok (.getfield 10, 3) := okD_get dqa_79 11 rfl
theorem dX7_tax_24 : decode cX7_tax 24 = .ok (.iload_n 2, 1) := okD_get dqa_79 12 rfl
theorem dX7_tax_25 : decode cX7_tax 25 = .ok (.invokevirtual 90, 3) := okD_get dqa_79 13 rfl
theorem dX7_tax_28 : decode cX7_tax 28 = .ok (.aload_n 0, 1) := okD_get dqa_79 14 rfl
theorem dX7_tax_29 : decode cX7_tax 29 = .ok (.iload_n 1, 1) := okD_get dqa_79 15 rfl
theorem dX7_tax_30 : decode cX7_tax 30 = .ok (.invokevirtual 171, 3) := okD_get dqa_79 16 rfl
theorem dX7_tax_33 : decode cX7_tax 33 = .ok (.iload_n 3, 1) := okD_get dqa_79 17 rfl
theorem dX7_tax_34 : decode cX7_tax 34 = .ok (.tableswitch 74 0 4 #[34, 42, 50, 58, 66], 34) := okD_get dqa_79 18 rfl
theorem dX7_tax_68 : decode cX7_tax 68 = .ok (.aload_n 0, 1) := okD_get dqa_79 19 rfl
theorem dX7_tax_69 : decode cX7_tax 69 = .ok (.getfield 40, 3) := okD_get dqa_79 20 rfl
theorem dX7_tax_72 : decode cX7_tax 72 = .ok (.getfield 174, 3) := okD_get dqa_79 21 rfl
theorem dX7_tax_75 : decode cX7_tax 75 = .ok (.ireturn, 1) := okD_get dqa_79 22 rfl
theorem dX7_tax_76 : decode cX7_tax 76 = .ok (.aload_n 0, 1) := okD_get dqa_79 23 rfl
theorem dX7_tax_77 : decode cX7_tax 77 = .ok (.getfield 40, 3) := okD_get dqa_79 24 rfl
theorem dX7_tax_80 : decode cX7_tax 80 = .ok (.getfield 177, 3) := okD_get dqa_79 25 rfl
theorem dX7_tax_83 : decode cX7_tax 83 = .ok (.ireturn, 1) := okD_get dqa_79 26 rfl
theorem dX7_tax_84 : decode cX7_tax 84 = .ok (.aload_n 0, 1) := okD_get dqa_79 27 rfl
theorem dX7_tax_85 : decode cX7_tax 85 = .ok (.getfield 40, 3) := okD_get dqa_79 28 rfl
theorem dX7_tax_88 : decode cX7_tax 88 = .ok (.getfield 180, 3) := okD_get dqa_79 29 rfl
theorem dX7_tax_91 : decode cX7_tax 91 = .ok (.ireturn, 1) := okD_get dqa_79 30 rfl
theorem dX7_tax_92 : decode cX7_tax 92 = .ok (.aload_n 0, 1) := okD_get dqa_79 31 rfl
theorem dX7_tax_93 : decode cX7_tax 93 = .ok (.getfield 40, 3) := okD_get dqa_79 32 rfl
theorem dX7_tax_96 : decode cX7_tax 96 = .ok (.getfield 183, 3) := okD_get dqa_79 33 rfl
theorem dX7_tax_99 : decode cX7_tax 99 = .ok (.ireturn, 1) := okD_get dqa_79 34 rfl
theorem dX7_tax_100 : decode cX7_tax 100 = .ok (.aload_n 0, 1) := okD_get dqa_79 35 rfl
theorem dX7_tax_101 : decode cX7_tax 101 = .ok (.getfield 40, 3) := okD_get dqa_79 36 rfl
theorem dX7_tax_104 : decode cX7_tax 104 = .ok (.getfield 186, 3) := okD_get dqa_79 37 rfl
theorem dX7_tax_107 : decode cX7_tax 107 = .ok (.ireturn, 1) := okD_get dqa_79 38 rfl
theorem dX7_tax_108 : decode cX7_tax 108 = .ok (.iconst (-1), 1) := okD_get dqa_79 39 rfl
theorem dqa_80 : okD cX7_tax [(109, (.ireturn, 1))] = true := by decide +kernel
theorem dX7_tax_109 : decode cX7_tax 109 = .ok (.ireturn, 1) := okD_get dqa_80 0 rfl
theorem dqa_81 : okD cX7_take [(0, (.iload_n 1, 1)), (1, (.bipush 9, 2)), (3, (.invokestatic 68, 3)), (6, (.ifCond .eq 20, 3)), (9, (.iload_n 3, 1)), (10, (.ldc 189, 2)), (12, (.invokestatic 68, 3)), (15, (.ifCond .eq 11, 3)), (18, (.iload 4, 2)), (20, (.invokestatic 72, 3)), (23, (.ifCond .ne 9, 3)), (26, (.aload_n 0, 1)), (27, (.iconst (-1), 1)), (28, (.invokevirtual 76, 3)), (31, (.ireturn, 1)), (32, (.aload_n 0, 1)), (33, (.getfield 19, 3)), (36, (.iload_n 2, 1)), (37, (.invokevirtual 107, 3)), (40, (.ifCond .ne 10, 3)), (43, (.aload_n 0, 1)), (44, (.bipush (-2), 2)), (46, (.invokevirtual 76, 3)), (49, (.ireturn, 1)), (50, (.aload_n 0, 1)), (51, (.getfield 47, 3)), (54, (.getfield 190, 3)), (57, (.sipush 200, 3)), (60, (.if_icmp .lt 10, 3)), (63, (.aload_n 0, 1)), (64, (.bipush (-5), 2)), (66, (.invokevirtual 76, 3)), (69, (.ireturn, 1)), (70, (.aload_n 0, 1)), (71, (.getfield 47, 3)), (74, (.iload_n 1, 1)), (75, (.iload_n 2, 1)), (76, (.iload_n 3, 1)), (77, (.iload 4, 2)), (79, (.invokevirtual 191, 3))] = true := by decide +kernel
theorem dX7_take_0 : decode cX7_take 0 = .ok (.iload_n 1, 1) := okD_get dqa_81 0 rfl
theorem dX7_take_1 : decode cX7_take 1 = .ok (.bipush 9, 2) := okD_get dqa_81 1 rfl
theorem dX7_take_3 : decode cX7_take 3 = .ok (.invokestatic 68, 3) := okD_get dqa_81 2 rfl
theorem dX7_take_6 : decode cX7_take 6 = .ok (.ifCond .eq 20, 3) := okD_get dqa_81 3 rfl
theorem dX7_take_9 : decode cX7_take 9 = .ok (.iload_n 3, 1) := okD_get dqa_81 4 rfl
theorem dX7_take_10 : decode cX7_take 10 = .ok (.ldc 189, 2) := okD_get dqa_81 5 rfl
theorem dX7_take_12 : decode cX7_take 12 = .ok (.invokestatic 68, 3) := okD_get dqa_81 6 rfl
theorem dX7_take_15 : decode cX7_take 15 = .ok (.ifCond .eq 11, 3) := okD_get dqa_81 7 rfl
theorem dX7_take_18 : decode cX7_take 18 = .ok (.iload 4, 2) := okD_get dqa_81 8 rfl
theorem dX7_take_20 : decode cX7_take 20 = .ok (.invokestatic 72, 3) := okD_get dqa_81 9 rfl
theorem dX7_take_23 : decode cX7_take 23 = .ok (.ifCond .ne 9, 3) := okD_get dqa_81 10 rfl
theorem dX7_take_26 : decode cX7_take 26 = .ok (.aload_n 0, 1) := okD_get dqa_81 11 rfl
theorem dX7_take_27 : decode cX7_take 27 = .ok (.iconst (-1), 1) := okD_get dqa_81 12 rfl
theorem dX7_take_28 : decode cX7_take 28 = .ok (.invokevirtual 76, 3) := okD_get dqa_81 13 rfl
theorem dX7_take_31 : decode cX7_take 31 = .ok (.ireturn, 1) := okD_get dqa_81 14 rfl
theorem dX7_take_32 : decode cX7_take 32 = .ok (.aload_n 0, 1) := okD_get dqa_81 15 rfl
theorem dX7_take_33 : decode cX7_take 33 = .ok (.getfield 19, 3) := okD_get dqa_81 16 rfl
theorem dX7_take_36 : decode cX7_take 36 = .ok (.iload_n 2, 1) := okD_get dqa_81 17 rfl
theorem dX7_take_37 : decode cX7_take 37 = .ok (.invokevirtual 107, 3) := okD_get dqa_81 18 rfl
theorem dX7_take_40 : decode cX7_take 40 = .ok (.ifCond .ne 10, 3) := okD_get dqa_81 19 rfl
theorem dX7_take_43 : decode cX7_take 43 = .ok (.aload_n 0, 1) := okD_get dqa_81 20 rfl
theorem dX7_take_44 : decode cX7_take 44 = .ok (.bipush (-2), 2) := okD_get dqa_81 21 rfl
theorem dX7_take_46 : decode cX7_take 46 = .ok (.invokevirtual 76, 3) := okD_get dqa_81 22 rfl
theorem dX7_take_49 : decode cX7_take 49 = .ok (.ireturn, 1) := okD_get dqa_81 23 rfl
theorem dX7_take_50 : decode cX7_take 50 = .ok (.aload_n 0, 1) := okD_get dqa_81 24 rfl
theorem dX7_take_51 : decode cX7_take 51 = .ok (.getfield 47, 3) := okD_get dqa_81 25 rfl
theorem dX7_take_54 : decode cX7_take 54 = .ok (.getfield 190, 3) := okD_get dqa_81 26 rfl
theorem dX7_take_57 : decode cX7_take 57 = .ok (.sipush 200, 3) := okD_get dqa_81 27 rfl
theorem dX7_take_60 : decode cX7_take 60 = .ok (.if_icmp .lt 10, 3) := okD_get dqa_81 28 rfl
theorem dX7_take_63 : decode cX7_take 63 = .ok (.aload_n 0, 1) := okD_get dqa_81 29 rfl
theorem dX7_take_64 : decode cX7_take 64 = .ok (.bipush (-5), 2) := okD_get dqa_81 30 rfl
theorem dX7_take_66 : decode cX7_take 66 = .ok (.invokevirtual 76, 3) := okD_get dqa_81 31 rfl
theorem dX7_take_69 : decode cX7_take 69 = .ok (.ireturn, 1) := okD_get dqa_81 32 rfl
theorem dX7_take_70 : decode cX7_take 70 = .ok (.aload_n 0, 1) := okD_get dqa_81 33 rfl
theorem dX7_take_71 : decode cX7_take 71 = .ok (.getfield 47, 3) := okD_get dqa_81 34 rfl
theorem dX7_take_74 : decode cX7_take 74 = .ok (.iload_n 1, 1) := okD_get dqa_81 35 rfl
theorem dX7_take_75 : decode cX7_take 75 = .ok (.iload_n 2, 1) := okD_get dqa_81 36 rfl
theorem dX7_take_76 : decode cX7_take 76 = .ok (.iload_n 3, 1) := okD_get dqa_81 37 rfl
theorem dX7_take_77 : decode cX7_take 77 = .ok (.iload 4, 2) := okD_get dqa_81 38 rfl
theorem dX7_take_79 : decode cX7_take 79 = .ok (.invokevirtual 191, 3) := okD_get dqa_81 39 rfl
theorem dqa_82 : okD cX7_take [(82, (.aload_n 0, 1)), (83, (.aload_n 0, 1)), (84, (.getfield 47, 3)), (87, (.getfield 190, 3)), (90, (.invokevirtual 87, 3)), (93, (.ireturn, 1))] = true := by decide +kernel
theorem dX7_take_82 : decode cX7_take 82 = .ok (.aload_n 0, 1) := okD_get dqa_82 0 rfl
theorem dX7_take_83 : decode cX7_take 83 = .ok (.aload_n 0, 1) := okD_get dqa_82 1 rfl
theorem dX7_take_84 : decode cX7_take 84 = .ok (.getfield 47, 3) := okD_get dqa_82 2 rfl
theorem dX7_take_87 : decode cX7_take 87 = .ok (.getfield 190, 3) := okD_get dqa_82 3 rfl
theorem dX7_take_90 : decode cX7_take 90 = .ok (.invokevirtual 87, 3) := okD_get dqa_82 4 rfl
theorem dX7_take_93 : decode cX7_take 93 = .ok (.ireturn, 1) := okD_get dqa_82 5 rfl
theorem dqa_83 : okD cX7_gain [(0, (.iload_n 1, 1)), (1, (.bipush 9, 2)), (3, (.invokestatic 68, 3)), (6, (.ifCond .eq 10, 3)), (9, (.iload_n 2, 1)), (10, (.invokestatic 72, 3)), (13, (.ifCond .ne 7, 3)), (16, (.ldc2_w 195, 3)), (19, (.lreturn, 1)), (20, (.aload_n 0, 1)), (21, (.getfield 10, 3)), (24, (.iload_n 2, 1)), (25, (.invokevirtual 90, 3)), (28, (.aload_n 0, 1)), (29, (.getfield 47, 3)), (32, (.iload_n 1, 1)), (33, (.iload_n 2, 1)), (34, (.invokevirtual 197, 3)), (37, (.lconst 0, 1)), (38, (.lstore_n 3, 1)), (39, (.iconst 0, 1)), (40, (.istore 5, 2)), (42, (.iload 5, 2)), (44, (.aload_n 0, 1)), (45, (.getfield 19, 3)), (48, (.getfield 101, 3)), (51, (.if_icmp .ge 31, 3)), (54, (.aload_n 0, 1)), (55, (.getfield 47, 3)), (58, (.getfield 200, 3)), (61, (.iload 5, 2)), (63, (.iaload, 1)), (64, (.ifCond .le 12, 3)), (67, (.lload_n 3, 1)), (68, (.aload_n 0, 1)), (69, (.iload 5, 2)), (71, (.invokevirtual 203, 3)), (74, (.ladd, 1)), (75, (.lstore_n 3, 1)), (76, (.iinc 5 1, 3))] = true := by decide +kernel
theorem dX7_gain_0 : decode cX7_gain 0 = .ok (.iload_n 1, 1) := okD_get dqa_83 0 rfl
theorem dX7_gain_1 : decode cX7_gain 1 = .ok (.bipush 9, 2) := okD_get dqa_83 1 rfl
theorem dX7_gain_3 : decode cX7_gain 3 = .ok (.invokestatic 68, 3) := okD_get dqa_83 2 rfl
theorem dX7_gain_6 : decode cX7_gain 6 = .ok (.ifCond .eq 10, 3) := okD_get dqa_83 3 rfl
theorem dX7_gain_9 : decode cX7_gain 9 = .ok (.iload_n 2, 1) := okD_get dqa_83 4 rfl
theorem dX7_gain_10 : decode cX7_gain 10 = .ok (.invokestatic 72, 3) := okD_get dqa_83 5 rfl
theorem dX7_gain_13 : decode cX7_gain 13 = .ok (.ifCond .ne 7, 3) := okD_get dqa_83 6 rfl
theorem dX7_gain_16 : decode cX7_gain 16 = .ok (.ldc2_w 195, 3) := okD_get dqa_83 7 rfl
theorem dX7_gain_19 : decode cX7_gain 19 = .ok (.lreturn, 1) := okD_get dqa_83 8 rfl
theorem dX7_gain_20 : decode cX7_gain 20 = .ok (.aload_n 0, 1) := okD_get dqa_83 9 rfl
theorem dX7_gain_21 : decode cX7_gain 21 = .ok (.getfield 10, 3) := okD_get dqa_83 10 rfl
theorem dX7_gain_24 : decode cX7_gain 24 = .ok (.iload_n 2, 1) := okD_get dqa_83 11 rfl
theorem dX7_gain_25 : decode cX7_gain 25 = .ok (.invokevirtual 90, 3) := okD_get dqa_83 12 rfl
theorem dX7_gain_28 : decode cX7_gain 28 = .ok (.aload_n 0, 1) := okD_get dqa_83 13 rfl
theorem dX7_gain_29 : decode cX7_gain 29 = .ok (.getfield 47, 3) := okD_get dqa_83 14 rfl
theorem dX7_gain_32 : decode cX7_gain 32 = .ok (.iload_n 1, 1) := okD_get dqa_83 15 rfl
theorem dX7_gain_33 : decode cX7_gain 33 = .ok (.iload_n 2, 1) := okD_get dqa_83 16 rfl
theorem dX7_gain_34 : decode cX7_gain 34 = .ok (.invokevirtual 197, 3) := okD_get dqa_83 17 rfl
theorem dX7_gain_37 : decode cX7_gain 37 = .ok (.lconst 0, 1) := okD_get dqa_83 18 rfl
theorem dX7_gain_38 : decode cX7_gain 38 = .ok (.lstore_n 3, 1) := okD_get dqa_83 19 rfl
theorem dX7_gain_39 : decode cX7_gain 39 = .ok (.iconst 0, 1) := okD_get dqa_83 20 rfl
theorem dX7_gain_40 : decode cX7_gain 40 = .ok (.istore 5, 2) := okD_get dqa_83 21 rfl
theorem dX7_gain_42 : decode cX7_gain 42 = .ok (.iload 5, 2) := okD_get dqa_83 22 rfl
theorem dX7_gain_44 : decode cX7_gain 44 = .ok (.aload_n 0, 1) := okD_get dqa_83 23 rfl
theorem dX7_gain_45 : decode cX7_gain 45 = .ok (.getfield 19, 3) := okD_get dqa_83 24 rfl
theorem dX7_gain_48 : decode cX7_gain 48 = .ok (.getfield 101, 3) := okD_get dqa_83 25 rfl
theorem dX7_gain_51 : decode cX7_gain 51 = .ok (.if_icmp .ge 31, 3) := okD_get dqa_83 26 rfl
theorem dX7_gain_54 : decode cX7_gain 54 = .ok (.aload_n 0, 1) := okD_get dqa_83 27 rfl
theorem dX7_gain_55 : decode cX7_gain 55 = .ok (.getfield 47, 3) := okD_get dqa_83 28 rfl
theorem dX7_gain_58 : decode cX7_gain 58 = .ok (.getfield 200, 3) := okD_get dqa_83 29 rfl
theorem dX7_gain_61 : decode cX7_gain 61 = .ok (.iload 5, 2) := okD_get dqa_83 30 rfl
theorem dX7_gain_63 : decode cX7_gain 63 = .ok (.iaload, 1) := okD_get dqa_83 31 rfl
theorem dX7_gain_64 : decode cX7_gain 64 = .ok (.ifCond .le 12, 3) := okD_get dqa_83 32 rfl
theorem dX7_gain_67 : decode cX7_gain 67 = .ok (.lload_n 3, 1) := okD_get dqa_83 33 rfl
theorem dX7_gain_68 : decode cX7_gain 68 = .ok (.aload_n 0, 1) := okD_get dqa_83 34 rfl
theorem dX7_gain_69 : decode cX7_gain 69 = .ok (.iload 5, 2) := okD_get dqa_83 35 rfl
theorem dX7_gain_71 : decode cX7_gain 71 = .ok (.invokevirtual 203, 3) := okD_get dqa_83 36 rfl
theorem dX7_gain_74 : decode cX7_gain 74 = .ok (.ladd, 1) := okD_get dqa_83 37 rfl
theorem dX7_gain_75 : decode cX7_gain 75 = .ok (.lstore_n 3, 1) := okD_get dqa_83 38 rfl
theorem dX7_gain_76 : decode cX7_gain 76 = .ok (.iinc 5 1, 3) := okD_get dqa_83 39 rfl
theorem dqa_84 : okD cX7_gain [(79, (.goto (-37), 3)), (82, (.lload_n 3, 1)), (83, (.lreturn, 1))] = true := by decide +kernel
theorem dX7_gain_79 : decode cX7_gain 79 = .ok (.goto (-37), 3) := okD_get dqa_84 0 rfl
theorem dX7_gain_82 : decode cX7_gain 82 = .ok (.lload_n 3, 1) := okD_get dqa_84 1 rfl
theorem dX7_gain_83 : decode cX7_gain 83 = .ok (.lreturn, 1) := okD_get dqa_84 2 rfl
theorem dqa_85 : okD cX7_sheaves [(0, (.iload_n 1, 1)), (1, (.invokestatic 72, 3)), (4, (.ifCond .ne 5, 3)), (7, (.iconst (-1), 1)), (8, (.ireturn, 1)), (9, (.aload_n 0, 1)), (10, (.getfield 10, 3)), (13, (.iload_n 1, 1)), (14, (.invokevirtual 90, 3)), (17, (.iconst 0, 1)), (18, (.istore_n 2, 1)), (19, (.iconst 0, 1)), (20, (.istore_n 3, 1)), (21, (.iload_n 3, 1)), (22, (.aload_n 0, 1)), (23, (.getfield 19, 3)), (26, (.getfield 101, 3)), (29, (.if_icmp .ge 17, 3)), (32, (.iload_n 2, 1)), (33, (.aload_n 0, 1)), (34, (.iload_n 3, 1)), (35, (.invokevirtual 151, 3)), (38, (.iadd, 1)), (39, (.istore_n 2, 1)), (40, (.iinc 3 1, 3)), (43, (.goto (-22), 3)), (46, (.iload_n 2, 1)), (47, (.ireturn, 1))] = true := by decide +kernel
theorem dX7_sheaves_0 : decode cX7_sheaves 0 = .ok (.iload_n 1, 1) := okD_get dqa_85 0 rfl
theorem dX7_sheaves_1 : decode cX7_sheaves 1 = .ok (.invokestatic 72, 3) := okD_get dqa_85 1 rfl
theorem dX7_sheaves_4 : decode cX7_sheaves 4 = .ok (.ifCond .ne 5, 3) := okD_get dqa_85 2 rfl
theorem dX7_sheaves_7 : decode cX7_sheaves 7 = .ok (.iconst (-1), 1) := okD_get dqa_85 3 rfl
theorem dX7_sheaves_8 : decode cX7_sheaves 8 = .ok (.ireturn, 1) := okD_get dqa_85 4 rfl
theorem dX7_sheaves_9 : decode cX7_sheaves 9 = .ok (.aload_n 0, 1) := okD_get dqa_85 5 rfl
theorem dX7_sheaves_10 : decode cX7_sheaves 10 = .ok (.getfield 10, 3) := okD_get dqa_85 6 rfl
theorem dX7_sheaves_13 : decode cX7_sheaves 13 = .ok (.iload_n 1, 1) := okD_get dqa_85 7 rfl
theorem dX7_sheaves_14 : decode cX7_sheaves 14 = .ok (.invokevirtual 90, 3) := okD_get dqa_85 8 rfl
theorem dX7_sheaves_17 : decode cX7_sheaves 17 = .ok (.iconst 0, 1) := okD_get dqa_85 9 rfl
theorem dX7_sheaves_18 : decode cX7_sheaves 18 = .ok (.istore_n 2, 1) := okD_get dqa_85 10 rfl
theorem dX7_sheaves_19 : decode cX7_sheaves 19 = .ok (.iconst 0, 1) := okD_get dqa_85 11 rfl
theorem dX7_sheaves_20 : decode cX7_sheaves 20 = .ok (.istore_n 3, 1) := okD_get dqa_85 12 rfl
theorem dX7_sheaves_21 : decode cX7_sheaves 21 = .ok (.iload_n 3, 1) := okD_get dqa_85 13 rfl
theorem dX7_sheaves_22 : decode cX7_sheaves 22 = .ok (.aload_n 0, 1) := okD_get dqa_85 14 rfl
theorem dX7_sheaves_23 : decode cX7_sheaves 23 = .ok (.getfield 19, 3) := okD_get dqa_85 15 rfl
theorem dX7_sheaves_26 : decode cX7_sheaves 26 = .ok (.getfield 101, 3) := okD_get dqa_85 16 rfl
theorem dX7_sheaves_29 : decode cX7_sheaves 29 = .ok (.if_icmp .ge 17, 3) := okD_get dqa_85 17 rfl
theorem dX7_sheaves_32 : decode cX7_sheaves 32 = .ok (.iload_n 2, 1) := okD_get dqa_85 18 rfl
theorem dX7_sheaves_33 : decode cX7_sheaves 33 = .ok (.aload_n 0, 1) := okD_get dqa_85 19 rfl
theorem dX7_sheaves_34 : decode cX7_sheaves 34 = .ok (.iload_n 3, 1) := okD_get dqa_85 20 rfl
theorem dX7_sheaves_35 : decode cX7_sheaves 35 = .ok (.invokevirtual 151, 3) := okD_get dqa_85 21 rfl
theorem dX7_sheaves_38 : decode cX7_sheaves 38 = .ok (.iadd, 1) := okD_get dqa_85 22 rfl
theorem dX7_sheaves_39 : decode cX7_sheaves 39 = .ok (.istore_n 2, 1) := okD_get dqa_85 23 rfl
theorem dX7_sheaves_40 : decode cX7_sheaves 40 = .ok (.iinc 3 1, 3) := okD_get dqa_85 24 rfl
theorem dX7_sheaves_43 : decode cX7_sheaves 43 = .ok (.goto (-22), 3) := okD_get dqa_85 25 rfl
theorem dX7_sheaves_46 : decode cX7_sheaves 46 = .ok (.iload_n 2, 1) := okD_get dqa_85 26 rfl
theorem dX7_sheaves_47 : decode cX7_sheaves 47 = .ok (.ireturn, 1) := okD_get dqa_85 27 rfl
theorem dqa_86 : okD cX7_led [(0, (.iload_n 1, 1)), (1, (.ifCond .lt 18, 3)), (4, (.iload_n 2, 1)), (5, (.invokestatic 72, 3)), (8, (.ifCond .eq 11, 3)), (11, (.iload_n 3, 1)), (12, (.iconst 1, 1)), (13, (.invokestatic 68, 3)), (16, (.ifCond .ne 5, 3)), (19, (.iconst (-1), 1)), (20, (.ireturn, 1)), (21, (.aload_n 0, 1)), (22, (.getfield 10, 3)), (25, (.iload_n 2, 1)), (26, (.invokevirtual 90, 3)), (29, (.iload_n 1, 1)), (30, (.istore 4, 2)), (32, (.iconst 0, 1)), (33, (.istore 5, 2)), (35, (.iload 5, 2)), (37, (.aload_n 0, 1)), (38, (.getfield 19, 3)), (41, (.getfield 101, 3)), (44, (.if_icmp .ge 49, 3)), (47, (.aload_n 0, 1)), (48, (.iload 5, 2)), (50, (.invokevirtual 151, 3)), (53, (.istore 6, 2)), (55, (.iload 4, 2)), (57, (.iload 6, 2)), (59, (.if_icmp .ge 21, 3)), (62, (.iload_n 3, 1)), (63, (.ifCond .ne 8, 3)), (66, (.iload 5, 2)), (68, (.goto 11, 3)), (71, (.aload_n 0, 1)), (72, (.iload 5, 2)), (74, (.iload 4, 2)), (76, (.invokevirtual 207, 3)), (79, (.ireturn, 1))] = true := by decide +kernel
theorem dX7_led_0 : decode cX7_led 0 = .ok (.iload_n 1, 1) := okD_get dqa_86 0 rfl
theorem dX7_led_1 : decode cX7_led 1 = .ok (.ifCond .lt 18, 3) := okD_get dqa_86 1 rfl
theorem dX7_led_4 : decode cX7_led 4 = .ok (.iload_n 2, 1) := okD_get dqa_86 2 rfl
theorem dX7_led_5 : decode cX7_led 5 = .ok (.invokestatic 72, 3) := okD_get dqa_86 3 rfl
theorem dX7_led_8 : decode cX7_led 8 = .ok (.ifCond .eq 11, 3) := okD_get dqa_86 4 rfl
theorem dX7_led_11 : decode cX7_led 11 = .ok (.iload_n 3, 1) := okD_get dqa_86 5 rfl
theorem dX7_led_12 : decode cX7_led 12 = .ok (.iconst 1, 1) := okD_get dqa_86 6 rfl
theorem dX7_led_13 : decode cX7_led 13 = .ok (.invokestatic 68, 3) := okD_get dqa_86 7 rfl
theorem dX7_led_16 : decode cX7_led 16 = .ok (.ifCond .ne 5, 3) := okD_get dqa_86 8 rfl
theorem dX7_led_19 : decode cX7_led 19 = .ok (.iconst (-1), 1) := okD_get dqa_86 9 rfl
theorem dX7_led_20 : decode cX7_led 20 = .ok (.ireturn, 1) := okD_get dqa_86 10 rfl
theorem dX7_led_21 : decode cX7_led 21 = .ok (.aload_n 0, 1) := okD_get dqa_86 11 rfl
theorem dX7_led_22 : decode cX7_led 22 = .ok (.getfield 10, 3) := okD_get dqa_86 12 rfl
theorem dX7_led_25 : decode cX7_led 25 = .ok (.iload_n 2, 1) := okD_get dqa_86 13 rfl
theorem dX7_led_26 : decode cX7_led 26 = .ok (.invokevirtual 90, 3) := okD_get dqa_86 14 rfl
theorem dX7_led_29 : decode cX7_led 29 = .ok (.iload_n 1, 1) := okD_get dqa_86 15 rfl
theorem dX7_led_30 : decode cX7_led 30 = .ok (.istore 4, 2) := okD_get dqa_86 16 rfl
theorem dX7_led_32 : decode cX7_led 32 = .ok (.iconst 0, 1) := okD_get dqa_86 17 rfl
theorem dX7_led_33 : decode cX7_led 33 = .ok (.istore 5, 2) := okD_get dqa_86 18 rfl
theorem dX7_led_35 : decode cX7_led 35 = .ok (.iload 5, 2) := okD_get dqa_86 19 rfl
theorem dX7_led_37 : decode cX7_led 37 = .ok (.aload_n 0, 1) := okD_get dqa_86 20 rfl
theorem dX7_led_38 : decode cX7_led 38 = .ok (.getfield 19, 3) := okD_get dqa_86 21 rfl
theorem dX7_led_41 : decode cX7_led 41 = .ok (.getfield 101, 3) := okD_get dqa_86 22 rfl
theorem dX7_led_44 : decode cX7_led 44 = .ok (.if_icmp .ge 49, 3) := okD_get dqa_86 23 rfl
theorem dX7_led_47 : decode cX7_led 47 = .ok (.aload_n 0, 1) := okD_get dqa_86 24 rfl
theorem dX7_led_48 : decode cX7_led 48 = .ok (.iload 5, 2) := okD_get dqa_86 25 rfl
theorem dX7_led_50 : decode cX7_led 50 = .ok (.invokevirtual 151, 3) := okD_get dqa_86 26 rfl
theorem dX7_led_53 : decode cX7_led 53 = .ok (.istore 6, 2) := okD_get dqa_86 27 rfl
theorem dX7_led_55 : decode cX7_led 55 = .ok (.iload 4, 2) := okD_get dqa_86 28 rfl
theorem dX7_led_57 : decode cX7_led 57 = .ok (.iload 6, 2) := okD_get dqa_86 29 rfl
theorem dX7_led_59 : decode cX7_led 59 = .ok (.if_icmp .ge 21, 3) := okD_get dqa_86 30 rfl
theorem dX7_led_62 : decode cX7_led 62 = .ok (.iload_n 3, 1) := okD_get dqa_86 31 rfl
theorem dX7_led_63 : decode cX7_led 63 = .ok (.ifCond .ne 8, 3) := okD_get dqa_86 32 rfl
theorem dX7_led_66 : decode cX7_led 66 = .ok (.iload 5, 2) := okD_get dqa_86 33 rfl
theorem dX7_led_68 : decode cX7_led 68 = .ok (.goto 11, 3) := okD_get dqa_86 34 rfl
theorem dX7_led_71 : decode cX7_led 71 = .ok (.aload_n 0, 1) := okD_get dqa_86 35 rfl
theorem dX7_led_72 : decode cX7_led 72 = .ok (.iload 5, 2) := okD_get dqa_86 36 rfl
theorem dX7_led_74 : decode cX7_led 74 = .ok (.iload 4, 2) := okD_get dqa_86 37 rfl
theorem dX7_led_76 : decode cX7_led 76 = .ok (.invokevirtual 207, 3) := okD_get dqa_86 38 rfl
theorem dX7_led_79 : decode cX7_led 79 = .ok (.ireturn, 1) := okD_get dqa_86 39 rfl
theorem dqa_87 : okD cX7_led [(80, (.iload 4, 2)), (82, (.iload 6, 2)), (84, (.isub, 1)), (85, (.istore 4, 2)), (87, (.iinc 5 1, 3)), (90, (.goto (-55), 3)), (93, (.iconst (-1), 1)), (94, (.ireturn, 1))] = true := by decide +kernel
theorem dX7_led_80 : decode cX7_led 80 = .ok (.iload 4, 2) := okD_get dqa_87 0 rfl
theorem dX7_led_82 : decode cX7_led 82 = .ok (.iload 6, 2) := okD_get dqa_87 1 rfl
theorem dX7_led_84 : decode cX7_led 84 = .ok (.isub, 1) := okD_get dqa_87 2 rfl
theorem dX7_led_85 : decode cX7_led 85 = .ok (.istore 4, 2) := okD_get dqa_87 3 rfl
theorem dX7_led_87 : decode cX7_led 87 = .ok (.iinc 5 1, 3) := okD_get dqa_87 4 rfl
theorem dX7_led_90 : decode cX7_led 90 = .ok (.goto (-55), 3) := okD_get dqa_87 5 rfl
theorem dX7_led_93 : decode cX7_led 93 = .ok (.iconst (-1), 1) := okD_get dqa_87 6 rfl
theorem dX7_led_94 : decode cX7_led 94 = .ok (.ireturn, 1) := okD_get dqa_87 7 rfl
theorem dqa_88 : okD cX7_count [(0, (.iload_n 1, 1)), (1, (.tableswitch 99 0 6 #[43, 51, 59, 67, 75, 83, 91], 43)), (44, (.aload_n 0, 1)), (45, (.getfield 10, 3)), (48, (.getfield 80, 3)), (51, (.ireturn, 1)), (52, (.aload_n 0, 1)), (53, (.getfield 19, 3)), (56, (.getfield 101, 3)), (59, (.ireturn, 1)), (60, (.aload_n 0, 1)), (61, (.getfield 19, 3)), (64, (.invokevirtual 210, 3)), (67, (.ireturn, 1)), (68, (.aload_n 0, 1)), (69, (.getfield 54, 3)), (72, (.getfield 168, 3)), (75, (.ireturn, 1)), (76, (.aload_n 0, 1)), (77, (.getfield 47, 3)), (80, (.getfield 190, 3)), (83, (.ireturn, 1)), (84, (.aload_n 0, 1)), (85, (.getfield 33, 3)), (88, (.getfield 158, 3)), (91, (.ireturn, 1)), (92, (.aload_n 0, 1)), (93, (.getfield 19, 3)), (96, (.invokevirtual 214, 3)), (99, (.ireturn, 1)), (100, (.iconst (-1), 1)), (101, (.ireturn, 1))] = true := by decide +kernel
theorem dX7_count_0 : decode cX7_count 0 = .ok (.iload_n 1, 1) := okD_get dqa_88 0 rfl
theorem dX7_count_1 : decode cX7_count 1 = .ok (.tableswitch 99 0 6 #[43, 51, 59, 67, 75, 83, 91], 43) := okD_get dqa_88 1 rfl
theorem dX7_count_44 : decode cX7_count 44 = .ok (.aload_n 0, 1) := okD_get dqa_88 2 rfl
theorem dX7_count_45 : decode cX7_count 45 = .ok (.getfield 10, 3) := okD_get dqa_88 3 rfl
theorem dX7_count_48 : decode cX7_count 48 = .ok (.getfield 80, 3) := okD_get dqa_88 4 rfl
theorem dX7_count_51 : decode cX7_count 51 = .ok (.ireturn, 1) := okD_get dqa_88 5 rfl
theorem dX7_count_52 : decode cX7_count 52 = .ok (.aload_n 0, 1) := okD_get dqa_88 6 rfl
theorem dX7_count_53 : decode cX7_count 53 = .ok (.getfield 19, 3) := okD_get dqa_88 7 rfl
theorem dX7_count_56 : decode cX7_count 56 = .ok (.getfield 101, 3) := okD_get dqa_88 8 rfl
theorem dX7_count_59 : decode cX7_count 59 = .ok (.ireturn, 1) := okD_get dqa_88 9 rfl
theorem dX7_count_60 : decode cX7_count 60 = .ok (.aload_n 0, 1) := okD_get dqa_88 10 rfl
theorem dX7_count_61 : decode cX7_count 61 = .ok (.getfield 19, 3) := okD_get dqa_88 11 rfl
theorem dX7_count_64 : decode cX7_count 64 = .ok (.invokevirtual 210, 3) := okD_get dqa_88 12 rfl
theorem dX7_count_67 : decode cX7_count 67 = .ok (.ireturn, 1) := okD_get dqa_88 13 rfl
theorem dX7_count_68 : decode cX7_count 68 = .ok (.aload_n 0, 1) := okD_get dqa_88 14 rfl
theorem dX7_count_69 : decode cX7_count 69 = .ok (.getfield 54, 3) := okD_get dqa_88 15 rfl
theorem dX7_count_72 : decode cX7_count 72 = .ok (.getfield 168, 3) := okD_get dqa_88 16 rfl
theorem dX7_count_75 : decode cX7_count 75 = .ok (.ireturn, 1) := okD_get dqa_88 17 rfl
theorem dX7_count_76 : decode cX7_count 76 = .ok (.aload_n 0, 1) := okD_get dqa_88 18 rfl
theorem dX7_count_77 : decode cX7_count 77 = .ok (.getfield 47, 3) := okD_get dqa_88 19 rfl
theorem dX7_count_80 : decode cX7_count 80 = .ok (.getfield 190, 3) := okD_get dqa_88 20 rfl
theorem dX7_count_83 : decode cX7_count 83 = .ok (.ireturn, 1) := okD_get dqa_88 21 rfl
theorem dX7_count_84 : decode cX7_count 84 = .ok (.aload_n 0, 1) := okD_get dqa_88 22 rfl
theorem dX7_count_85 : decode cX7_count 85 = .ok (.getfield 33, 3) := okD_get dqa_88 23 rfl
theorem dX7_count_88 : decode cX7_count 88 = .ok (.getfield 158, 3) := okD_get dqa_88 24 rfl
theorem dX7_count_91 : decode cX7_count 91 = .ok (.ireturn, 1) := okD_get dqa_88 25 rfl
theorem dX7_count_92 : decode cX7_count 92 = .ok (.aload_n 0, 1) := okD_get dqa_88 26 rfl
theorem dX7_count_93 : decode cX7_count 93 = .ok (.getfield 19, 3) := okD_get dqa_88 27 rfl
theorem dX7_count_96 : decode cX7_count 96 = .ok (.invokevirtual 214, 3) := okD_get dqa_88 28 rfl
theorem dX7_count_99 : decode cX7_count 99 = .ok (.ireturn, 1) := okD_get dqa_88 29 rfl
theorem dX7_count_100 : decode cX7_count 100 = .ok (.iconst (-1), 1) := okD_get dqa_88 30 rfl
theorem dX7_count_101 : decode cX7_count 101 = .ok (.ireturn, 1) := okD_get dqa_88 31 rfl
theorem dqa_89 : okD cX7_status [(0, (.aload_n 0, 1)), (1, (.getfield 65, 3)), (4, (.ireturn, 1))] = true := by decide +kernel
theorem dX7_status_0 : decode cX7_status 0 = .ok (.aload_n 0, 1) := okD_get dqa_89 0 rfl
theorem dX7_status_1 : decode cX7_status 1 = .ok (.getfield 65, 3) := okD_get dqa_89 1 rfl
theorem dX7_status_4 : decode cX7_status 4 = .ok (.ireturn, 1) := okD_get dqa_89 2 rfl
theorem dqa_90 : okD cX7_refuse [(0, (.aload_n 0, 1)), (1, (.iload_n 1, 1)), (2, (.putfield 65, 3)), (5, (.iload_n 1, 1)), (6, (.ireturn, 1))] = true := by decide +kernel
theorem dX7_refuse_0 : decode cX7_refuse 0 = .ok (.aload_n 0, 1) := okD_get dqa_90 0 rfl
theorem dX7_refuse_1 : decode cX7_refuse 1 = .ok (.iload_n 1, 1) := okD_get dqa_90 1 rfl
theorem dX7_refuse_2 : decode cX7_refuse 2 = .ok (.putfield 65, 3) := okD_get dqa_90 2 rfl
theorem dX7_refuse_5 : decode cX7_refuse 5 = .ok (.iload_n 1, 1) := okD_get dqa_90 3 rfl
theorem dX7_refuse_6 : decode cX7_refuse 6 = .ok (.ireturn, 1) := okD_get dqa_90 4 rfl
theorem dqa_91 : okD cX7_accept [(0, (.aload_n 0, 1)), (1, (.iconst 0, 1)), (2, (.putfield 65, 3)), (5, (.iload_n 1, 1)), (6, (.ireturn, 1))] = true := by decide +kernel
theorem dX7_accept_0 : decode cX7_accept 0 = .ok (.aload_n 0, 1) := okD_get dqa_91 0 rfl
theorem dX7_accept_1 : decode cX7_accept 1 = .ok (.iconst 0, 1) := okD_get dqa_91 1 rfl
theorem dX7_accept_2 : decode cX7_accept 2 = .ok (.putfield 65, 3) := okD_get dqa_91 2 rfl
theorem dX7_accept_5 : decode cX7_accept 5 = .ok (.iload_n 1, 1) := okD_get dqa_91 3 rfl
theorem dX7_accept_6 : decode cX7_accept 6 = .ok (.ireturn, 1) := okD_get dqa_91 4 rfl
theorem dqa_92 : okD cX7_harvestSeen [(0, (.aload_n 0, 1)), (1, (.iload_n 1, 1)), (2, (.aload_n 0, 1)), (3, (.getfield 10, 3)), (6, (.aload_n 0, 1)), (7, (.getfield 19, 3)), (10, (.getfield 116, 3)), (13, (.iload_n 1, 1)), (14, (.iaload, 1)), (15, (.invokevirtual 148, 3)), (18, (.invokevirtual 217, 3)), (21, (.ireturn, 1))] = true := by decide +kernel
theorem dX7_harvestSeen_0 : decode cX7_harvestSeen 0 = .ok (.aload_n 0, 1) := okD_get dqa_92 0 rfl
theorem dX7_harvestSeen_1 : decode cX7_harvestSeen 1 = .ok (.iload_n 1, 1) := okD_get dqa_92 1 rfl
theorem dX7_harvestSeen_2 : decode cX7_harvestSeen 2 = .ok (.aload_n 0, 1) := okD_get dqa_92 2 rfl
theorem dX7_harvestSeen_3 : decode cX7_harvestSeen 3 = .ok (.getfield 10, 3) := okD_get dqa_92 3 rfl
theorem dX7_harvestSeen_6 : decode cX7_harvestSeen 6 = .ok (.aload_n 0, 1) := okD_get dqa_92 4 rfl
theorem dX7_harvestSeen_7 : decode cX7_harvestSeen 7 = .ok (.getfield 19, 3) := okD_get dqa_92 5 rfl
theorem dX7_harvestSeen_10 : decode cX7_harvestSeen 10 = .ok (.getfield 116, 3) := okD_get dqa_92 6 rfl
theorem dX7_harvestSeen_13 : decode cX7_harvestSeen 13 = .ok (.iload_n 1, 1) := okD_get dqa_92 7 rfl
theorem dX7_harvestSeen_14 : decode cX7_harvestSeen 14 = .ok (.iaload, 1) := okD_get dqa_92 8 rfl
theorem dX7_harvestSeen_15 : decode cX7_harvestSeen 15 = .ok (.invokevirtual 148, 3) := okD_get dqa_92 9 rfl
theorem dX7_harvestSeen_18 : decode cX7_harvestSeen 18 = .ok (.invokevirtual 217, 3) := okD_get dqa_92 10 rfl
theorem dX7_harvestSeen_21 : decode cX7_harvestSeen 21 = .ok (.ireturn, 1) := okD_get dqa_92 11 rfl
theorem dqa_93 : okD cX7_harvestAfter [(0, (.aload_n 0, 1)), (1, (.getfield 19, 3)), (4, (.getfield 110, 3)), (7, (.iload_n 1, 1)), (8, (.iaload, 1)), (9, (.aload_n 0, 1)), (10, (.getfield 26, 3)), (13, (.iload_n 2, 1)), (14, (.invokevirtual 220, 3)), (17, (.imul, 1)), (18, (.ireturn, 1))] = true := by decide +kernel
theorem dX7_harvestAfter_0 : decode cX7_harvestAfter 0 = .ok (.aload_n 0, 1) := okD_get dqa_93 0 rfl
theorem dX7_harvestAfter_1 : decode cX7_harvestAfter 1 = .ok (.getfield 19, 3) := okD_get dqa_93 1 rfl
theorem dX7_harvestAfter_4 : decode cX7_harvestAfter 4 = .ok (.getfield 110, 3) := okD_get dqa_93 2 rfl
theorem dX7_harvestAfter_7 : decode cX7_harvestAfter 7 = .ok (.iload_n 1, 1) := okD_get dqa_93 3 rfl
theorem dX7_harvestAfter_8 : decode cX7_harvestAfter 8 = .ok (.iaload, 1) := okD_get dqa_93 4 rfl
theorem dX7_harvestAfter_9 : decode cX7_harvestAfter 9 = .ok (.aload_n 0, 1) := okD_get dqa_93 5 rfl
theorem dX7_harvestAfter_10 : decode cX7_harvestAfter 10 = .ok (.getfield 26, 3) := okD_get dqa_93 6 rfl
theorem dX7_harvestAfter_13 : decode cX7_harvestAfter 13 = .ok (.iload_n 2, 1) := okD_get dqa_93 7 rfl
theorem dX7_harvestAfter_14 : decode cX7_harvestAfter 14 = .ok (.invokevirtual 220, 3) := okD_get dqa_93 8 rfl
theorem dX7_harvestAfter_17 : decode cX7_harvestAfter 17 = .ok (.imul, 1) := okD_get dqa_93 9 rfl
theorem dX7_harvestAfter_18 : decode cX7_harvestAfter 18 = .ok (.ireturn, 1) := okD_get dqa_93 10 rfl
theorem dqa_94 : okD cX7_assessSeen [(0, (.aload_n 0, 1)), (1, (.getfield 10, 3)), (4, (.aload_n 0, 1)), (5, (.getfield 19, 3)), (8, (.getfield 116, 3)), (11, (.iload_n 1, 1)), (12, (.iaload, 1)), (13, (.invokevirtual 148, 3)), (16, (.istore_n 2, 1)), (17, (.aload_n 0, 1)), (18, (.getfield 40, 3)), (21, (.aload_n 0, 1)), (22, (.getfield 54, 3)), (25, (.aload_n 0, 1)), (26, (.iload_n 1, 1)), (27, (.iload_n 2, 1)), (28, (.invokevirtual 217, 3)), (31, (.iload_n 2, 1)), (32, (.aload_n 0, 1)), (33, (.getfield 10, 3)), (36, (.getfield 98, 3)), (39, (.invokevirtual 223, 3)), (42, (.return_, 1))] = true := by decide +kernel
theorem dX7_assessSeen_0 : decode cX7_assessSeen 0 = .ok (.aload_n 0, 1) := okD_get dqa_94 0 rfl
theorem dX7_assessSeen_1 : decode cX7_assessSeen 1 = .ok (.getfield 10, 3) := okD_get dqa_94 1 rfl
theorem dX7_assessSeen_4 : decode cX7_assessSeen 4 = .ok (.aload_n 0, 1) := okD_get dqa_94 2 rfl
theorem dX7_assessSeen_5 : decode cX7_assessSeen 5 = .ok (.getfield 19, 3) := okD_get dqa_94 3 rfl
theorem dX7_assessSeen_8 : decode cX7_assessSeen 8 = .ok (.getfield 116, 3) := okD_get dqa_94 4 rfl
theorem dX7_assessSeen_11 : decode cX7_assessSeen 11 = .ok (.iload_n 1, 1) := okD_get dqa_94 5 rfl
theorem dX7_assessSeen_12 : decode cX7_assessSeen 12 = .ok (.iaload, 1) := okD_get dqa_94 6 rfl
theorem dX7_assessSeen_13 : decode cX7_assessSeen 13 = .ok (.invokevirtual 148, 3) := okD_get dqa_94 7 rfl
theorem dX7_assessSeen_16 : decode cX7_assessSeen 16 = .ok (.istore_n 2, 1) := okD_get dqa_94 8 rfl
theorem dX7_assessSeen_17 : decode cX7_assessSeen 17 = .ok (.aload_n 0, 1) := okD_get dqa_94 9 rfl
theorem dX7_assessSeen_18 : decode cX7_assessSeen 18 = .ok (.getfield 40, 3) := okD_get dqa_94 10 rfl
theorem dX7_assessSeen_21 : decode cX7_assessSeen 21 = .ok (.aload_n 0, 1) := okD_get dqa_94 11 rfl
theorem dX7_assessSeen_22 : decode cX7_assessSeen 22 = .ok (.getfield 54, 3) := okD_get dqa_94 12 rfl
theorem dX7_assessSeen_25 : decode cX7_assessSeen 25 = .ok (.aload_n 0, 1) := okD_get dqa_94 13 rfl
theorem dX7_assessSeen_26 : decode cX7_assessSeen 26 = .ok (.iload_n 1, 1) := okD_get dqa_94 14 rfl
theorem dX7_assessSeen_27 : decode cX7_assessSeen 27 = .ok (.iload_n 2, 1) := okD_get dqa_94 15 rfl
theorem dX7_assessSeen_28 : decode cX7_assessSeen 28 = .ok (.invokevirtual 217, 3) := okD_get dqa_94 16 rfl
theorem dX7_assessSeen_31 : decode cX7_assessSeen 31 = .ok (.iload_n 2, 1) := okD_get dqa_94 17 rfl
theorem dX7_assessSeen_32 : decode cX7_assessSeen 32 = .ok (.aload_n 0, 1) := okD_get dqa_94 18 rfl
theorem dX7_assessSeen_33 : decode cX7_assessSeen 33 = .ok (.getfield 10, 3) := okD_get dqa_94 19 rfl
theorem dX7_assessSeen_36 : decode cX7_assessSeen 36 = .ok (.getfield 98, 3) := okD_get dqa_94 20 rfl
theorem dX7_assessSeen_39 : decode cX7_assessSeen 39 = .ok (.invokevirtual 223, 3) := okD_get dqa_94 21 rfl
theorem dX7_assessSeen_42 : decode cX7_assessSeen 42 = .ok (.return_, 1) := okD_get dqa_94 22 rfl
theorem dqa_95 : okD cX7_gainSeen [(0, (.aload_n 0, 1)), (1, (.iload_n 1, 1)), (2, (.invokevirtual 171, 3)), (5, (.aload_n 0, 1)), (6, (.getfield 47, 3)), (9, (.getfield 227, 3)), (12, (.iload_n 1, 1)), (13, (.iaload, 1)), (14, (.i2l, 1)), (15, (.aload_n 0, 1)), (16, (.getfield 40, 3)), (19, (.getfield 174, 3)), (22, (.i2l, 1)), (23, (.lsub, 1)), (24, (.lstore_n 2, 1)), (25, (.lload_n 2, 1)), (26, (.lconst 0, 1)), (27, (.lcmp, 1)), (28, (.ifCond .le 30, 3)), (31, (.lload_n 2, 1)), (32, (.aload_n 0, 1)), (33, (.getfield 47, 3)), (36, (.getfield 200, 3)), (39, (.iload_n 1, 1)), (40, (.iaload, 1)), (41, (.i2l, 1)), (42, (.aload_n 0, 1)), (43, (.getfield 47, 3)), (46, (.getfield 227, 3)), (49, (.iload_n 1, 1)), (50, (.iaload, 1)), (51, (.i2l, 1)), (52, (.invokestatic 230, 3)), (55, (.goto 4, 3)), (58, (.lconst 0, 1)), (59, (.lreturn, 1))] = true := by decide +kernel
theorem dX7_gainSeen_0 : decode cX7_gainSeen 0 = .ok (.aload_n 0, 1) := okD_get dqa_95 0 rfl
theorem dX7_gainSeen_1 : decode cX7_gainSeen 1 = .ok (.iload_n 1, 1) := okD_get dqa_95 1 rfl
theorem dX7_gainSeen_2 : decode cX7_gainSeen 2 = .ok (.invokevirtual 171, 3) := okD_get dqa_95 2 rfl
theorem dX7_gainSeen_5 : decode cX7_gainSeen 5 = .ok (.aload_n 0, 1) := okD_get dqa_95 3 rfl
theorem dX7_gainSeen_6 : decode cX7_gainSeen 6 = .ok (.getfield 47, 3) := okD_get dqa_95 4 rfl
theorem dX7_gainSeen_9 : decode cX7_gainSeen 9 = .ok (.getfield 227, 3) := okD_get dqa_95 5 rfl
theorem dX7_gainSeen_12 : decode cX7_gainSeen 12 = .ok (.iload_n 1, 1) := okD_get dqa_95 6 rfl
theorem dX7_gainSeen_13 : decode cX7_gainSeen 13 = .ok (.iaload, 1) := okD_get dqa_95 7 rfl
theorem dX7_gainSeen_14 : decode cX7_gainSeen 14 = .ok (.i2l, 1) := okD_get dqa_95 8 rfl
theorem dX7_gainSeen_15 : decode cX7_gainSeen 15 = .ok (.aload_n 0, 1) := okD_get dqa_95 9 rfl
theorem dX7_gainSeen_16 : decode cX7_gainSeen 16 = .ok (.getfield 40, 3) := okD_get dqa_95 10 rfl
theorem dX7_gainSeen_19 : decode cX7_gainSeen 19 = .ok (.getfield 174, 3) := okD_get dqa_95 11 rfl
theorem dX7_gainSeen_22 : decode cX7_gainSeen 22 = .ok (.i2l, 1) := okD_get dqa_95 12 rfl
theorem dX7_gainSeen_23 : decode cX7_gainSeen 23 = .ok (.lsub, 1) := okD_get dqa_95 13 rfl
theorem dX7_gainSeen_24 : decode cX7_gainSeen 24 = .ok (.lstore_n 2, 1) := okD_get dqa_95 14 rfl
theorem dX7_gainSeen_25 : decode cX7_gainSeen 25 = .ok (.lload_n 2, 1) := okD_get dqa_95 15 rfl
theorem dX7_gainSeen_26 : decode cX7_gainSeen 26 = .ok (.lconst 0, 1) := okD_get dqa_95 16 rfl
theorem dX7_gainSeen_27 : decode cX7_gainSeen 27 = .ok (.lcmp, 1) := okD_get dqa_95 17 rfl
theorem dX7_gainSeen_28 : decode cX7_gainSeen 28 = .ok (.ifCond .le 30, 3) := okD_get dqa_95 18 rfl
theorem dX7_gainSeen_31 : decode cX7_gainSeen 31 = .ok (.lload_n 2, 1) := okD_get dqa_95 19 rfl
theorem dX7_gainSeen_32 : decode cX7_gainSeen 32 = .ok (.aload_n 0, 1) := okD_get dqa_95 20 rfl
theorem dX7_gainSeen_33 : decode cX7_gainSeen 33 = .ok (.getfield 47, 3) := okD_get dqa_95 21 rfl
theorem dX7_gainSeen_36 : decode cX7_gainSeen 36 = .ok (.getfield 200, 3) := okD_get dqa_95 22 rfl
theorem dX7_gainSeen_39 : decode cX7_gainSeen 39 = .ok (.iload_n 1, 1) := okD_get dqa_95 23 rfl
theorem dX7_gainSeen_40 : decode cX7_gainSeen 40 = .ok (.iaload, 1) := okD_get dqa_95 24 rfl
theorem dX7_gainSeen_41 : decode cX7_gainSeen 41 = .ok (.i2l, 1) := okD_get dqa_95 25 rfl
theorem dX7_gainSeen_42 : decode cX7_gainSeen 42 = .ok (.aload_n 0, 1) := okD_get dqa_95 26 rfl
theorem dX7_gainSeen_43 : decode cX7_gainSeen 43 = .ok (.getfield 47, 3) := okD_get dqa_95 27 rfl
theorem dX7_gainSeen_46 : decode cX7_gainSeen 46 = .ok (.getfield 227, 3) := okD_get dqa_95 28 rfl
theorem dX7_gainSeen_49 : decode cX7_gainSeen 49 = .ok (.iload_n 1, 1) := okD_get dqa_95 29 rfl
theorem dX7_gainSeen_50 : decode cX7_gainSeen 50 = .ok (.iaload, 1) := okD_get dqa_95 30 rfl
theorem dX7_gainSeen_51 : decode cX7_gainSeen 51 = .ok (.i2l, 1) := okD_get dqa_95 31 rfl
theorem dX7_gainSeen_52 : decode cX7_gainSeen 52 = .ok (.invokestatic 230, 3) := okD_get dqa_95 32 rfl
theorem dX7_gainSeen_55 : decode cX7_gainSeen 55 = .ok (.goto 4, 3) := okD_get dqa_95 33 rfl
theorem dX7_gainSeen_58 : decode cX7_gainSeen 58 = .ok (.lconst 0, 1) := okD_get dqa_95 34 rfl
theorem dX7_gainSeen_59 : decode cX7_gainSeen 59 = .ok (.lreturn, 1) := okD_get dqa_95 35 rfl
theorem dqa_96 : okD cX7_whoGets [(0, (.aload_n 0, 1)), (1, (.iload_n 1, 1)), (2, (.invokevirtual 171, 3)), (5, (.iload_n 2, 1)), (6, (.aload_n 0, 1)), (7, (.getfield 40, 3)), (10, (.getfield 180, 3)), (13, (.if_icmp .ge 5, 3)), (16, (.iconst 0, 1)), (17, (.ireturn, 1)), (18, (.iload_n 2, 1)), (19, (.aload_n 0, 1)), (20, (.getfield 40, 3)), (23, (.getfield 174, 3)), (26, (.if_icmp .ge 7, 3)), (29, (.iconst 1, 1)), (30, (.goto 4, 3)), (33, (.iconst 2, 1)), (34, (.ireturn, 1))] = true := by decide +kernel
theorem dX7_whoGets_0 : decode cX7_whoGets 0 = .ok (.aload_n 0, 1) := okD_get dqa_96 0 rfl
theorem dX7_whoGets_1 : decode cX7_whoGets 1 = .ok (.iload_n 1, 1) := okD_get dqa_96 1 rfl
theorem dX7_whoGets_2 : decode cX7_whoGets 2 = .ok (.invokevirtual 171, 3) := okD_get dqa_96 2 rfl
theorem dX7_whoGets_5 : decode cX7_whoGets 5 = .ok (.iload_n 2, 1) := okD_get dqa_96 3 rfl
theorem dX7_whoGets_6 : decode cX7_whoGets 6 = .ok (.aload_n 0, 1) := okD_get dqa_96 4 rfl
theorem dX7_whoGets_7 : decode cX7_whoGets 7 = .ok (.getfield 40, 3) := okD_get dqa_96 5 rfl
theorem dX7_whoGets_10 : decode cX7_whoGets 10 = .ok (.getfield 180, 3) := okD_get dqa_96 6 rfl
theorem dX7_whoGets_13 : decode cX7_whoGets 13 = .ok (.if_icmp .ge 5, 3) := okD_get dqa_96 7 rfl
theorem dX7_whoGets_16 : decode cX7_whoGets 16 = .ok (.iconst 0, 1) := okD_get dqa_96 8 rfl
theorem dX7_whoGets_17 : decode cX7_whoGets 17 = .ok (.ireturn, 1) := okD_get dqa_96 9 rfl
theorem dX7_whoGets_18 : decode cX7_whoGets 18 = .ok (.iload_n 2, 1) := okD_get dqa_96 10 rfl
theorem dX7_whoGets_19 : decode cX7_whoGets 19 = .ok (.aload_n 0, 1) := okD_get dqa_96 11 rfl
theorem dX7_whoGets_20 : decode cX7_whoGets 20 = .ok (.getfield 40, 3) := okD_get dqa_96 12 rfl
theorem dX7_whoGets_23 : decode cX7_whoGets 23 = .ok (.getfield 174, 3) := okD_get dqa_96 13 rfl
theorem dX7_whoGets_26 : decode cX7_whoGets 26 = .ok (.if_icmp .ge 7, 3) := okD_get dqa_96 14 rfl
theorem dX7_whoGets_29 : decode cX7_whoGets 29 = .ok (.iconst 1, 1) := okD_get dqa_96 15 rfl
theorem dX7_whoGets_30 : decode cX7_whoGets 30 = .ok (.goto 4, 3) := okD_get dqa_96 16 rfl
theorem dX7_whoGets_33 : decode cX7_whoGets 33 = .ok (.iconst 2, 1) := okD_get dqa_96 17 rfl
theorem dX7_whoGets_34 : decode cX7_whoGets 34 = .ok (.ireturn, 1) := okD_get dqa_96 18 rfl
theorem dqa_97 : okD cX7_isWithin [(0, (.iload_n 0, 1)), (1, (.ifCond .lt 12, 3)), (4, (.iload_n 0, 1)), (5, (.iload_n 1, 1)), (6, (.if_icmp .gt 7, 3)), (9, (.iconst 1, 1)), (10, (.goto 4, 3)), (13, (.iconst 0, 1)), (14, (.ireturn, 1))] = true := by decide +kernel
theorem dX7_isWithin_0 : decode cX7_isWithin 0 = .ok (.iload_n 0, 1) := okD_get dqa_97 0 rfl
theorem dX7_isWithin_1 : decode cX7_isWithin 1 = .ok (.ifCond .lt 12, 3) := okD_get dqa_97 1 rfl
theorem dX7_isWithin_4 : decode cX7_isWithin 4 = .ok (.iload_n 0, 1) := okD_get dqa_97 2 rfl
theorem dX7_isWithin_5 : decode cX7_isWithin 5 = .ok (.iload_n 1, 1) := okD_get dqa_97 3 rfl
theorem dX7_isWithin_6 : decode cX7_isWithin 6 = .ok (.if_icmp .gt 7, 3) := okD_get dqa_97 4 rfl
theorem dX7_isWithin_9 : decode cX7_isWithin 9 = .ok (.iconst 1, 1) := okD_get dqa_97 5 rfl
theorem dX7_isWithin_10 : decode cX7_isWithin 10 = .ok (.goto 4, 3) := okD_get dqa_97 6 rfl
theorem dX7_isWithin_13 : decode cX7_isWithin 13 = .ok (.iconst 0, 1) := okD_get dqa_97 7 rfl
theorem dX7_isWithin_14 : decode cX7_isWithin 14 = .ok (.ireturn, 1) := okD_get dqa_97 8 rfl
theorem dqa_98 : okD cX7_isKnownDay [(0, (.iload_n 0, 1)), (1, (.sipush 1000, 3)), (4, (.invokestatic 68, 3)), (7, (.ireturn, 1))] = true := by decide +kernel
theorem dX7_isKnownDay_0 : decode cX7_isKnownDay 0 = .ok (.iload_n 0, 1) := okD_get dqa_98 0 rfl
theorem dX7_isKnownDay_1 : decode cX7_isKnownDay 1 = .ok (.sipush 1000, 3) := okD_get dqa_98 1 rfl
theorem dX7_isKnownDay_4 : decode cX7_isKnownDay 4 = .ok (.invokestatic 68, 3) := okD_get dqa_98 2 rfl
theorem dX7_isKnownDay_7 : decode cX7_isKnownDay 7 = .ok (.ireturn, 1) := okD_get dqa_98 3 rfl
theorem dqa_99 : okD cX7_share [(0, (.lload 4, 2)), (2, (.lconst 0, 1)), (3, (.lcmp, 1)), (4, (.ifCond .le 12, 3)), (7, (.lload_n 0, 1)), (8, (.lload_n 2, 1)), (9, (.lmul, 1)), (10, (.lload 4, 2)), (12, (.ldiv, 1)), (13, (.goto 4, 3)), (16, (.lconst 0, 1)), (17, (.lreturn, 1))] = true := by decide +kernel
theorem dX7_share_0 : decode cX7_share 0 = .ok (.lload 4, 2) := okD_get dqa_99 0 rfl
theorem dX7_share_2 : decode cX7_share 2 = .ok (.lconst 0, 1) := okD_get dqa_99 1 rfl
theorem dX7_share_3 : decode cX7_share 3 = .ok (.lcmp, 1) := okD_get dqa_99 2 rfl
theorem dX7_share_4 : decode cX7_share 4 = .ok (.ifCond .le 12, 3) := okD_get dqa_99 3 rfl
theorem dX7_share_7 : decode cX7_share 7 = .ok (.lload_n 0, 1) := okD_get dqa_99 4 rfl
theorem dX7_share_8 : decode cX7_share 8 = .ok (.lload_n 2, 1) := okD_get dqa_99 5 rfl
theorem dX7_share_9 : decode cX7_share 9 = .ok (.lmul, 1) := okD_get dqa_99 6 rfl
theorem dX7_share_10 : decode cX7_share 10 = .ok (.lload 4, 2) := okD_get dqa_99 7 rfl
theorem dX7_share_12 : decode cX7_share 12 = .ok (.ldiv, 1) := okD_get dqa_99 8 rfl
theorem dX7_share_13 : decode cX7_share 13 = .ok (.goto 4, 3) := okD_get dqa_99 9 rfl
theorem dX7_share_16 : decode cX7_share 16 = .ok (.lconst 0, 1) := okD_get dqa_99 10 rfl
theorem dX7_share_17 : decode cX7_share 17 = .ok (.lreturn, 1) := okD_get dqa_99 11 rfl
