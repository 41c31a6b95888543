theorem dJ0_length_8abf5_0 : decode cJ0_length_8abf5 0 = .ok (.aload_n 0, 1) := by decide +kernel
theorem dJ0_length_8abf5_1 : decode cJ0_length_8abf5 1 = .ok (.getfield 9, 3) := by decide +kernel
theorem dJ0_length_8abf5_4 : decode cJ0_length_8abf5 4 = .ok (.arraylength, 1) := by decide +kernel
theorem dJ0_length_8abf5_5 : decode cJ0_length_8abf5 5 = .ok (.aload_n 0, 1) := by decide +kernel
theorem dJ0_length_8abf5_6 : decode cJ0_length_8abf5 6 = .ok (.invokevirtual 335, 3) := by decide +kernel
theorem dJ0_length_8abf5_9 : decode cJ0_length_8abf5 9 = .ok (.ishr, 1) := by decide +kernel
theorem dJ0_length_8abf5_10 : decode cJ0_length_8abf5 10 = .ok (.ireturn, 1) := by decide +kernel
theorem dJ0_charAt_5068e_0 : decode cJ0_charAt_5068e 0 = .ok (.aload_n 0, 1) := by decide +kernel
theorem dJ0_charAt_5068e_1 : decode cJ0_charAt_5068e 1 = .ok (.invokevirtual 492, 3) := by decide +kernel
theorem dJ0_charAt_5068e_4 : decode cJ0_charAt_5068e 4 = .ok (.ifCond .eq 12, 3) := by decide +kernel
theorem dJ0_charAt_5068e_7 : decode cJ0_charAt_5068e 7 = .ok (.aload_n 0, 1) := by decide +kernel
theorem dJ0_charAt_5068e_8 : decode cJ0_charAt_5068e 8 = .ok (.getfield 9, 3) := by decide +kernel
theorem dJ0_charAt_5068e_11 : decode cJ0_charAt_5068e 11 = .ok (.iload_n 1, 1) := by decide +kernel
theorem dJ0_charAt_5068e_12 : decode cJ0_charAt_5068e 12 = .ok (.invokestatic 495, 3) := by decide +kernel
theorem dJ0_charAt_5068e_15 : decode cJ0_charAt_5068e 15 = .ok (.ireturn, 1) := by decide +kernel
theorem dJ0_charAt_5068e_16 : decode cJ0_charAt_5068e 16 = .ok (.aload_n 0, 1) := by decide +kernel
theorem dJ0_charAt_5068e_17 : decode cJ0_charAt_5068e 17 = .ok (.getfield 9, 3) := by decide +kernel
theorem dJ0_charAt_5068e_20 : decode cJ0_charAt_5068e 20 = .ok (.iload_n 1, 1) := by decide +kernel
theorem dJ0_charAt_5068e_21 : decode cJ0_charAt_5068e 21 = .ok (.invokestatic 498, 3) := by decide +kernel
theorem dJ0_charAt_5068e_24 : decode cJ0_charAt_5068e 24 = .ok (.ireturn, 1) := by decide +kernel
theorem dJ0_coder_7d493_0 : decode cJ0_coder_7d493 0 = .ok (.getstatic 38, 3) := by decide +kernel
theorem dJ0_coder_7d493_3 : decode cJ0_coder_7d493 3 = .ok (.ifCond .eq 10, 3) := by decide +kernel
theorem dJ0_coder_7d493_6 : decode cJ0_coder_7d493 6 = .ok (.aload_n 0, 1) := by decide +kernel
theorem dJ0_coder_7d493_7 : decode cJ0_coder_7d493 7 = .ok (.getfield 15, 3) := by decide +kernel
theorem dJ0_coder_7d493_10 : decode cJ0_coder_7d493 10 = .ok (.goto 4, 3) := by decide +kernel
theorem dJ0_coder_7d493_13 : decode cJ0_coder_7d493 13 = .ok (.iconst 1, 1) := by decide +kernel
theorem dJ0_coder_7d493_14 : decode cJ0_coder_7d493 14 = .ok (.ireturn, 1) := by decide +kernel
theorem dJ0_isLatin1_aae02_0 : decode cJ0_isLatin1_aae02 0 = .ok (.getstatic 38, 3) := by decide +kernel
theorem dJ0_isLatin1_aae02_3 : decode cJ0_isLatin1_aae02 3 = .ok (.ifCond .eq 14, 3) := by decide +kernel
theorem dJ0_isLatin1_aae02_6 : decode cJ0_isLatin1_aae02 6 = .ok (.aload_n 0, 1) := by decide +kernel
theorem dJ0_isLatin1_aae02_7 : decode cJ0_isLatin1_aae02 7 = .ok (.getfield 15, 3) := by decide +kernel
theorem dJ0_isLatin1_aae02_10 : decode cJ0_isLatin1_aae02 10 = .ok (.ifCond .ne 7, 3) := by decide +kernel
theorem dJ0_isLatin1_aae02_13 : decode cJ0_isLatin1_aae02 13 = .ok (.iconst 1, 1) := by decide +kernel
theorem dJ0_isLatin1_aae02_14 : decode cJ0_isLatin1_aae02 14 = .ok (.goto 4, 3) := by decide +kernel
theorem dJ0_isLatin1_aae02_17 : decode cJ0_isLatin1_aae02 17 = .ok (.iconst 0, 1) := by decide +kernel
theorem dJ0_isLatin1_aae02_18 : decode cJ0_isLatin1_aae02 18 = .ok (.ireturn, 1) := by decide +kernel
theorem dJ0_checkIndex_df160_0 : decode cJ0_checkIndex_df160 0 = .ok (.iload_n 0, 1) := by decide +kernel
theorem dJ0_checkIndex_df160_1 : decode cJ0_checkIndex_df160 1 = .ok (.iload_n 1, 1) := by decide +kernel
theorem dJ0_checkIndex_df160_2 : decode cJ0_checkIndex_df160 2 = .ok (.getstatic 1053, 3) := by decide +kernel
theorem dJ0_checkIndex_df160_5 : decode cJ0_checkIndex_df160 5 = .ok (.invokestatic 1059, 3) := by decide +kernel
theorem dJ0_checkIndex_df160_8 : decode cJ0_checkIndex_df160 8 = .ok (.pop, 1) := by decide +kernel
theorem dJ0_checkIndex_df160_9 : decode cJ0_checkIndex_df160 9 = .ok (.return_, 1) := by decide +kernel
theorem dJ1_charAt_3b067_0 : decode cJ1_charAt_3b067 0 = .ok (.iload_n 1, 1) := by decide +kernel
theorem dJ1_charAt_3b067_1 : decode cJ1_charAt_3b067 1 = .ok (.aload_n 0, 1) := by decide +kernel
theorem dJ1_charAt_3b067_2 : decode cJ1_charAt_3b067 2 = .ok (.arraylength, 1) := by decide +kernel
theorem dJ1_charAt_3b067_3 : decode cJ1_charAt_3b067 3 = .ok (.invokestatic 9, 3) := by decide +kernel
theorem dJ1_charAt_3b067_6 : decode cJ1_charAt_3b067 6 = .ok (.aload_n 0, 1) := by decide +kernel
theorem dJ1_charAt_3b067_7 : decode cJ1_charAt_3b067 7 = .ok (.iload_n 1, 1) := by decide +kernel
theorem dJ1_charAt_3b067_8 : decode cJ1_charAt_3b067 8 = .ok (.baload, 1) := by decide +kernel
theorem dJ1_charAt_3b067_9 : decode cJ1_charAt_3b067 9 = .ok (.sipush 255, 3) := by decide +kernel
theorem dJ1_charAt_3b067_12 : decode cJ1_charAt_3b067 12 = .ok (.iand, 1) := by decide +kernel
theorem dJ1_charAt_3b067_13 : decode cJ1_charAt_3b067 13 = .ok (.i2c, 1) := by decide +kernel
theorem dJ1_charAt_3b067_14 : decode cJ1_charAt_3b067 14 = .ok (.ireturn, 1) := by decide +kernel
theorem dJ3_checkIndex_8e157_0 : decode cJ3_checkIndex_8e157 0 = .ok (.iload_n 0, 1) := by decide +kernel
theorem dJ3_checkIndex_8e157_1 : decode cJ3_checkIndex_8e157 1 = .ok (.ifCond .lt 8, 3) := by decide +kernel
theorem dJ3_checkIndex_8e157_4 : decode cJ3_checkIndex_8e157 4 = .ok (.iload_n 0, 1) := by decide +kernel
theorem dJ3_checkIndex_8e157_5 : decode cJ3_checkIndex_8e157 5 = .ok (.iload_n 1, 1) := by decide +kernel
theorem dJ3_checkIndex_8e157_6 : decode cJ3_checkIndex_8e157 6 = .ok (.if_icmp .lt 10, 3) := by decide +kernel
theorem dJ3_checkIndex_8e157_9 : decode cJ3_checkIndex_8e157 9 = .ok (.aload_n 2, 1) := by decide +kernel
theorem dJ3_checkIndex_8e157_10 : decode cJ3_checkIndex_8e157 10 = .ok (.iload_n 0, 1) := by decide +kernel
theorem dJ3_checkIndex_8e157_11 : decode cJ3_checkIndex_8e157 11 = .ok (.iload_n 1, 1) := by decide +kernel
theorem dJ3_checkIndex_8e157_12 : decode cJ3_checkIndex_8e157 12 = .ok (.invokestatic 95, 3) := by decide +kernel
theorem dJ3_checkIndex_8e157_15 : decode cJ3_checkIndex_8e157 15 = .ok (.athrow, 1) := by decide +kernel
theorem dJ3_checkIndex_8e157_16 : decode cJ3_checkIndex_8e157 16 = .ok (.iload_n 0, 1) := by decide +kernel
theorem dJ3_checkIndex_8e157_17 : decode cJ3_checkIndex_8e157 17 = .ok (.ireturn, 1) := by decide +kernel
theorem dX0_init_0 : decode cX0_init 0 = .ok (.aload_n 0, 1) := by decide +kernel
theorem dX0_init_1 : decode cX0_init 1 = .ok (.invokespecial 3, 3) := by decide +kernel
theorem dX0_init_4 : decode cX0_init 4 = .ok (.aload_n 0, 1) := by decide +kernel
theorem dX0_init_5 : decode cX0_init 5 = .ok (.bipush 8, 2) := by decide +kernel
theorem dX0_init_7 : decode cX0_init 7 = .ok (.newarray .int, 2) := by decide +kernel
theorem dX0_init_9 : decode cX0_init 9 = .ok (.putfield 9, 3) := by decide +kernel
theorem dX0_init_12 : decode cX0_init 12 = .ok (.aload_n 0, 1) := by decide +kernel
theorem dX0_init_13 : decode cX0_init 13 = .ok (.bipush 8, 2) := by decide +kernel
theorem dX0_init_15 : decode cX0_init 15 = .ok (.newarray .int, 2) := by decide +kernel
theorem dX0_init_17 : decode cX0_init 17 = .ok (.putfield 15, 3) := by decide +kernel
theorem dX0_init_20 : decode cX0_init 20 = .ok (.return_, 1) := by decide +kernel
theorem dX0_borneAfter_0 : decode cX0_borneAfter 0 = .ok (.iconst (-1), 1) := by decide +kernel
theorem dX0_borneAfter_1 : decode cX0_borneAfter 1 = .ok (.istore_n 2, 1) := by decide +kernel
theorem dX0_borneAfter_2 : decode cX0_borneAfter 2 = .ok (.iconst 0, 1) := by decide +kernel
theorem dX0_borneAfter_3 : decode cX0_borneAfter 3 = .ok (.istore_n 3, 1) := by decide +kernel
theorem dX0_borneAfter_4 : decode cX0_borneAfter 4 = .ok (.iconst 0, 1) := by decide +kernel
theorem dX0_borneAfter_5 : decode cX0_borneAfter 5 = .ok (.istore 4, 2) := by decide +kernel
theorem dX0_borneAfter_7 : decode cX0_borneAfter 7 = .ok (.iload 4, 2) := by decide +kernel
theorem dX0_borneAfter_9 : decode cX0_borneAfter 9 = .ok (.bipush 8, 2) := by decide +kernel
theorem dX0_borneAfter_11 : decode cX0_borneAfter 11 = .ok (.if_icmp .ge 47, 3) := by decide +kernel
theorem dX0_borneAfter_14 : decode cX0_borneAfter 14 = .ok (.aload_n 0, 1) := by decide +kernel
theorem dX0_borneAfter_15 : decode cX0_borneAfter 15 = .ok (.getfield 9, 3) := by decide +kernel
theorem dX0_borneAfter_18 : decode cX0_borneAfter 18 = .ok (.iload 4, 2) := by decide +kernel
theorem dX0_borneAfter_20 : decode cX0_borneAfter 20 = .ok (.iaload, 1) := by decide +kernel
theorem dX0_borneAfter_21 : decode cX0_borneAfter 21 = .ok (.iload_n 1, 1) := by decide +kernel
theorem dX0_borneAfter_22 : decode cX0_borneAfter 22 = .ok (.if_icmp .gt 30, 3) := by decide +kernel
theorem dX0_borneAfter_25 : decode cX0_borneAfter 25 = .ok (.aload_n 0, 1) := by decide +kernel
theorem dX0_borneAfter_26 : decode cX0_borneAfter 26 = .ok (.getfield 9, 3) := by decide +kernel
theorem dX0_borneAfter_29 : decode cX0_borneAfter 29 = .ok (.iload 4, 2) := by decide +kernel
theorem dX0_borneAfter_31 : decode cX0_borneAfter 31 = .ok (.iaload, 1) := by decide +kernel
theorem dX0_borneAfter_32 : decode cX0_borneAfter 32 = .ok (.iload_n 2, 1) := by decide +kernel
theorem dX0_borneAfter_33 : decode cX0_borneAfter 33 = .ok (.if_icmp .lt 19, 3) := by decide +kernel
theorem dX0_borneAfter_36 : decode cX0_borneAfter 36 = .ok (.aload_n 0, 1) := by decide +kernel
theorem dX0_borneAfter_37 : decode cX0_borneAfter 37 = .ok (.getfield 9, 3) := by decide +kernel
theorem dX0_borneAfter_40 : decode cX0_borneAfter 40 = .ok (.iload 4, 2) := by decide +kernel
theorem dX0_borneAfter_42 : decode cX0_borneAfter 42 = .ok (.iaload, 1) := by decide +kernel
theorem dX0_borneAfter_43 : decode cX0_borneAfter 43 = .ok (.istore_n 2, 1) := by decide +kernel
theorem dX0_borneAfter_44 : decode cX0_borneAfter 44 = .ok (.aload_n 0, 1) := by decide +kernel
theorem dX0_borneAfter_45 : decode cX0_borneAfter 45 = .ok (.getfield 15, 3) := by decide +kernel
theorem dX0_borneAfter_48 : decode cX0_borneAfter 48 = .ok (.iload 4, 2) := by decide +kernel
theorem dX0_borneAfter_50 : decode cX0_borneAfter 50 = .ok (.iaload, 1) := by decide +kernel
theorem dX0_borneAfter_51 : decode cX0_borneAfter 51 = .ok (.istore_n 3, 1) := by decide +kernel
theorem dX0_borneAfter_52 : decode cX0_borneAfter 52 = .ok (.iinc 4 1, 3) := by decide +kernel
theorem dX0_borneAfter_55 : decode cX0_borneAfter 55 = .ok (.goto (-48), 3) := by decide +kernel
theorem dX0_borneAfter_58 : decode cX0_borneAfter 58 = .ok (.iload_n 3, 1) := by decide +kernel
theorem dX0_borneAfter_59 : decode cX0_borneAfter 59 = .ok (.ireturn, 1) := by decide +kernel
theorem dX1_init_0 : decode cX1_init 0 = .ok (.aload_n 0, 1) := by decide +kernel
theorem dX1_init_1 : decode cX1_init 1 = .ok (.invokespecial 3, 3) := by decide +kernel
theorem dX1_init_4 : decode cX1_init 4 = .ok (.aload_n 0, 1) := by decide +kernel
theorem dX1_init_5 : decode cX1_init 5 = .ok (.bipush 20, 2) := by decide +kernel
theorem dX1_init_7 : decode cX1_init 7 = .ok (.newarray .int, 2) := by decide +kernel
theorem dX1_init_9 : decode cX1_init 9 = .ok (.putfield 9, 3) := by decide +kernel
theorem dX1_init_12 : decode cX1_init 12 = .ok (.aload_n 0, 1) := by decide +kernel
theorem dX1_init_13 : decode cX1_init 13 = .ok (.bipush 20, 2) := by decide +kernel
theorem dX1_init_15 : decode cX1_init 15 = .ok (.newarray .int, 2) := by decide +kernel
theorem dX1_init_17 : decode cX1_init 17 = .ok (.putfield 15, 3) := by decide +kernel
theorem dX1_init_20 : decode cX1_init 20 = .ok (.aload_n 0, 1) := by decide +kernel
theorem dX1_init_21 : decode cX1_init 21 = .ok (.bipush 20, 2) := by decide +kernel
theorem dX1_init_23 : decode cX1_init 23 = .ok (.newarray .int, 2) := by decide +kernel
theorem dX1_init_25 : decode cX1_init 25 = .ok (.putfield 18, 3) := by decide +kernel
theorem dX1_init_28 : decode cX1_init 28 = .ok (.aload_n 0, 1) := by decide +kernel
theorem dX1_init_29 : decode cX1_init 29 = .ok (.bipush 20, 2) := by decide +kernel
theorem dX1_init_31 : decode cX1_init 31 = .ok (.newarray .int, 2) := by decide +kernel
theorem dX1_init_33 : decode cX1_init 33 = .ok (.putfield 21, 3) := by decide +kernel
theorem dX1_init_36 : decode cX1_init 36 = .ok (.aload_n 0, 1) := by decide +kernel
theorem dX1_init_37 : decode cX1_init 37 = .ok (.iconst 0, 1) := by decide +kernel
theorem dX1_init_38 : decode cX1_init 38 = .ok (.putfield 24, 3) := by decide +kernel
theorem dX1_init_41 : decode cX1_init 41 = .ok (.return_, 1) := by decide +kernel
theorem dX1_add_0 : decode cX1_add 0 = .ok (.aload_n 0, 1) := by decide +kernel
theorem dX1_add_1 : decode cX1_add 1 = .ok (.getfield 24, 3) := by decide +kernel
theorem dX1_add_4 : decode cX1_add 4 = .ok (.bipush 20, 2) := by decide +kernel
theorem dX1_add_6 : decode cX1_add 6 = .ok (.if_icmp .ge 54, 3) := by decide +kernel
theorem dX1_add_9 : decode cX1_add 9 = .ok (.aload_n 0, 1) := by decide +kernel
theorem dX1_add_10 : decode cX1_add 10 = .ok (.getfield 9, 3) := by decide +kernel
theorem dX1_add_13 : decode cX1_add 13 = .ok (.aload_n 0, 1) := by decide +kernel
theorem dX1_add_14 : decode cX1_add 14 = .ok (.getfield 24, 3) := by decide +kernel
theorem dX1_add_17 : decode cX1_add 17 = .ok (.iload_n 1, 1) := by decide +kernel
theorem dX1_add_18 : decode cX1_add 18 = .ok (.iastore, 1) := by decide +kernel
theorem dX1_add_19 : decode cX1_add 19 = .ok (.aload_n 0, 1) := by decide +kernel
theorem dX1_add_20 : decode cX1_add 20 = .ok (.getfield 15, 3) := by decide +kernel
theorem dX1_add_23 : decode cX1_add 23 = .ok (.aload_n 0, 1) := by decide +kernel
theorem dX1_add_24 : decode cX1_add 24 = .ok (.getfield 24, 3) := by decide +kernel
theorem dX1_add_27 : decode cX1_add 27 = .ok (.iload_n 2, 1) := by decide +kernel
theorem dX1_add_28 : decode cX1_add 28 = .ok (.iastore, 1) := by decide +kernel
theorem dX1_add_29 : decode cX1_add 29 = .ok (.aload_n 0, 1) := by decide +kernel
theorem dX1_add_30 : decode cX1_add 30 = .ok (.getfield 18, 3) := by decide +kernel
theorem dX1_add_33 : decode cX1_add 33 = .ok (.aload_n 0, 1) := by decide +kernel
theorem dX1_add_34 : decode cX1_add 34 = .ok (.getfield 24, 3) := by decide +kernel
theorem dX1_add_37 : decode cX1_add 37 = .ok (.iload_n 3, 1) := by decide +kernel
theorem dX1_add_38 : decode cX1_add 38 = .ok (.iastore, 1) := by decide +kernel
theorem dX1_add_39 : decode cX1_add 39 = .ok (.aload_n 0, 1) := by decide +kernel
theorem dX1_add_40 : decode cX1_add 40 = .ok (.getfield 21, 3) := by decide +kernel
theorem dX1_add_43 : decode cX1_add 43 = .ok (.aload_n 0, 1) := by decide +kernel
theorem dX1_add_44 : decode cX1_add 44 = .ok (.getfield 24, 3) := by decide +kernel
theorem dX1_add_47 : decode cX1_add 47 = .ok (.iload 4, 2) := by decide +kernel
theorem dX1_add_49 : decode cX1_add 49 = .ok (.iastore, 1) := by decide +kernel
theorem dX1_add_50 : decode cX1_add 50 = .ok (.aload_n 0, 1) := by decide +kernel
theorem dX1_add_51 : decode cX1_add 51 = .ok (.dup, 1) := by decide +kernel
theorem dX1_add_52 : decode cX1_add 52 = .ok (.getfield 24, 3) := by decide +kernel
theorem dX1_add_55 : decode cX1_add 55 = .ok (.iconst 1, 1) := by decide +kernel
theorem dX1_add_56 : decode cX1_add 56 = .ok (.iadd, 1) := by decide +kernel
theorem dX1_add_57 : decode cX1_add 57 = .ok (.putfield 24, 3) := by decide +kernel
theorem dX1_add_60 : decode cX1_add 60 = .ok (.return_, 1) := by decide +kernel
theorem dX1_frees_0 : decode cX1_frees 0 = .ok (.aload_n 0, 1) := by decide +kernel
theorem dX1_frees_1 : decode cX1_frees 1 = .ok (.iconst 2, 1) := by decide +kernel
theorem dX1_frees_2 : decode cX1_frees 2 = .ok (.invokevirtual 28, 3) := by decide +kernel
theorem dX1_frees_5 : decode cX1_frees 5 = .ok (.istore_n 2, 1) := by decide +kernel
theorem dX1_frees_6 : decode cX1_frees 6 = .ok (.iload_n 2, 1) := by decide +kernel
theorem dX1_frees_7 : decode cX1_frees 7 = .ok (.iconst (-1), 1) := by decide +kernel
theorem dX1_frees_8 : decode cX1_frees 8 = .ok (.if_icmp .eq 17, 3) := by decide +kernel
theorem dX1_frees_11 : decode cX1_frees 11 = .ok (.iload_n 1, 1) := by decide +kernel
theorem dX1_frees_12 : decode cX1_frees 12 = .ok (.aload_n 0, 1) := by decide +kernel
theorem dX1_frees_13 : decode cX1_frees 13 = .ok (.getfield 21, 3) := by decide +kernel
theorem dX1_frees_16 : decode cX1_frees 16 = .ok (.iload_n 2, 1) := by decide +kernel
theorem dX1_frees_17 : decode cX1_frees 17 = .ok (.iaload, 1) := by decide +kernel
theorem dX1_frees_18 : decode cX1_frees 18 = .ok (.if_icmp .ge 7, 3) := by decide +kernel
theorem dX1_frees_21 : decode cX1_frees 21 = .ok (.iconst 1, 1) := by decide +kernel
theorem dX1_frees_22 : decode cX1_frees 22 = .ok (.goto 4, 3) := by decide +kernel
theorem dX1_frees_25 : decode cX1_frees 25 = .ok (.iconst 0, 1) := by decide +kernel
theorem dX1_frees_26 : decode cX1_frees 26 = .ok (.ireturn, 1) := by decide +kernel
theorem dX1_taxOn_0 : decode cX1_taxOn 0 = .ok (.iconst (-1), 1) := by decide +kernel
theorem dX1_taxOn_1 : decode cX1_taxOn 1 = .ok (.istore_n 3, 1) := by decide +kernel
theorem dX1_taxOn_2 : decode cX1_taxOn 2 = .ok (.iconst 0, 1) := by decide +kernel
theorem dX1_taxOn_3 : decode cX1_taxOn 3 = .ok (.istore 4, 2) := by decide +kernel
theorem dX1_taxOn_5 : decode cX1_taxOn 5 = .ok (.iload 4, 2) := by decide +kernel
theorem dX1_taxOn_7 : decode cX1_taxOn 7 = .ok (.aload_n 0, 1) := by decide +kernel
theorem dX1_taxOn_8 : decode cX1_taxOn 8 = .ok (.getfield 24, 3) := by decide +kernel
theorem dX1_taxOn_11 : decode cX1_taxOn 11 = .ok (.if_icmp .ge 54, 3) := by decide +kernel
theorem dX1_taxOn_14 : decode cX1_taxOn 14 = .ok (.aload_n 0, 1) := by decide +kernel
theorem dX1_taxOn_15 : decode cX1_taxOn 15 = .ok (.getfield 9, 3) := by decide +kernel
theorem dX1_taxOn_18 : decode cX1_taxOn 18 = .ok (.iload 4, 2) := by decide +kernel
theorem dX1_taxOn_20 : decode cX1_taxOn 20 = .ok (.iaload, 1) := by decide +kernel
theorem dX1_taxOn_21 : decode cX1_taxOn 21 = .ok (.ifCond .ne 38, 3) := by decide +kernel
theorem dX1_taxOn_24 : decode cX1_taxOn 24 = .ok (.aload_n 0, 1) := by decide +kernel
theorem dX1_taxOn_25 : decode cX1_taxOn 25 = .ok (.getfield 21, 3) := by decide +kernel
theorem dX1_taxOn_28 : decode cX1_taxOn 28 = .ok (.iload 4, 2) := by decide +kernel
theorem dX1_taxOn_30 : decode cX1_taxOn 30 = .ok (.iaload, 1) := by decide +kernel
theorem dX1_taxOn_31 : decode cX1_taxOn 31 = .ok (.iload_n 2, 1) := by decide +kernel
theorem dX1_taxOn_32 : decode cX1_taxOn 32 = .ok (.if_icmp .gt 27, 3) := by decide +kernel
theorem dX1_taxOn_35 : decode cX1_taxOn 35 = .ok (.iload_n 3, 1) := by decide +kernel
theorem dX1_taxOn_36 : decode cX1_taxOn 36 = .ok (.iconst (-1), 1) := by decide +kernel
theorem dX1_taxOn_37 : decode cX1_taxOn 37 = .ok (.if_icmp .eq 19, 3) := by decide +kernel
theorem dX1_taxOn_40 : decode cX1_taxOn 40 = .ok (.aload_n 0, 1) := by decide +kernel
theorem dX1_taxOn_41 : decode cX1_taxOn 41 = .ok (.getfield 21, 3) := by decide +kernel
theorem dX1_taxOn_44 : decode cX1_taxOn 44 = .ok (.iload 4, 2) := by decide +kernel
theorem dX1_taxOn_46 : decode cX1_taxOn 46 = .ok (.iaload, 1) := by decide +kernel
theorem dX1_taxOn_47 : decode cX1_taxOn 47 = .ok (.aload_n 0, 1) := by decide +kernel
theorem dX1_taxOn_48 : decode cX1_taxOn 48 = .ok (.getfield 21, 3) := by decide +kernel
theorem dX1_taxOn_51 : decode cX1_taxOn 51 = .ok (.iload_n 3, 1) := by decide +kernel
theorem dX1_taxOn_52 : decode cX1_taxOn 52 = .ok (.iaload, 1) := by decide +kernel
theorem dX1_taxOn_53 : decode cX1_taxOn 53 = .ok (.if_icmp .lt 6, 3) := by decide +kernel
theorem dX1_taxOn_56 : decode cX1_taxOn 56 = .ok (.iload 4, 2) := by decide +kernel
theorem dX1_taxOn_58 : decode cX1_taxOn 58 = .ok (.istore_n 3, 1) := by decide +kernel
theorem dX1_taxOn_59 : decode cX1_taxOn 59 = .ok (.iinc 4 1, 3) := by decide +kernel
theorem dX1_taxOn_62 : decode cX1_taxOn 62 = .ok (.goto (-57), 3) := by decide +kernel
theorem dX1_taxOn_65 : decode cX1_taxOn 65 = .ok (.aload_n 0, 1) := by decide +kernel
theorem dX1_taxOn_66 : decode cX1_taxOn 66 = .ok (.iload_n 1, 1) := by decide +kernel
theorem dX1_taxOn_67 : decode cX1_taxOn 67 = .ok (.iload_n 3, 1) := by decide +kernel
theorem dX1_taxOn_68 : decode cX1_taxOn 68 = .ok (.invokevirtual 32, 3) := by decide +kernel
theorem dX1_taxOn_71 : decode cX1_taxOn 71 = .ok (.ireturn, 1) := by decide +kernel
theorem dX1_reliefOn_0 : decode cX1_reliefOn 0 = .ok (.iconst (-1), 1) := by decide +kernel
theorem dX1_reliefOn_1 : decode cX1_reliefOn 1 = .ok (.istore_n 3, 1) := by decide +kernel
theorem dX1_reliefOn_2 : decode cX1_reliefOn 2 = .ok (.iconst 0, 1) := by decide +kernel
theorem dX1_reliefOn_3 : decode cX1_reliefOn 3 = .ok (.istore 4, 2) := by decide +kernel
theorem dX1_reliefOn_5 : decode cX1_reliefOn 5 = .ok (.iload 4, 2) := by decide +kernel
theorem dX1_reliefOn_7 : decode cX1_reliefOn 7 = .ok (.aload_n 0, 1) := by decide +kernel
theorem dX1_reliefOn_8 : decode cX1_reliefOn 8 = .ok (.getfield 24, 3) := by decide +kernel
theorem dX1_reliefOn_11 : decode cX1_reliefOn 11 = .ok (.if_icmp .ge 55, 3) := by decide +kernel
theorem dX1_reliefOn_14 : decode cX1_reliefOn 14 = .ok (.aload_n 0, 1) := by decide +kernel
theorem dX1_reliefOn_15 : decode cX1_reliefOn 15 = .ok (.getfield 9, 3) := by decide +kernel
theorem dX1_reliefOn_18 : decode cX1_reliefOn 18 = .ok (.iload 4, 2) := by decide +kernel
theorem dX1_reliefOn_20 : decode cX1_reliefOn 20 = .ok (.iaload, 1) := by decide +kernel
theorem dX1_reliefOn_21 : decode cX1_reliefOn 21 = .ok (.iconst 1, 1) := by decide +kernel
theorem dX1_reliefOn_22 : decode cX1_reliefOn 22 = .ok (.if_icmp .ne 38, 3) := by decide +kernel
theorem dX1_reliefOn_25 : decode cX1_reliefOn 25 = .ok (.aload_n 0, 1) := by decide +kernel
theorem dX1_reliefOn_26 : decode cX1_reliefOn 26 = .ok (.getfield 21, 3) := by decide +kernel
theorem dX1_reliefOn_29 : decode cX1_reliefOn 29 = .ok (.iload 4, 2) := by decide +kernel
theorem dX1_reliefOn_31 : decode cX1_reliefOn 31 = .ok (.iaload, 1) := by decide +kernel
theorem dX1_reliefOn_32 : decode cX1_reliefOn 32 = .ok (.iload_n 2, 1) := by decide +kernel
theorem dX1_reliefOn_33 : decode cX1_reliefOn 33 = .ok (.if_icmp .le 27, 3) := by decide +kernel
theorem dX1_reliefOn_36 : decode cX1_reliefOn 36 = .ok (.iload_n 3, 1) := by decide +kernel
theorem dX1_reliefOn_37 : decode cX1_reliefOn 37 = .ok (.iconst (-1), 1) := by decide +kernel
theorem dX1_reliefOn_38 : decode cX1_reliefOn 38 = .ok (.if_icmp .eq 19, 3) := by decide +kernel
theorem dX1_reliefOn_41 : decode cX1_reliefOn 41 = .ok (.aload_n 0, 1) := by decide +kernel
theorem dX1_reliefOn_42 : decode cX1_reliefOn 42 = .ok (.getfield 21, 3) := by decide +kernel
theorem dX1_reliefOn_45 : decode cX1_reliefOn 45 = .ok (.iload 4, 2) := by decide +kernel
theorem dX1_reliefOn_47 : decode cX1_reliefOn 47 = .ok (.iaload, 1) := by decide +kernel
theorem dX1_reliefOn_48 : decode cX1_reliefOn 48 = .ok (.aload_n 0, 1) := by decide +kernel
theorem dX1_reliefOn_49 : decode cX1_reliefOn 49 = .ok (.getfield 21, 3) := by decide +kernel
theorem dX1_reliefOn_52 : decode cX1_reliefOn 52 = .ok (.iload_n 3, 1) := by decide +kernel
theorem dX1_reliefOn_53 : decode cX1_reliefOn 53 = .ok (.iaload, 1) := by decide +kernel
theorem dX1_reliefOn_54 : decode cX1_reliefOn 54 = .ok (.if_icmp .gt 6, 3) := by decide +kernel
theorem dX1_reliefOn_57 : decode cX1_reliefOn 57 = .ok (.iload 4, 2) := by decide +kernel
theorem dX1_reliefOn_59 : decode cX1_reliefOn 59 = .ok (.istore_n 3, 1) := by decide +kernel
theorem dX1_reliefOn_60 : decode cX1_reliefOn 60 = .ok (.iinc 4 1, 3) := by decide +kernel
theorem dX1_reliefOn_63 : decode cX1_reliefOn 63 = .ok (.goto (-58), 3) := by decide +kernel
theorem dX1_reliefOn_66 : decode cX1_reliefOn 66 = .ok (.aload_n 0, 1) := by decide +kernel
theorem dX1_reliefOn_67 : decode cX1_reliefOn 67 = .ok (.iload_n 1, 1) := by decide +kernel
theorem dX1_reliefOn_68 : decode cX1_reliefOn 68 = .ok (.iload_n 3, 1) := by decide +kernel
theorem dX1_reliefOn_69 : decode cX1_reliefOn 69 = .ok (.invokevirtual 32, 3) := by decide +kernel
theorem dX1_reliefOn_72 : decode cX1_reliefOn 72 = .ok (.ireturn, 1) := by decide +kernel
theorem dX1_officerPart_0 : decode cX1_officerPart 0 = .ok (.aload_n 0, 1) := by decide +kernel
theorem dX1_officerPart_1 : decode cX1_officerPart 1 = .ok (.iload_n 1, 1) := by decide +kernel
theorem dX1_officerPart_2 : decode cX1_officerPart 2 = .ok (.aload_n 0, 1) := by decide +kernel
theorem dX1_officerPart_3 : decode cX1_officerPart 3 = .ok (.iconst 3, 1) := by decide +kernel
theorem dX1_officerPart_4 : decode cX1_officerPart 4 = .ok (.invokevirtual 28, 3) := by decide +kernel
theorem dX1_officerPart_7 : decode cX1_officerPart 7 = .ok (.invokevirtual 32, 3) := by decide +kernel
theorem dX1_officerPart_10 : decode cX1_officerPart 10 = .ok (.ireturn, 1) := by decide +kernel
theorem dX1_lastOf_0 : decode cX1_lastOf 0 = .ok (.iconst (-1), 1) := by decide +kernel
theorem dX1_lastOf_1 : decode cX1_lastOf 1 = .ok (.istore_n 2, 1) := by decide +kernel
theorem dX1_lastOf_2 : decode cX1_lastOf 2 = .ok (.iconst 0, 1) := by decide +kernel
theorem dX1_lastOf_3 : decode cX1_lastOf 3 = .ok (.istore_n 3, 1) := by decide +kernel
theorem dX1_lastOf_4 : decode cX1_lastOf 4 = .ok (.iload_n 3, 1) := by decide +kernel
theorem dX1_lastOf_5 : decode cX1_lastOf 5 = .ok (.aload_n 0, 1) := by decide +kernel
theorem dX1_lastOf_6 : decode cX1_lastOf 6 = .ok (.getfield 24, 3) := by decide +kernel
theorem dX1_lastOf_9 : decode cX1_lastOf 9 = .ok (.if_icmp .ge 21, 3) := by decide +kernel
theorem dX1_lastOf_12 : decode cX1_lastOf 12 = .ok (.aload_n 0, 1) := by decide +kernel
theorem dX1_lastOf_13 : decode cX1_lastOf 13 = .ok (.getfield 9, 3) := by decide +kernel
theorem dX1_lastOf_16 : decode cX1_lastOf 16 = .ok (.iload_n 3, 1) := by decide +kernel
theorem dX1_lastOf_17 : decode cX1_lastOf 17 = .ok (.iaload, 1) := by decide +kernel
theorem dX1_lastOf_18 : decode cX1_lastOf 18 = .ok (.iload_n 1, 1) := by decide +kernel
theorem dX1_lastOf_19 : decode cX1_lastOf 19 = .ok (.if_icmp .ne 5, 3) := by decide +kernel
theorem dX1_lastOf_22 : decode cX1_lastOf 22 = .ok (.iload_n 3, 1) := by decide +kernel
theorem dX1_lastOf_23 : decode cX1_lastOf 23 = .ok (.istore_n 2, 1) := by decide +kernel
theorem dX1_lastOf_24 : decode cX1_lastOf 24 = .ok (.iinc 3 1, 3) := by decide +kernel
theorem dX1_lastOf_27 : decode cX1_lastOf 27 = .ok (.goto (-23), 3) := by decide +kernel
theorem dX1_lastOf_30 : decode cX1_lastOf 30 = .ok (.iload_n 2, 1) := by decide +kernel
theorem dX1_lastOf_31 : decode cX1_lastOf 31 = .ok (.ireturn, 1) := by decide +kernel
theorem dX1_partOf_0 : decode cX1_partOf 0 = .ok (.iload_n 2, 1) := by decide +kernel
theorem dX1_partOf_1 : decode cX1_partOf 1 = .ok (.iconst (-1), 1) := by decide +kernel
theorem dX1_partOf_2 : decode cX1_partOf 2 = .ok (.if_icmp .ne 7, 3) := by decide +kernel
theorem dX1_partOf_5 : decode cX1_partOf 5 = .ok (.iconst 0, 1) := by decide +kernel
theorem dX1_partOf_6 : decode cX1_partOf 6 = .ok (.goto 23, 3) := by decide +kernel
theorem dX1_partOf_9 : decode cX1_partOf 9 = .ok (.iload_n 1, 1) := by decide +kernel
theorem dX1_partOf_10 : decode cX1_partOf 10 = .ok (.i2l, 1) := by decide +kernel
theorem dX1_partOf_11 : decode cX1_partOf 11 = .ok (.aload_n 0, 1) := by decide +kernel
theorem dX1_partOf_12 : decode cX1_partOf 12 = .ok (.getfield 15, 3) := by decide +kernel
theorem dX1_partOf_15 : decode cX1_partOf 15 = .ok (.iload_n 2, 1) := by decide +kernel
theorem dX1_partOf_16 : decode cX1_partOf 16 = .ok (.iaload, 1) := by decide +kernel
theorem dX1_partOf_17 : decode cX1_partOf 17 = .ok (.i2l, 1) := by decide +kernel
theorem dX1_partOf_18 : decode cX1_partOf 18 = .ok (.aload_n 0, 1) := by decide +kernel
theorem dX1_partOf_19 : decode cX1_partOf 19 = .ok (.getfield 18, 3) := by decide +kernel
theorem dX1_partOf_22 : decode cX1_partOf 22 = .ok (.iload_n 2, 1) := by decide +kernel
theorem dX1_partOf_23 : decode cX1_partOf 23 = .ok (.iaload, 1) := by decide +kernel
theorem dX1_partOf_24 : decode cX1_partOf 24 = .ok (.i2l, 1) := by decide +kernel
theorem dX1_partOf_25 : decode cX1_partOf 25 = .ok (.invokestatic 36, 3) := by decide +kernel
theorem dX1_partOf_28 : decode cX1_partOf 28 = .ok (.l2i, 1) := by decide +kernel
theorem dX1_partOf_29 : decode cX1_partOf 29 = .ok (.ireturn, 1) := by decide +kernel
theorem dX2_init_0 : decode cX2_init 0 = .ok (.aload_n 0, 1) := by decide +kernel
theorem dX2_init_1 : decode cX2_init 1 = .ok (.invokespecial 3, 3) := by decide +kernel
theorem dX2_init_4 : decode cX2_init 4 = .ok (.aload_n 0, 1) := by decide +kernel
theorem dX2_init_5 : decode cX2_init 5 = .ok (.bipush 24, 2) := by decide +kernel
theorem dX2_init_7 : decode cX2_init 7 = .ok (.newarray .int, 2) := by decide +kernel
theorem dX2_init_9 : decode cX2_init 9 = .ok (.putfield 9, 3) := by decide +kernel
theorem dX2_init_12 : decode cX2_init 12 = .ok (.aload_n 0, 1) := by decide +kernel
theorem dX2_init_13 : decode cX2_init 13 = .ok (.bipush 24, 2) := by decide +kernel
theorem dX2_init_15 : decode cX2_init 15 = .ok (.newarray .int, 2) := by decide +kernel
theorem dX2_init_17 : decode cX2_init 17 = .ok (.putfield 15, 3) := by decide +kernel
theorem dX2_init_20 : decode cX2_init 20 = .ok (.aload_n 0, 1) := by decide +kernel
theorem dX2_init_21 : decode cX2_init 21 = .ok (.bipush 24, 2) := by decide +kernel
theorem dX2_init_23 : decode cX2_init 23 = .ok (.newarray .int, 2) := by decide +kernel
theorem dX2_init_25 : decode cX2_init 25 = .ok (.putfield 18, 3) := by decide +kernel
theorem dX2_init_28 : decode cX2_init 28 = .ok (.aload_n 0, 1) := by decide +kernel
theorem dX2_init_29 : decode cX2_init 29 = .ok (.bipush 24, 2) := by decide +kernel
theorem dX2_init_31 : decode cX2_init 31 = .ok (.newarray .int, 2) := by decide +kernel
theorem dX2_init_33 : decode cX2_init 33 = .ok (.putfield 21, 3) := by decide +kernel
theorem dX2_init_36 : decode cX2_init 36 = .ok (.aload_n 0, 1) := by decide +kernel
theorem dX2_init_37 : decode cX2_init 37 = .ok (.bipush 25, 2) := by decide +kernel
theorem dX2_init_39 : decode cX2_init 39 = .ok (.newarray .boolean, 2) := by decide +kernel
theorem dX2_init_41 : decode cX2_init 41 = .ok (.putfield 24, 3) := by decide +kernel
theorem dX2_init_44 : decode cX2_init 44 = .ok (.aload_n 0, 1) := by decide +kernel
theorem dX2_init_45 : decode cX2_init 45 = .ok (.bipush 24, 2) := by decide +kernel
theorem dX2_init_47 : decode cX2_init 47 = .ok (.newarray .int, 2) := by decide +kernel
theorem dX2_init_49 : decode cX2_init 49 = .ok (.putfield 28, 3) := by decide +kernel
theorem dX2_init_52 : decode cX2_init 52 = .ok (.aload_n 0, 1) := by decide +kernel
theorem dX2_init_53 : decode cX2_init 53 = .ok (.iconst 0, 1) := by decide +kernel
theorem dX2_init_54 : decode cX2_init 54 = .ok (.putfield 31, 3) := by decide +kernel
theorem dX2_init_57 : decode cX2_init 57 = .ok (.return_, 1) := by decide +kernel
theorem dX2_addStrip_0 : decode cX2_addStrip 0 = .ok (.aload_n 0, 1) := by decide +kernel
theorem dX2_addStrip_1 : decode cX2_addStrip 1 = .ok (.getfield 9, 3) := by decide +kernel
theorem dX2_addStrip_4 : decode cX2_addStrip 4 = .ok (.aload_n 0, 1) := by decide +kernel
theorem dX2_addStrip_5 : decode cX2_addStrip 5 = .ok (.getfield 31, 3) := by decide +kernel
theorem dX2_addStrip_8 : decode cX2_addStrip 8 = .ok (.iload_n 1, 1) := by decide +kernel
theorem dX2_addStrip_9 : decode cX2_addStrip 9 = .ok (.iastore, 1) := by decide +kernel
theorem dX2_addStrip_10 : decode cX2_addStrip 10 = .ok (.aload_n 0, 1) := by decide +kernel
theorem dX2_addStrip_11 : decode cX2_addStrip 11 = .ok (.getfield 15, 3) := by decide +kernel
theorem dX2_addStrip_14 : decode cX2_addStrip 14 = .ok (.aload_n 0, 1) := by decide +kernel
theorem dX2_addStrip_15 : decode cX2_addStrip 15 = .ok (.getfield 31, 3) := by decide +kernel
theorem dX2_addStrip_18 : decode cX2_addStrip 18 = .ok (.iload_n 1, 1) := by decide +kernel
theorem dX2_addStrip_19 : decode cX2_addStrip 19 = .ok (.iastore, 1) := by decide +kernel
theorem dX2_addStrip_20 : decode cX2_addStrip 20 = .ok (.aload_n 0, 1) := by decide +kernel
theorem dX2_addStrip_21 : decode cX2_addStrip 21 = .ok (.getfield 18, 3) := by decide +kernel
theorem dX2_addStrip_24 : decode cX2_addStrip 24 = .ok (.aload_n 0, 1) := by decide +kernel
theorem dX2_addStrip_25 : decode cX2_addStrip 25 = .ok (.getfield 31, 3) := by decide +kernel
theorem dX2_addStrip_28 : decode cX2_addStrip 28 = .ok (.iload_n 2, 1) := by decide +kernel
theorem dX2_addStrip_29 : decode cX2_addStrip 29 = .ok (.iastore, 1) := by decide +kernel
theorem dX2_addStrip_30 : decode cX2_addStrip 30 = .ok (.aload_n 0, 1) := by decide +kernel
theorem dX2_addStrip_31 : decode cX2_addStrip 31 = .ok (.getfield 21, 3) := by decide +kernel
theorem dX2_addStrip_34 : decode cX2_addStrip 34 = .ok (.aload_n 0, 1) := by decide +kernel
theorem dX2_addStrip_35 : decode cX2_addStrip 35 = .ok (.getfield 31, 3) := by decide +kernel
theorem dX2_addStrip_38 : decode cX2_addStrip 38 = .ok (.iload_n 3, 1) := by decide +kernel
theorem dX2_addStrip_39 : decode cX2_addStrip 39 = .ok (.iastore, 1) := by decide +kernel
theorem dX2_addStrip_40 : decode cX2_addStrip 40 = .ok (.aload_n 0, 1) := by decide +kernel
theorem dX2_addStrip_41 : decode cX2_addStrip 41 = .ok (.dup, 1) := by decide +kernel
theorem dX2_addStrip_42 : decode cX2_addStrip 42 = .ok (.getfield 31, 3) := by decide +kernel
theorem dX2_addStrip_45 : decode cX2_addStrip 45 = .ok (.iconst 1, 1) := by decide +kernel
theorem dX2_addStrip_46 : decode cX2_addStrip 46 = .ok (.iadd, 1) := by decide +kernel
theorem dX2_addStrip_47 : decode cX2_addStrip 47 = .ok (.putfield 31, 3) := by decide +kernel
theorem dX2_addStrip_50 : decode cX2_addStrip 50 = .ok (.return_, 1) := by decide +kernel
theorem dX2_hasStrip_0 : decode cX2_hasStrip 0 = .ok (.iload_n 1, 1) := by decide +kernel
theorem dX2_hasStrip_1 : decode cX2_hasStrip 1 = .ok (.ifCond .lt 15, 3) := by decide +kernel
theorem dX2_hasStrip_4 : decode cX2_hasStrip 4 = .ok (.iload_n 1, 1) := by decide +kernel
theorem dX2_hasStrip_5 : decode cX2_hasStrip 5 = .ok (.aload_n 0, 1) := by decide +kernel
theorem dX2_hasStrip_6 : decode cX2_hasStrip 6 = .ok (.getfield 31, 3) := by decide +kernel
theorem dX2_hasStrip_9 : decode cX2_hasStrip 9 = .ok (.if_icmp .ge 7, 3) := by decide +kernel
theorem dX2_hasStrip_12 : decode cX2_hasStrip 12 = .ok (.iconst 1, 1) := by decide +kernel
theorem dX2_hasStrip_13 : decode cX2_hasStrip 13 = .ok (.goto 4, 3) := by decide +kernel
theorem dX2_hasStrip_16 : decode cX2_hasStrip 16 = .ok (.iconst 0, 1) := by decide +kernel
theorem dX2_hasStrip_17 : decode cX2_hasStrip 17 = .ok (.ireturn, 1) := by decide +kernel
theorem dX2_hasMark_0 : decode cX2_hasMark 0 = .ok (.aload_n 0, 1) := by decide +kernel
theorem dX2_hasMark_1 : decode cX2_hasMark 1 = .ok (.getfield 31, 3) := by decide +kernel
theorem dX2_hasMark_4 : decode cX2_hasMark 4 = .ok (.ifCond .le 19, 3) := by decide +kernel
theorem dX2_hasMark_7 : decode cX2_hasMark 7 = .ok (.iload_n 1, 1) := by decide +kernel
theorem dX2_hasMark_8 : decode cX2_hasMark 8 = .ok (.ifCond .lt 15, 3) := by decide +kernel
theorem dX2_hasMark_11 : decode cX2_hasMark 11 = .ok (.iload_n 1, 1) := by decide +kernel
theorem dX2_hasMark_12 : decode cX2_hasMark 12 = .ok (.aload_n 0, 1) := by decide +kernel
theorem dX2_hasMark_13 : decode cX2_hasMark 13 = .ok (.getfield 31, 3) := by decide +kernel
theorem dX2_hasMark_16 : decode cX2_hasMark 16 = .ok (.if_icmp .gt 7, 3) := by decide +kernel
theorem dX2_hasMark_19 : decode cX2_hasMark 19 = .ok (.iconst 1, 1) := by decide +kernel
theorem dX2_hasMark_20 : decode cX2_hasMark 20 = .ok (.goto 4, 3) := by decide +kernel
theorem dX2_hasMark_23 : decode cX2_hasMark 23 = .ok (.iconst 0, 1) := by decide +kernel
theorem dX2_hasMark_24 : decode cX2_hasMark 24 = .ok (.ireturn, 1) := by decide +kernel
theorem dX2_isRock_0 : decode cX2_isRock 0 = .ok (.iload_n 1, 1) := by decide +kernel
theorem dX2_isRock_1 : decode cX2_isRock 1 = .ok (.ifCond .eq 11, 3) := by decide +kernel
theorem dX2_isRock_4 : decode cX2_isRock 4 = .ok (.iload_n 1, 1) := by decide +kernel
theorem dX2_isRock_5 : decode cX2_isRock 5 = .ok (.aload_n 0, 1) := by decide +kernel
theorem dX2_isRock_6 : decode cX2_isRock 6 = .ok (.getfield 31, 3) := by decide +kernel
theorem dX2_isRock_9 : decode cX2_isRock 9 = .ok (.if_icmp .ne 7, 3) := by decide +kernel
theorem dX2_isRock_12 : decode cX2_isRock 12 = .ok (.iconst 1, 1) := by decide +kernel
theorem dX2_isRock_13 : decode cX2_isRock 13 = .ok (.goto 4, 3) := by decide +kernel
theorem dX2_isRock_16 : decode cX2_isRock 16 = .ok (.iconst 0, 1) := by decide +kernel
theorem dX2_isRock_17 : decode cX2_isRock 17 = .ok (.ireturn, 1) := by decide +kernel
theorem dX2_canDraw_0 : decode cX2_canDraw 0 = .ok (.aload_n 0, 1) := by decide +kernel
theorem dX2_canDraw_1 : decode cX2_canDraw 1 = .ok (.getfield 24, 3) := by decide +kernel
theorem dX2_canDraw_4 : decode cX2_canDraw 4 = .ok (.iload_n 1, 1) := by decide +kernel
theorem dX2_canDraw_5 : decode cX2_canDraw 5 = .ok (.baload, 1) := by decide +kernel
theorem dX2_canDraw_6 : decode cX2_canDraw 6 = .ok (.ifCond .ne 12, 3) := by decide +kernel
theorem dX2_canDraw_9 : decode cX2_canDraw 9 = .ok (.aload_n 0, 1) := by decide +kernel
theorem dX2_canDraw_10 : decode cX2_canDraw 10 = .ok (.getfield 24, 3) := by decide +kernel
theorem dX2_canDraw_13 : decode cX2_canDraw 13 = .ok (.iload_n 2, 1) := by decide +kernel
theorem dX2_canDraw_14 : decode cX2_canDraw 14 = .ok (.baload, 1) := by decide +kernel
theorem dX2_canDraw_15 : decode cX2_canDraw 15 = .ok (.ifCond .eq 5, 3) := by decide +kernel
theorem dX2_canDraw_18 : decode cX2_canDraw 18 = .ok (.iconst 0, 1) := by decide +kernel
theorem dX2_canDraw_19 : decode cX2_canDraw 19 = .ok (.ireturn, 1) := by decide +kernel
theorem dX2_canDraw_20 : decode cX2_canDraw 20 = .ok (.iload_n 1, 1) := by decide +kernel
theorem dX2_canDraw_21 : decode cX2_canDraw 21 = .ok (.iconst 1, 1) := by decide +kernel
theorem dX2_canDraw_22 : decode cX2_canDraw 22 = .ok (.iadd, 1) := by decide +kernel
theorem dX2_canDraw_23 : decode cX2_canDraw 23 = .ok (.istore_n 3, 1) := by decide +kernel
theorem dX2_canDraw_24 : decode cX2_canDraw 24 = .ok (.iload_n 3, 1) := by decide +kernel
theorem dX2_canDraw_25 : decode cX2_canDraw 25 = .ok (.iload_n 2, 1) := by decide +kernel
theorem dX2_canDraw_26 : decode cX2_canDraw 26 = .ok (.if_icmp .ge 20, 3) := by decide +kernel
theorem dX2_canDraw_29 : decode cX2_canDraw 29 = .ok (.aload_n 0, 1) := by decide +kernel
theorem dX2_canDraw_30 : decode cX2_canDraw 30 = .ok (.getfield 24, 3) := by decide +kernel
theorem dX2_canDraw_33 : decode cX2_canDraw 33 = .ok (.iload_n 3, 1) := by decide +kernel
theorem dX2_canDraw_34 : decode cX2_canDraw 34 = .ok (.baload, 1) := by decide +kernel
theorem dX2_canDraw_35 : decode cX2_canDraw 35 = .ok (.ifCond .ne 5, 3) := by decide +kernel
theorem dX2_canDraw_38 : decode cX2_canDraw 38 = .ok (.iconst 0, 1) := by decide +kernel
theorem dX2_canDraw_39 : decode cX2_canDraw 39 = .ok (.ireturn, 1) := by decide +kernel
theorem dX2_canDraw_40 : decode cX2_canDraw 40 = .ok (.iinc 3 1, 3) := by decide +kernel
theorem dX2_canDraw_43 : decode cX2_canDraw 43 = .ok (.goto (-19), 3) := by decide +kernel
theorem dX2_canDraw_46 : decode cX2_canDraw 46 = .ok (.iconst 1, 1) := by decide +kernel
theorem dX2_canDraw_47 : decode cX2_canDraw 47 = .ok (.ireturn, 1) := by decide +kernel
theorem dX2_partRopes_0 : decode cX2_partRopes 0 = .ok (.iconst 0, 1) := by decide +kernel
theorem dX2_partRopes_1 : decode cX2_partRopes 1 = .ok (.istore 4, 2) := by decide +kernel
theorem dX2_partRopes_3 : decode cX2_partRopes 3 = .ok (.iload_n 1, 1) := by decide +kernel
theorem dX2_partRopes_4 : decode cX2_partRopes 4 = .ok (.istore 5, 2) := by decide +kernel
theorem dX2_partRopes_6 : decode cX2_partRopes 6 = .ok (.iload 5, 2) := by decide +kernel
theorem dX2_partRopes_8 : decode cX2_partRopes 8 = .ok (.iload_n 2, 1) := by decide +kernel
theorem dX2_partRopes_9 : decode cX2_partRopes 9 = .ok (.if_icmp .ge 21, 3) := by decide +kernel
theorem dX2_partRopes_12 : decode cX2_partRopes 12 = .ok (.iload 4, 2) := by decide +kernel
theorem dX2_partRopes_14 : decode cX2_partRopes 14 = .ok (.aload_n 0, 1) := by decide +kernel
theorem dX2_partRopes_15 : decode cX2_partRopes 15 = .ok (.getfield 15, 3) := by decide +kernel
theorem dX2_partRopes_18 : decode cX2_partRopes 18 = .ok (.iload 5, 2) := by decide +kernel
theorem dX2_partRopes_20 : decode cX2_partRopes 20 = .ok (.iaload, 1) := by decide +kernel
theorem dX2_partRopes_21 : decode cX2_partRopes 21 = .ok (.iadd, 1) := by decide +kernel
theorem dX2_partRopes_22 : decode cX2_partRopes 22 = .ok (.istore 4, 2) := by decide +kernel
theorem dX2_partRopes_24 : decode cX2_partRopes 24 = .ok (.iinc 5 1, 3) := by decide +kernel
theorem dX2_partRopes_27 : decode cX2_partRopes 27 = .ok (.goto (-21), 3) := by decide +kernel
theorem dX2_partRopes_30 : decode cX2_partRopes 30 = .ok (.iload 4, 2) := by decide +kernel
theorem dX2_partRopes_32 : decode cX2_partRopes 32 = .ok (.ifCond .gt 4, 3) := by decide +kernel
theorem dX2_partRopes_35 : decode cX2_partRopes 35 = .ok (.return_, 1) := by decide +kernel
theorem dX2_partRopes_36 : decode cX2_partRopes 36 = .ok (.iload_n 3, 1) := by decide +kernel
theorem dX2_partRopes_37 : decode cX2_partRopes 37 = .ok (.istore 5, 2) := by decide +kernel
theorem dX2_partRopes_39 : decode cX2_partRopes 39 = .ok (.iload_n 1, 1) := by decide +kernel
theorem dX2_partRopes_40 : decode cX2_partRopes 40 = .ok (.istore 6, 2) := by decide +kernel
theorem dX2_partRopes_42 : decode cX2_partRopes 42 = .ok (.iload 6, 2) := by decide +kernel
theorem dX2_partRopes_44 : decode cX2_partRopes 44 = .ok (.iload_n 2, 1) := by decide +kernel
theorem dX2_partRopes_45 : decode cX2_partRopes 45 = .ok (.if_icmp .ge 56, 3) := by decide +kernel
theorem dX2_partRopes_48 : decode cX2_partRopes 48 = .ok (.iload_n 3, 1) := by decide +kernel
theorem dX2_partRopes_49 : decode cX2_partRopes 49 = .ok (.aload_n 0, 1) := by decide +kernel
theorem dX2_partRopes_50 : decode cX2_partRopes 50 = .ok (.getfield 15, 3) := by decide +kernel
theorem dX2_partRopes_53 : decode cX2_partRopes 53 = .ok (.iload 6, 2) := by decide +kernel
theorem dX2_partRopes_55 : decode cX2_partRopes 55 = .ok (.iaload, 1) := by decide +kernel
theorem dX2_partRopes_56 : decode cX2_partRopes 56 = .ok (.imul, 1) := by decide +kernel
theorem dX2_partRopes_57 : decode cX2_partRopes 57 = .ok (.istore 7, 2) := by decide +kernel
theorem dX2_partRopes_59 : decode cX2_partRopes 59 = .ok (.aload_n 0, 1) := by decide +kernel
theorem dX2_partRopes_60 : decode cX2_partRopes 60 = .ok (.getfield 9, 3) := by decide +kernel
theorem dX2_partRopes_63 : decode cX2_partRopes 63 = .ok (.iload 6, 2) := by decide +kernel
theorem dX2_partRopes_65 : decode cX2_partRopes 65 = .ok (.iload 7, 2) := by decide +kernel
theorem dX2_partRopes_67 : decode cX2_partRopes 67 = .ok (.iload 4, 2) := by decide +kernel
theorem dX2_partRopes_69 : decode cX2_partRopes 69 = .ok (.idiv, 1) := by decide +kernel
theorem dX2_partRopes_70 : decode cX2_partRopes 70 = .ok (.iastore, 1) := by decide +kernel
theorem dX2_partRopes_71 : decode cX2_partRopes 71 = .ok (.aload_n 0, 1) := by decide +kernel
theorem dX2_partRopes_72 : decode cX2_partRopes 72 = .ok (.getfield 28, 3) := by decide +kernel
theorem dX2_partRopes_75 : decode cX2_partRopes 75 = .ok (.iload 6, 2) := by decide +kernel
theorem dX2_partRopes_77 : decode cX2_partRopes 77 = .ok (.iload 7, 2) := by decide +kernel
theorem dX2_partRopes_79 : decode cX2_partRopes 79 = .ok (.iload 4, 2) := by decide +kernel
theorem dX2_partRopes_81 : decode cX2_partRopes 81 = .ok (.irem, 1) := by decide +kernel
theorem dX2_partRopes_82 : decode cX2_partRopes 82 = .ok (.iastore, 1) := by decide +kernel
theorem dX2_partRopes_83 : decode cX2_partRopes 83 = .ok (.iload 5, 2) := by decide +kernel
theorem dX2_partRopes_85 : decode cX2_partRopes 85 = .ok (.aload_n 0, 1) := by decide +kernel
theorem dX2_partRopes_86 : decode cX2_partRopes 86 = .ok (.getfield 9, 3) := by decide +kernel
theorem dX2_partRopes_89 : decode cX2_partRopes 89 = .ok (.iload 6, 2) := by decide +kernel
theorem dX2_partRopes_91 : decode cX2_partRopes 91 = .ok (.iaload, 1) := by decide +kernel
theorem dX2_partRopes_92 : decode cX2_partRopes 92 = .ok (.isub, 1) := by decide +kernel
theorem dX2_partRopes_93 : decode cX2_partRopes 93 = .ok (.istore 5, 2) := by decide +kernel
theorem dX2_partRopes_95 : decode cX2_partRopes 95 = .ok (.iinc 6 1, 3) := by decide +kernel
theorem dX2_partRopes_98 : decode cX2_partRopes 98 = .ok (.goto (-56), 3) := by decide +kernel
theorem dX2_partRopes_101 : decode cX2_partRopes 101 = .ok (.iconst 0, 1) := by decide +kernel
theorem dX2_partRopes_102 : decode cX2_partRopes 102 = .ok (.istore 6, 2) := by decide +kernel
theorem dX2_partRopes_104 : decode cX2_partRopes 104 = .ok (.iload 6, 2) := by decide +kernel
theorem dX2_partRopes_106 : decode cX2_partRopes 106 = .ok (.iload 5, 2) := by decide +kernel
theorem dX2_partRopes_108 : decode cX2_partRopes 108 = .ok (.if_icmp .ge 15, 3) := by decide +kernel
theorem dX2_partRopes_111 : decode cX2_partRopes 111 = .ok (.aload_n 0, 1) := by decide +kernel
theorem dX2_partRopes_112 : decode cX2_partRopes 112 = .ok (.iload_n 1, 1) := by decide +kernel
theorem dX2_partRopes_113 : decode cX2_partRopes 113 = .ok (.iload_n 2, 1) := by decide +kernel
theorem dX2_partRopes_114 : decode cX2_partRopes 114 = .ok (.invokevirtual 35, 3) := by decide +kernel
theorem dX2_partRopes_117 : decode cX2_partRopes 117 = .ok (.iinc 6 1, 3) := by decide +kernel
theorem dX2_partRopes_120 : decode cX2_partRopes 120 = .ok (.goto (-16), 3) := by decide +kernel
theorem dX2_partRopes_123 : decode cX2_partRopes 123 = .ok (.return_, 1) := by decide +kernel
theorem dX2_giveOneMore_0 : decode cX2_giveOneMore 0 = .ok (.iload_n 1, 1) := by decide +kernel
theorem dX2_giveOneMore_1 : decode cX2_giveOneMore 1 = .ok (.istore_n 3, 1) := by decide +kernel
theorem dX2_giveOneMore_2 : decode cX2_giveOneMore 2 = .ok (.iload_n 1, 1) := by decide +kernel
theorem dX2_giveOneMore_3 : decode cX2_giveOneMore 3 = .ok (.iconst 1, 1) := by decide +kernel
theorem dX2_giveOneMore_4 : decode cX2_giveOneMore 4 = .ok (.iadd, 1) := by decide +kernel
theorem dX2_giveOneMore_5 : decode cX2_giveOneMore 5 = .ok (.istore 4, 2) := by decide +kernel
theorem dX2_giveOneMore_7 : decode cX2_giveOneMore 7 = .ok (.iload 4, 2) := by decide +kernel
theorem dX2_giveOneMore_9 : decode cX2_giveOneMore 9 = .ok (.iload_n 2, 1) := by decide +kernel
theorem dX2_giveOneMore_10 : decode cX2_giveOneMore 10 = .ok (.if_icmp .ge 28, 3) := by decide +kernel
theorem dX2_giveOneMore_13 : decode cX2_giveOneMore 13 = .ok (.aload_n 0, 1) := by decide +kernel
theorem dX2_giveOneMore_14 : decode cX2_giveOneMore 14 = .ok (.getfield 28, 3) := by decide +kernel
theorem dX2_giveOneMore_17 : decode cX2_giveOneMore 17 = .ok (.iload 4, 2) := by decide +kernel
theorem dX2_giveOneMore_19 : decode cX2_giveOneMore 19 = .ok (.iaload, 1) := by decide +kernel
theorem dX2_giveOneMore_20 : decode cX2_giveOneMore 20 = .ok (.aload_n 0, 1) := by decide +kernel
theorem dX2_giveOneMore_21 : decode cX2_giveOneMore 21 = .ok (.getfield 28, 3) := by decide +kernel
theorem dX2_giveOneMore_24 : decode cX2_giveOneMore 24 = .ok (.iload_n 3, 1) := by decide +kernel
theorem dX2_giveOneMore_25 : decode cX2_giveOneMore 25 = .ok (.iaload, 1) := by decide +kernel
theorem dX2_giveOneMore_26 : decode cX2_giveOneMore 26 = .ok (.if_icmp .le 6, 3) := by decide +kernel
theorem dX2_giveOneMore_29 : decode cX2_giveOneMore 29 = .ok (.iload 4, 2) := by decide +kernel
theorem dX2_giveOneMore_31 : decode cX2_giveOneMore 31 = .ok (.istore_n 3, 1) := by decide +kernel
theorem dX2_giveOneMore_32 : decode cX2_giveOneMore 32 = .ok (.iinc 4 1, 3) := by decide +kernel
theorem dX2_giveOneMore_35 : decode cX2_giveOneMore 35 = .ok (.goto (-28), 3) := by decide +kernel
theorem dX2_giveOneMore_38 : decode cX2_giveOneMore 38 = .ok (.aload_n 0, 1) := by decide +kernel
theorem dX2_giveOneMore_39 : decode cX2_giveOneMore 39 = .ok (.getfield 9, 3) := by decide +kernel
theorem dX2_giveOneMore_42 : decode cX2_giveOneMore 42 = .ok (.iload_n 3, 1) := by decide +kernel
theorem dX2_giveOneMore_43 : decode cX2_giveOneMore 43 = .ok (.dup2, 1) := by decide +kernel
theorem dX2_giveOneMore_44 : decode cX2_giveOneMore 44 = .ok (.iaload, 1) := by decide +kernel
theorem dX2_giveOneMore_45 : decode cX2_giveOneMore 45 = .ok (.iconst 1, 1) := by decide +kernel
theorem dX2_giveOneMore_46 : decode cX2_giveOneMore 46 = .ok (.iadd, 1) := by decide +kernel
theorem dX2_giveOneMore_47 : decode cX2_giveOneMore 47 = .ok (.iastore, 1) := by decide +kernel
theorem dX2_giveOneMore_48 : decode cX2_giveOneMore 48 = .ok (.aload_n 0, 1) := by decide +kernel
theorem dX2_giveOneMore_49 : decode cX2_giveOneMore 49 = .ok (.getfield 28, 3) := by decide +kernel
theorem dX2_giveOneMore_52 : decode cX2_giveOneMore 52 = .ok (.iload_n 3, 1) := by decide +kernel
theorem dX2_giveOneMore_53 : decode cX2_giveOneMore 53 = .ok (.iconst (-1), 1) := by decide +kernel
theorem dX2_giveOneMore_54 : decode cX2_giveOneMore 54 = .ok (.iastore, 1) := by decide +kernel
theorem dX2_giveOneMore_55 : decode cX2_giveOneMore 55 = .ok (.return_, 1) := by decide +kernel
theorem dX2_setMarksBetween_0 : decode cX2_setMarksBetween 0 = .ok (.iload_n 1, 1) := by decide +kernel
theorem dX2_setMarksBetween_1 : decode cX2_setMarksBetween 1 = .ok (.iconst 1, 1) := by decide +kernel
theorem dX2_setMarksBetween_2 : decode cX2_setMarksBetween 2 = .ok (.iadd, 1) := by decide +kernel
theorem dX2_setMarksBetween_3 : decode cX2_setMarksBetween 3 = .ok (.istore_n 3, 1) := by decide +kernel
theorem dX2_setMarksBetween_4 : decode cX2_setMarksBetween 4 = .ok (.iload_n 3, 1) := by decide +kernel
theorem dX2_setMarksBetween_5 : decode cX2_setMarksBetween 5 = .ok (.iload_n 2, 1) := by decide +kernel
theorem dX2_setMarksBetween_6 : decode cX2_setMarksBetween 6 = .ok (.if_icmp .ge 16, 3) := by decide +kernel
theorem dX2_setMarksBetween_9 : decode cX2_setMarksBetween 9 = .ok (.aload_n 0, 1) := by decide +kernel
theorem dX2_setMarksBetween_10 : decode cX2_setMarksBetween 10 = .ok (.getfield 24, 3) := by decide +kernel
theorem dX2_setMarksBetween_13 : decode cX2_setMarksBetween 13 = .ok (.iload_n 3, 1) := by decide +kernel
theorem dX2_setMarksBetween_14 : decode cX2_setMarksBetween 14 = .ok (.iconst 0, 1) := by decide +kernel
theorem dX2_setMarksBetween_15 : decode cX2_setMarksBetween 15 = .ok (.bastore, 1) := by decide +kernel
theorem dX2_setMarksBetween_16 : decode cX2_setMarksBetween 16 = .ok (.iinc 3 1, 3) := by decide +kernel
theorem dX2_setMarksBetween_19 : decode cX2_setMarksBetween 19 = .ok (.goto (-15), 3) := by decide +kernel
theorem dX2_setMarksBetween_22 : decode cX2_setMarksBetween 22 = .ok (.iload_n 2, 1) := by decide +kernel
theorem dX2_setMarksBetween_23 : decode cX2_setMarksBetween 23 = .ok (.iload_n 1, 1) := by decide +kernel
theorem dX2_setMarksBetween_24 : decode cX2_setMarksBetween 24 = .ok (.isub, 1) := by decide +kernel
theorem dX2_setMarksBetween_25 : decode cX2_setMarksBetween 25 = .ok (.iconst 1, 1) := by decide +kernel
theorem dX2_setMarksBetween_26 : decode cX2_setMarksBetween 26 = .ok (.isub, 1) := by decide +kernel
theorem dX2_setMarksBetween_27 : decode cX2_setMarksBetween 27 = .ok (.ireturn, 1) := by decide +kernel
theorem dX2_lostMarks_0 : decode cX2_lostMarks 0 = .ok (.iconst 0, 1) := by decide +kernel
theorem dX2_lostMarks_1 : decode cX2_lostMarks 1 = .ok (.istore_n 1, 1) := by decide +kernel
theorem dX2_lostMarks_2 : decode cX2_lostMarks 2 = .ok (.iconst 0, 1) := by decide +kernel
theorem dX2_lostMarks_3 : decode cX2_lostMarks 3 = .ok (.istore_n 2, 1) := by decide +kernel
theorem dX2_lostMarks_4 : decode cX2_lostMarks 4 = .ok (.iload_n 2, 1) := by decide +kernel
theorem dX2_lostMarks_5 : decode cX2_lostMarks 5 = .ok (.aload_n 0, 1) := by decide +kernel
theorem dX2_lostMarks_6 : decode cX2_lostMarks 6 = .ok (.getfield 31, 3) := by decide +kernel
theorem dX2_lostMarks_9 : decode cX2_lostMarks 9 = .ok (.if_icmp .gt 21, 3) := by decide +kernel
theorem dX2_lostMarks_12 : decode cX2_lostMarks 12 = .ok (.aload_n 0, 1) := by decide +kernel
theorem dX2_lostMarks_13 : decode cX2_lostMarks 13 = .ok (.getfield 24, 3) := by decide +kernel
theorem dX2_lostMarks_16 : decode cX2_lostMarks 16 = .ok (.iload_n 2, 1) := by decide +kernel
theorem dX2_lostMarks_17 : decode cX2_lostMarks 17 = .ok (.baload, 1) := by decide +kernel
theorem dX2_lostMarks_18 : decode cX2_lostMarks 18 = .ok (.ifCond .eq 6, 3) := by decide +kernel
theorem dX2_lostMarks_21 : decode cX2_lostMarks 21 = .ok (.iinc 1 1, 3) := by decide +kernel
theorem dX2_lostMarks_24 : decode cX2_lostMarks 24 = .ok (.iinc 2 1, 3) := by decide +kernel
theorem dX2_lostMarks_27 : decode cX2_lostMarks 27 = .ok (.goto (-23), 3) := by decide +kernel
theorem dX2_lostMarks_30 : decode cX2_lostMarks 30 = .ok (.iload_n 1, 1) := by decide +kernel
theorem dX2_lostMarks_31 : decode cX2_lostMarks 31 = .ok (.ireturn, 1) := by decide +kernel
theorem dX2_allWidths_0 : decode cX2_allWidths 0 = .ok (.iconst 0, 1) := by decide +kernel
theorem dX2_allWidths_1 : decode cX2_allWidths 1 = .ok (.istore_n 1, 1) := by decide +kernel
theorem dX2_allWidths_2 : decode cX2_allWidths 2 = .ok (.iconst 0, 1) := by decide +kernel
theorem dX2_allWidths_3 : decode cX2_allWidths 3 = .ok (.istore_n 2, 1) := by decide +kernel
theorem dX2_allWidths_4 : decode cX2_allWidths 4 = .ok (.iload_n 2, 1) := by decide +kernel
theorem dX2_allWidths_5 : decode cX2_allWidths 5 = .ok (.aload_n 0, 1) := by decide +kernel
theorem dX2_allWidths_6 : decode cX2_allWidths 6 = .ok (.getfield 31, 3) := by decide +kernel
theorem dX2_allWidths_9 : decode cX2_allWidths 9 = .ok (.if_icmp .ge 18, 3) := by decide +kernel
theorem dX2_allWidths_12 : decode cX2_allWidths 12 = .ok (.iload_n 1, 1) := by decide +kernel
theorem dX2_allWidths_13 : decode cX2_allWidths 13 = .ok (.aload_n 0, 1) := by decide +kernel
theorem dX2_allWidths_14 : decode cX2_allWidths 14 = .ok (.getfield 9, 3) := by decide +kernel
theorem dX2_allWidths_17 : decode cX2_allWidths 17 = .ok (.iload_n 2, 1) := by decide +kernel
theorem dX2_allWidths_18 : decode cX2_allWidths 18 = .ok (.iaload, 1) := by decide +kernel
theorem dX2_allWidths_19 : decode cX2_allWidths 19 = .ok (.iadd, 1) := by decide +kernel
theorem dX2_allWidths_20 : decode cX2_allWidths 20 = .ok (.istore_n 1, 1) := by decide +kernel
theorem dX2_allWidths_21 : decode cX2_allWidths 21 = .ok (.iinc 2 1, 3) := by decide +kernel
theorem dX2_allWidths_24 : decode cX2_allWidths 24 = .ok (.goto (-20), 3) := by decide +kernel
theorem dX2_allWidths_27 : decode cX2_allWidths 27 = .ok (.iload_n 1, 1) := by decide +kernel
theorem dX2_allWidths_28 : decode cX2_allWidths 28 = .ok (.ireturn, 1) := by decide +kernel
theorem dX3_init_0 : decode cX3_init 0 = .ok (.aload_n 0, 1) := by decide +kernel
theorem dX3_init_1 : decode cX3_init 1 = .ok (.invokespecial 1, 3) := by decide +kernel
theorem dX3_init_4 : decode cX3_init 4 = .ok (.aload_n 0, 1) := by decide +kernel
theorem dX3_init_5 : decode cX3_init 5 = .ok (.iconst 0, 1) := by decide +kernel
theorem dX3_init_6 : decode cX3_init 6 = .ok (.putfield 7, 3) := by decide +kernel
theorem dX3_init_9 : decode cX3_init 9 = .ok (.aload_n 0, 1) := by decide +kernel
theorem dX3_init_10 : decode cX3_init 10 = .ok (.iconst 0, 1) := by decide +kernel
theorem dX3_init_11 : decode cX3_init 11 = .ok (.putfield 13, 3) := by decide +kernel
theorem dX3_init_14 : decode cX3_init 14 = .ok (.aload_n 0, 1) := by decide +kernel
theorem dX3_init_15 : decode cX3_init 15 = .ok (.iconst 0, 1) := by decide +kernel
theorem dX3_init_16 : decode cX3_init 16 = .ok (.putfield 16, 3) := by decide +kernel
theorem dX3_init_19 : decode cX3_init 19 = .ok (.aload_n 0, 1) := by decide +kernel
theorem dX3_init_20 : decode cX3_init 20 = .ok (.iconst 0, 1) := by decide +kernel
theorem dX3_init_21 : decode cX3_init 21 = .ok (.putfield 19, 3) := by decide +kernel
theorem dX3_init_24 : decode cX3_init 24 = .ok (.aload_n 0, 1) := by decide +kernel
theorem dX3_init_25 : decode cX3_init 25 = .ok (.iconst 0, 1) := by decide +kernel
theorem dX3_init_26 : decode cX3_init 26 = .ok (.putfield 22, 3) := by decide +kernel
theorem dX3_init_29 : decode cX3_init 29 = .ok (.return_, 1) := by decide +kernel
theorem dX3_assess_0 : decode cX3_assess 0 = .ok (.aload_n 1, 1) := by decide +kernel
theorem dX3_assess_1 : decode cX3_assess 1 = .ok (.iload_n 2, 1) := by decide +kernel
theorem dX3_assess_2 : decode cX3_assess 2 = .ok (.invokevirtual 25, 3) := by decide +kernel
theorem dX3_assess_5 : decode cX3_assess 5 = .ok (.ifCond .eq 7, 3) := by decide +kernel
theorem dX3_assess_8 : decode cX3_assess 8 = .ok (.iconst 0, 1) := by decide +kernel
theorem dX3_assess_9 : decode cX3_assess 9 = .ok (.goto 10, 3) := by decide +kernel
theorem dX3_assess_12 : decode cX3_assess 12 = .ok (.aload_n 1, 1) := by decide +kernel
theorem dX3_assess_13 : decode cX3_assess 13 = .ok (.iload_n 2, 1) := by decide +kernel
theorem dX3_assess_14 : decode cX3_assess 14 = .ok (.iload 4, 2) := by decide +kernel
theorem dX3_assess_16 : decode cX3_assess 16 = .ok (.invokevirtual 31, 3) := by decide +kernel
theorem dX3_assess_19 : decode cX3_assess 19 = .ok (.istore 5, 2) := by decide +kernel
theorem dX3_assess_21 : decode cX3_assess 21 = .ok (.aload_n 0, 1) := by decide +kernel
theorem dX3_assess_22 : decode cX3_assess 22 = .ok (.aload_n 1, 1) := by decide +kernel
theorem dX3_assess_23 : decode cX3_assess 23 = .ok (.iload 5, 2) := by decide +kernel
theorem dX3_assess_25 : decode cX3_assess 25 = .ok (.iload_n 3, 1) := by decide +kernel
theorem dX3_assess_26 : decode cX3_assess 26 = .ok (.invokevirtual 35, 3) := by decide +kernel
theorem dX3_assess_29 : decode cX3_assess 29 = .ok (.putfield 13, 3) := by decide +kernel
theorem dX3_assess_32 : decode cX3_assess 32 = .ok (.aload_n 0, 1) := by decide +kernel
theorem dX3_assess_33 : decode cX3_assess 33 = .ok (.iload 5, 2) := by decide +kernel
theorem dX3_assess_35 : decode cX3_assess 35 = .ok (.aload_n 0, 1) := by decide +kernel
theorem dX3_assess_36 : decode cX3_assess 36 = .ok (.getfield 13, 3) := by decide +kernel
theorem dX3_assess_39 : decode cX3_assess 39 = .ok (.isub, 1) := by decide +kernel
theorem dX3_assess_40 : decode cX3_assess 40 = .ok (.putfield 7, 3) := by decide +kernel
theorem dX3_assess_43 : decode cX3_assess 43 = .ok (.aload_n 0, 1) := by decide +kernel
theorem dX3_assess_44 : decode cX3_assess 44 = .ok (.aload_n 1, 1) := by decide +kernel
theorem dX3_assess_45 : decode cX3_assess 45 = .ok (.aload_n 0, 1) := by decide +kernel
theorem dX3_assess_46 : decode cX3_assess 46 = .ok (.getfield 7, 3) := by decide +kernel
theorem dX3_assess_49 : decode cX3_assess 49 = .ok (.invokevirtual 38, 3) := by decide +kernel
theorem dX3_assess_52 : decode cX3_assess 52 = .ok (.putfield 16, 3) := by decide +kernel
theorem dX3_assess_55 : decode cX3_assess 55 = .ok (.aload_n 0, 1) := by decide +kernel
theorem dX3_assess_56 : decode cX3_assess 56 = .ok (.aload_n 0, 1) := by decide +kernel
theorem dX3_assess_57 : decode cX3_assess 57 = .ok (.getfield 7, 3) := by decide +kernel
theorem dX3_assess_60 : decode cX3_assess 60 = .ok (.aload_n 0, 1) := by decide +kernel
theorem dX3_assess_61 : decode cX3_assess 61 = .ok (.getfield 16, 3) := by decide +kernel
theorem dX3_assess_64 : decode cX3_assess 64 = .ok (.isub, 1) := by decide +kernel
theorem dX3_assess_65 : decode cX3_assess 65 = .ok (.putfield 19, 3) := by decide +kernel
theorem dX3_assess_68 : decode cX3_assess 68 = .ok (.aload_n 0, 1) := by decide +kernel
theorem dX3_assess_69 : decode cX3_assess 69 = .ok (.iload_n 2, 1) := by decide +kernel
theorem dX3_assess_70 : decode cX3_assess 70 = .ok (.aload_n 0, 1) := by decide +kernel
theorem dX3_assess_71 : decode cX3_assess 71 = .ok (.getfield 7, 3) := by decide +kernel
theorem dX3_assess_74 : decode cX3_assess 74 = .ok (.isub, 1) := by decide +kernel
theorem dX3_assess_75 : decode cX3_assess 75 = .ok (.putfield 22, 3) := by decide +kernel
theorem dX3_assess_78 : decode cX3_assess 78 = .ok (.return_, 1) := by decide +kernel
theorem dX4_init_0 : decode cX4_init 0 = .ok (.aload_n 0, 1) := by decide +kernel
theorem dX4_init_1 : decode cX4_init 1 = .ok (.invokespecial 3, 3) := by decide +kernel
theorem dX4_init_4 : decode cX4_init 4 = .ok (.aload_n 0, 1) := by decide +kernel
theorem dX4_init_5 : decode cX4_init 5 = .ok (.sipush 300, 3) := by decide +kernel
theorem dX4_init_8 : decode cX4_init 8 = .ok (.newarray .int, 2) := by decide +kernel
theorem dX4_init_10 : decode cX4_init 10 = .ok (.putfield 9, 3) := by decide +kernel
theorem dX4_init_13 : decode cX4_init 13 = .ok (.aload_n 0, 1) := by decide +kernel
theorem dX4_init_14 : decode cX4_init 14 = .ok (.sipush 300, 3) := by decide +kernel
theorem dX4_init_17 : decode cX4_init 17 = .ok (.newarray .int, 2) := by decide +kernel
theorem dX4_init_19 : decode cX4_init 19 = .ok (.putfield 15, 3) := by decide +kernel
theorem dX4_init_22 : decode cX4_init 22 = .ok (.aload_n 0, 1) := by decide +kernel
theorem dX4_init_23 : decode cX4_init 23 = .ok (.sipush 300, 3) := by decide +kernel
theorem dX4_init_26 : decode cX4_init 26 = .ok (.newarray .int, 2) := by decide +kernel
theorem dX4_init_28 : decode cX4_init 28 = .ok (.putfield 18, 3) := by decide +kernel
theorem dX4_init_31 : decode cX4_init 31 = .ok (.aload_n 0, 1) := by decide +kernel
theorem dX4_init_32 : decode cX4_init 32 = .ok (.iconst 0, 1) := by decide +kernel
theorem dX4_init_33 : decode cX4_init 33 = .ok (.putfield 21, 3) := by decide +kernel
theorem dX4_init_36 : decode cX4_init 36 = .ok (.aload_n 0, 1) := by decide +kernel
theorem dX4_init_37 : decode cX4_init 37 = .ok (.bipush 120, 2) := by decide +kernel
theorem dX4_init_39 : decode cX4_init 39 = .ok (.newarray .int, 2) := by decide +kernel
theorem dX4_init_41 : decode cX4_init 41 = .ok (.putfield 25, 3) := by decide +kernel
theorem dX4_init_44 : decode cX4_init 44 = .ok (.aload_n 0, 1) := by decide +kernel
theorem dX4_init_45 : decode cX4_init 45 = .ok (.iconst 0, 1) := by decide +kernel
theorem dX4_init_46 : decode cX4_init 46 = .ok (.putfield 28, 3) := by decide +kernel
theorem dX4_init_49 : decode cX4_init 49 = .ok (.return_, 1) := by decide +kernel
theorem dX4_tell_0 : decode cX4_tell 0 = .ok (.aload_n 0, 1) := by decide +kernel
theorem dX4_tell_1 : decode cX4_tell 1 = .ok (.getfield 9, 3) := by decide +kernel
theorem dX4_tell_4 : decode cX4_tell 4 = .ok (.aload_n 0, 1) := by decide +kernel
theorem dX4_tell_5 : decode cX4_tell 5 = .ok (.getfield 21, 3) := by decide +kernel
theorem dX4_tell_8 : decode cX4_tell 8 = .ok (.iload_n 1, 1) := by decide +kernel
theorem dX4_tell_9 : decode cX4_tell 9 = .ok (.iastore, 1) := by decide +kernel
theorem dX4_tell_10 : decode cX4_tell 10 = .ok (.aload_n 0, 1) := by decide +kernel
theorem dX4_tell_11 : decode cX4_tell 11 = .ok (.getfield 15, 3) := by decide +kernel
theorem dX4_tell_14 : decode cX4_tell 14 = .ok (.aload_n 0, 1) := by decide +kernel
theorem dX4_tell_15 : decode cX4_tell 15 = .ok (.getfield 21, 3) := by decide +kernel
theorem dX4_tell_18 : decode cX4_tell 18 = .ok (.iload_n 2, 1) := by decide +kernel
theorem dX4_tell_19 : decode cX4_tell 19 = .ok (.iastore, 1) := by decide +kernel
theorem dX4_tell_20 : decode cX4_tell 20 = .ok (.aload_n 0, 1) := by decide +kernel
theorem dX4_tell_21 : decode cX4_tell 21 = .ok (.getfield 18, 3) := by decide +kernel
theorem dX4_tell_24 : decode cX4_tell 24 = .ok (.aload_n 0, 1) := by decide +kernel
theorem dX4_tell_25 : decode cX4_tell 25 = .ok (.getfield 21, 3) := by decide +kernel
theorem dX4_tell_28 : decode cX4_tell 28 = .ok (.iload_n 3, 1) := by decide +kernel
theorem dX4_tell_29 : decode cX4_tell 29 = .ok (.iastore, 1) := by decide +kernel
theorem dX4_tell_30 : decode cX4_tell 30 = .ok (.aload_n 0, 1) := by decide +kernel
theorem dX4_tell_31 : decode cX4_tell 31 = .ok (.dup, 1) := by decide +kernel
theorem dX4_tell_32 : decode cX4_tell 32 = .ok (.getfield 21, 3) := by decide +kernel
theorem dX4_tell_35 : decode cX4_tell 35 = .ok (.iconst 1, 1) := by decide +kernel
theorem dX4_tell_36 : decode cX4_tell 36 = .ok (.iadd, 1) := by decide +kernel
theorem dX4_tell_37 : decode cX4_tell 37 = .ok (.putfield 21, 3) := by decide +kernel
theorem dX4_tell_40 : decode cX4_tell 40 = .ok (.return_, 1) := by decide +kernel
theorem dX4_look_0 : decode cX4_look 0 = .ok (.aload_n 0, 1) := by decide +kernel
theorem dX4_look_1 : decode cX4_look 1 = .ok (.bipush 119, 2) := by decide +kernel
theorem dX4_look_3 : decode cX4_look 3 = .ok (.iload_n 1, 1) := by decide +kernel
theorem dX4_look_4 : decode cX4_look 4 = .ok (.invokevirtual 31, 3) := by decide +kernel
theorem dX4_look_7 : decode cX4_look 7 = .ok (.return_, 1) := by decide +kernel
theorem dX4_lookUpTo_0 : decode cX4_lookUpTo 0 = .ok (.iconst 0, 1) := by decide +kernel
theorem dX4_lookUpTo_1 : decode cX4_lookUpTo 1 = .ok (.istore_n 3, 1) := by decide +kernel
theorem dX4_lookUpTo_2 : decode cX4_lookUpTo 2 = .ok (.iload_n 3, 1) := by decide +kernel
theorem dX4_lookUpTo_3 : decode cX4_lookUpTo 3 = .ok (.bipush 120, 2) := by decide +kernel
theorem dX4_lookUpTo_5 : decode cX4_lookUpTo 5 = .ok (.if_icmp .ge 16, 3) := by decide +kernel
theorem dX4_lookUpTo_8 : decode cX4_lookUpTo 8 = .ok (.aload_n 0, 1) := by decide +kernel
theorem dX4_lookUpTo_9 : decode cX4_lookUpTo 9 = .ok (.getfield 25, 3) := by decide +kernel
theorem dX4_lookUpTo_12 : decode cX4_lookUpTo 12 = .ok (.iload_n 3, 1) := by decide +kernel
theorem dX4_lookUpTo_13 : decode cX4_lookUpTo 13 = .ok (.iconst (-1), 1) := by decide +kernel
theorem dX4_lookUpTo_14 : decode cX4_lookUpTo 14 = .ok (.iastore, 1) := by decide +kernel
theorem dX4_lookUpTo_15 : decode cX4_lookUpTo 15 = .ok (.iinc 3 1, 3) := by decide +kernel
theorem dX4_lookUpTo_18 : decode cX4_lookUpTo 18 = .ok (.goto (-16), 3) := by decide +kernel
theorem dX4_lookUpTo_21 : decode cX4_lookUpTo 21 = .ok (.iconst 0, 1) := by decide +kernel
theorem dX4_lookUpTo_22 : decode cX4_lookUpTo 22 = .ok (.istore_n 3, 1) := by decide +kernel
theorem dX4_lookUpTo_23 : decode cX4_lookUpTo 23 = .ok (.iload_n 3, 1) := by decide +kernel
theorem dX4_lookUpTo_24 : decode cX4_lookUpTo 24 = .ok (.aload_n 0, 1) := by decide +kernel
theorem dX4_lookUpTo_25 : decode cX4_lookUpTo 25 = .ok (.getfield 21, 3) := by decide +kernel
theorem dX4_lookUpTo_28 : decode cX4_lookUpTo 28 = .ok (.if_icmp .ge 46, 3) := by decide +kernel
theorem dX4_lookUpTo_31 : decode cX4_lookUpTo 31 = .ok (.aload_n 0, 1) := by decide +kernel
theorem dX4_lookUpTo_32 : decode cX4_lookUpTo 32 = .ok (.getfield 18, 3) := by decide +kernel
theorem dX4_lookUpTo_35 : decode cX4_lookUpTo 35 = .ok (.iload_n 3, 1) := by decide +kernel
theorem dX4_lookUpTo_36 : decode cX4_lookUpTo 36 = .ok (.iaload, 1) := by decide +kernel
theorem dX4_lookUpTo_37 : decode cX4_lookUpTo 37 = .ok (.iload_n 2, 1) := by decide +kernel
theorem dX4_lookUpTo_38 : decode cX4_lookUpTo 38 = .ok (.if_icmp .gt 30, 3) := by decide +kernel
theorem dX4_lookUpTo_41 : decode cX4_lookUpTo 41 = .ok (.aload_n 0, 1) := by decide +kernel
theorem dX4_lookUpTo_42 : decode cX4_lookUpTo 42 = .ok (.getfield 9, 3) := by decide +kernel
theorem dX4_lookUpTo_45 : decode cX4_lookUpTo 45 = .ok (.iload_n 3, 1) := by decide +kernel
theorem dX4_lookUpTo_46 : decode cX4_lookUpTo 46 = .ok (.iaload, 1) := by decide +kernel
theorem dX4_lookUpTo_47 : decode cX4_lookUpTo 47 = .ok (.iload_n 1, 1) := by decide +kernel
theorem dX4_lookUpTo_48 : decode cX4_lookUpTo 48 = .ok (.if_icmp .gt 20, 3) := by decide +kernel
theorem dX4_lookUpTo_51 : decode cX4_lookUpTo 51 = .ok (.aload_n 0, 1) := by decide +kernel
theorem dX4_lookUpTo_52 : decode cX4_lookUpTo 52 = .ok (.getfield 25, 3) := by decide +kernel
theorem dX4_lookUpTo_55 : decode cX4_lookUpTo 55 = .ok (.aload_n 0, 1) := by decide +kernel
theorem dX4_lookUpTo_56 : decode cX4_lookUpTo 56 = .ok (.getfield 9, 3) := by decide +kernel
theorem dX4_lookUpTo_59 : decode cX4_lookUpTo 59 = .ok (.iload_n 3, 1) := by decide +kernel
theorem dX4_lookUpTo_60 : decode cX4_lookUpTo 60 = .ok (.iaload, 1) := by decide +kernel
theorem dX4_lookUpTo_61 : decode cX4_lookUpTo 61 = .ok (.aload_n 0, 1) := by decide +kernel
theorem dX4_lookUpTo_62 : decode cX4_lookUpTo 62 = .ok (.getfield 15, 3) := by decide +kernel
theorem dX4_lookUpTo_65 : decode cX4_lookUpTo 65 = .ok (.iload_n 3, 1) := by decide +kernel
theorem dX4_lookUpTo_66 : decode cX4_lookUpTo 66 = .ok (.iaload, 1) := by decide +kernel
theorem dX4_lookUpTo_67 : decode cX4_lookUpTo 67 = .ok (.iastore, 1) := by decide +kernel
theorem dX4_lookUpTo_68 : decode cX4_lookUpTo 68 = .ok (.iinc 3 1, 3) := by decide +kernel
theorem dX4_lookUpTo_71 : decode cX4_lookUpTo 71 = .ok (.goto (-48), 3) := by decide +kernel
theorem dX4_lookUpTo_74 : decode cX4_lookUpTo 74 = .ok (.aload_n 0, 1) := by decide +kernel
theorem dX4_lookUpTo_75 : decode cX4_lookUpTo 75 = .ok (.invokevirtual 35, 3) := by decide +kernel
theorem dX4_lookUpTo_78 : decode cX4_lookUpTo 78 = .ok (.return_, 1) := by decide +kernel
theorem dX4_carryOn_0 : decode cX4_carryOn 0 = .ok (.iconst 0, 1) := by decide +kernel
theorem dX4_carryOn_1 : decode cX4_carryOn 1 = .ok (.istore_n 1, 1) := by decide +kernel
theorem dX4_carryOn_2 : decode cX4_carryOn 2 = .ok (.aload_n 0, 1) := by decide +kernel
theorem dX4_carryOn_3 : decode cX4_carryOn 3 = .ok (.iconst 0, 1) := by decide +kernel
theorem dX4_carryOn_4 : decode cX4_carryOn 4 = .ok (.putfield 28, 3) := by decide +kernel
theorem dX4_carryOn_7 : decode cX4_carryOn 7 = .ok (.iconst 0, 1) := by decide +kernel
theorem dX4_carryOn_8 : decode cX4_carryOn 8 = .ok (.istore_n 2, 1) := by decide +kernel
theorem dX4_carryOn_9 : decode cX4_carryOn 9 = .ok (.iload_n 2, 1) := by decide +kernel
theorem dX4_carryOn_10 : decode cX4_carryOn 10 = .ok (.bipush 120, 2) := by decide +kernel
theorem dX4_carryOn_12 : decode cX4_carryOn 12 = .ok (.if_icmp .ge 45, 3) := by decide +kernel
theorem dX4_carryOn_15 : decode cX4_carryOn 15 = .ok (.aload_n 0, 1) := by decide +kernel
theorem dX4_carryOn_16 : decode cX4_carryOn 16 = .ok (.getfield 25, 3) := by decide +kernel
theorem dX4_carryOn_19 : decode cX4_carryOn 19 = .ok (.iload_n 2, 1) := by decide +kernel
theorem dX4_carryOn_20 : decode cX4_carryOn 20 = .ok (.iaload, 1) := by decide +kernel
theorem dX4_carryOn_21 : decode cX4_carryOn 21 = .ok (.iconst (-1), 1) := by decide +kernel
theorem dX4_carryOn_22 : decode cX4_carryOn 22 = .ok (.if_icmp .ne 10, 3) := by decide +kernel
theorem dX4_carryOn_25 : decode cX4_carryOn 25 = .ok (.aload_n 0, 1) := by decide +kernel
theorem dX4_carryOn_26 : decode cX4_carryOn 26 = .ok (.getfield 25, 3) := by decide +kernel
theorem dX4_carryOn_29 : decode cX4_carryOn 29 = .ok (.iload_n 2, 1) := by decide +kernel
theorem dX4_carryOn_30 : decode cX4_carryOn 30 = .ok (.iload_n 1, 1) := by decide +kernel
theorem dX4_carryOn_31 : decode cX4_carryOn 31 = .ok (.iastore, 1) := by decide +kernel
theorem dX4_carryOn_32 : decode cX4_carryOn 32 = .ok (.aload_n 0, 1) := by decide +kernel
theorem dX4_carryOn_33 : decode cX4_carryOn 33 = .ok (.getfield 25, 3) := by decide +kernel
theorem dX4_carryOn_36 : decode cX4_carryOn 36 = .ok (.iload_n 2, 1) := by decide +kernel
theorem dX4_carryOn_37 : decode cX4_carryOn 37 = .ok (.iaload, 1) := by decide +kernel
theorem dX4_carryOn_38 : decode cX4_carryOn 38 = .ok (.istore_n 1, 1) := by decide +kernel
theorem dX4_carryOn_39 : decode cX4_carryOn 39 = .ok (.aload_n 0, 1) := by decide +kernel
theorem dX4_carryOn_40 : decode cX4_carryOn 40 = .ok (.aload_n 0, 1) := by decide +kernel
theorem dX4_carryOn_41 : decode cX4_carryOn 41 = .ok (.getfield 28, 3) := by decide +kernel
theorem dX4_carryOn_44 : decode cX4_carryOn 44 = .ok (.iload_n 1, 1) := by decide +kernel
theorem dX4_carryOn_45 : decode cX4_carryOn 45 = .ok (.invokestatic 38, 3) := by decide +kernel
theorem dX4_carryOn_48 : decode cX4_carryOn 48 = .ok (.putfield 28, 3) := by decide +kernel
theorem dX4_carryOn_51 : decode cX4_carryOn 51 = .ok (.iinc 2 1, 3) := by decide +kernel
theorem dX4_carryOn_54 : decode cX4_carryOn 54 = .ok (.goto (-45), 3) := by decide +kernel
theorem dX4_carryOn_57 : decode cX4_carryOn 57 = .ok (.return_, 1) := by decide +kernel
theorem dX4_wetDays_0 : decode cX4_wetDays 0 = .ok (.iconst 0, 1) := by decide +kernel
theorem dX4_wetDays_1 : decode cX4_wetDays 1 = .ok (.istore_n 2, 1) := by decide +kernel
theorem dX4_wetDays_2 : decode cX4_wetDays 2 = .ok (.iconst 0, 1) := by decide +kernel
theorem dX4_wetDays_3 : decode cX4_wetDays 3 = .ok (.istore_n 3, 1) := by decide +kernel
theorem dX4_wetDays_4 : decode cX4_wetDays 4 = .ok (.iload_n 3, 1) := by decide +kernel
theorem dX4_wetDays_5 : decode cX4_wetDays 5 = .ok (.bipush 120, 2) := by decide +kernel
theorem dX4_wetDays_7 : decode cX4_wetDays 7 = .ok (.if_icmp .ge 22, 3) := by decide +kernel
theorem dX4_wetDays_10 : decode cX4_wetDays 10 = .ok (.aload_n 0, 1) := by decide +kernel
theorem dX4_wetDays_11 : decode cX4_wetDays 11 = .ok (.getfield 25, 3) := by decide +kernel
theorem dX4_wetDays_14 : decode cX4_wetDays 14 = .ok (.iload_n 3, 1) := by decide +kernel
theorem dX4_wetDays_15 : decode cX4_wetDays 15 = .ok (.iaload, 1) := by decide +kernel
theorem dX4_wetDays_16 : decode cX4_wetDays 16 = .ok (.iload_n 1, 1) := by decide +kernel
theorem dX4_wetDays_17 : decode cX4_wetDays 17 = .ok (.if_icmp .lt 6, 3) := by decide +kernel
theorem dX4_wetDays_20 : decode cX4_wetDays 20 = .ok (.iinc 2 1, 3) := by decide +kernel
theorem dX4_wetDays_23 : decode cX4_wetDays 23 = .ok (.iinc 3 1, 3) := by decide +kernel
theorem dX4_wetDays_26 : decode cX4_wetDays 26 = .ok (.goto (-22), 3) := by decide +kernel
theorem dX4_wetDays_29 : decode cX4_wetDays 29 = .ok (.iload_n 2, 1) := by decide +kernel
theorem dX4_wetDays_30 : decode cX4_wetDays 30 = .ok (.ireturn, 1) := by decide +kernel
theorem dX5_init_0 : decode cX5_init 0 = .ok (.aload_n 0, 1) := by decide +kernel
theorem dX5_init_1 : decode cX5_init 1 = .ok (.invokespecial 3, 3) := by decide +kernel
theorem dX5_init_4 : decode cX5_init 4 = .ok (.aload_n 0, 1) := by decide +kernel
theorem dX5_init_5 : decode cX5_init 5 = .ok (.sipush 200, 3) := by decide +kernel
theorem dX5_init_8 : decode cX5_init 8 = .ok (.newarray .int, 2) := by decide +kernel
theorem dX5_init_10 : decode cX5_init 10 = .ok (.putfield 9, 3) := by decide +kernel
theorem dX5_init_13 : decode cX5_init 13 = .ok (.aload_n 0, 1) := by decide +kernel
theorem dX5_init_14 : decode cX5_init 14 = .ok (.sipush 200, 3) := by decide +kernel
theorem dX5_init_17 : decode cX5_init 17 = .ok (.newarray .int, 2) := by decide +kernel
theorem dX5_init_19 : decode cX5_init 19 = .ok (.putfield 15, 3) := by decide +kernel
theorem dX5_init_22 : decode cX5_init 22 = .ok (.aload_n 0, 1) := by decide +kernel
theorem dX5_init_23 : decode cX5_init 23 = .ok (.sipush 200, 3) := by decide +kernel
theorem dX5_init_26 : decode cX5_init 26 = .ok (.newarray .int, 2) := by decide +kernel
theorem dX5_init_28 : decode cX5_init 28 = .ok (.putfield 18, 3) := by decide +kernel
theorem dX5_init_31 : decode cX5_init 31 = .ok (.aload_n 0, 1) := by decide +kernel
theorem dX5_init_32 : decode cX5_init 32 = .ok (.sipush 200, 3) := by decide +kernel
theorem dX5_init_35 : decode cX5_init 35 = .ok (.newarray .int, 2) := by decide +kernel
theorem dX5_init_37 : decode cX5_init 37 = .ok (.putfield 21, 3) := by decide +kernel
theorem dX5_init_40 : decode cX5_init 40 = .ok (.aload_n 0, 1) := by decide +kernel
theorem dX5_init_41 : decode cX5_init 41 = .ok (.bipush 24, 2) := by decide +kernel
theorem dX5_init_43 : decode cX5_init 43 = .ok (.newarray .int, 2) := by decide +kernel
theorem dX5_init_45 : decode cX5_init 45 = .ok (.putfield 24, 3) := by decide +kernel
theorem dX5_init_48 : decode cX5_init 48 = .ok (.aload_n 0, 1) := by decide +kernel
theorem dX5_init_49 : decode cX5_init 49 = .ok (.bipush 24, 2) := by decide +kernel
theorem dX5_init_51 : decode cX5_init 51 = .ok (.newarray .int, 2) := by decide +kernel
theorem dX5_init_53 : decode cX5_init 53 = .ok (.putfield 27, 3) := by decide +kernel
theorem dX5_init_56 : decode cX5_init 56 = .ok (.aload_n 0, 1) := by decide +kernel
theorem dX5_init_57 : decode cX5_init 57 = .ok (.iconst 0, 1) := by decide +kernel
theorem dX5_init_58 : decode cX5_init 58 = .ok (.putfield 30, 3) := by decide +kernel
theorem dX5_init_61 : decode cX5_init 61 = .ok (.return_, 1) := by decide +kernel
theorem dX5_add_0 : decode cX5_add 0 = .ok (.aload_n 0, 1) := by decide +kernel
theorem dX5_add_1 : decode cX5_add 1 = .ok (.getfield 9, 3) := by decide +kernel
theorem dX5_add_4 : decode cX5_add 4 = .ok (.aload_n 0, 1) := by decide +kernel
theorem dX5_add_5 : decode cX5_add 5 = .ok (.getfield 30, 3) := by decide +kernel
theorem dX5_add_8 : decode cX5_add 8 = .ok (.iload_n 1, 1) := by decide +kernel
theorem dX5_add_9 : decode cX5_add 9 = .ok (.iastore, 1) := by decide +kernel
theorem dX5_add_10 : decode cX5_add 10 = .ok (.aload_n 0, 1) := by decide +kernel
theorem dX5_add_11 : decode cX5_add 11 = .ok (.getfield 15, 3) := by decide +kernel
theorem dX5_add_14 : decode cX5_add 14 = .ok (.aload_n 0, 1) := by decide +kernel
theorem dX5_add_15 : decode cX5_add 15 = .ok (.getfield 30, 3) := by decide +kernel
theorem dX5_add_18 : decode cX5_add 18 = .ok (.iload_n 2, 1) := by decide +kernel
theorem dX5_add_19 : decode cX5_add 19 = .ok (.iastore, 1) := by decide +kernel
theorem dX5_add_20 : decode cX5_add 20 = .ok (.aload_n 0, 1) := by decide +kernel
theorem dX5_add_21 : decode cX5_add 21 = .ok (.getfield 18, 3) := by decide +kernel
theorem dX5_add_24 : decode cX5_add 24 = .ok (.aload_n 0, 1) := by decide +kernel
theorem dX5_add_25 : decode cX5_add 25 = .ok (.getfield 30, 3) := by decide +kernel
theorem dX5_add_28 : decode cX5_add 28 = .ok (.iload_n 3, 1) := by decide +kernel
theorem dX5_add_29 : decode cX5_add 29 = .ok (.iastore, 1) := by decide +kernel
theorem dX5_add_30 : decode cX5_add 30 = .ok (.aload_n 0, 1) := by decide +kernel
theorem dX5_add_31 : decode cX5_add 31 = .ok (.getfield 21, 3) := by decide +kernel
theorem dX5_add_34 : decode cX5_add 34 = .ok (.aload_n 0, 1) := by decide +kernel
theorem dX5_add_35 : decode cX5_add 35 = .ok (.getfield 30, 3) := by decide +kernel
theorem dX5_add_38 : decode cX5_add 38 = .ok (.iload 4, 2) := by decide +kernel
theorem dX5_add_40 : decode cX5_add 40 = .ok (.iastore, 1) := by decide +kernel
theorem dX5_add_41 : decode cX5_add 41 = .ok (.aload_n 0, 1) := by decide +kernel
theorem dX5_add_42 : decode cX5_add 42 = .ok (.dup, 1) := by decide +kernel
theorem dX5_add_43 : decode cX5_add 43 = .ok (.getfield 30, 3) := by decide +kernel
theorem dX5_add_46 : decode cX5_add 46 = .ok (.iconst 1, 1) := by decide +kernel
theorem dX5_add_47 : decode cX5_add 47 = .ok (.iadd, 1) := by decide +kernel
theorem dX5_add_48 : decode cX5_add 48 = .ok (.putfield 30, 3) := by decide +kernel
theorem dX5_add_51 : decode cX5_add 51 = .ok (.return_, 1) := by decide +kernel
theorem dX5_sumUp_0 : decode cX5_sumUp 0 = .ok (.iconst 0, 1) := by decide +kernel
theorem dX5_sumUp_1 : decode cX5_sumUp 1 = .ok (.istore_n 3, 1) := by decide +kernel
theorem dX5_sumUp_2 : decode cX5_sumUp 2 = .ok (.iload_n 3, 1) := by decide +kernel
theorem dX5_sumUp_3 : decode cX5_sumUp 3 = .ok (.bipush 24, 2) := by decide +kernel
theorem dX5_sumUp_5 : decode cX5_sumUp 5 = .ok (.if_icmp .ge 23, 3) := by decide +kernel
theorem dX5_sumUp_8 : decode cX5_sumUp 8 = .ok (.aload_n 0, 1) := by decide +kernel
theorem dX5_sumUp_9 : decode cX5_sumUp 9 = .ok (.getfield 24, 3) := by decide +kernel
theorem dX5_sumUp_12 : decode cX5_sumUp 12 = .ok (.iload_n 3, 1) := by decide +kernel
theorem dX5_sumUp_13 : decode cX5_sumUp 13 = .ok (.iconst 0, 1) := by decide +kernel
theorem dX5_sumUp_14 : decode cX5_sumUp 14 = .ok (.iastore, 1) := by decide +kernel
theorem dX5_sumUp_15 : decode cX5_sumUp 15 = .ok (.aload_n 0, 1) := by decide +kernel
theorem dX5_sumUp_16 : decode cX5_sumUp 16 = .ok (.getfield 27, 3) := by decide +kernel
theorem dX5_sumUp_19 : decode cX5_sumUp 19 = .ok (.iload_n 3, 1) := by decide +kernel
theorem dX5_sumUp_20 : decode cX5_sumUp 20 = .ok (.iconst 0, 1) := by decide +kernel
theorem dX5_sumUp_21 : decode cX5_sumUp 21 = .ok (.iastore, 1) := by decide +kernel
theorem dX5_sumUp_22 : decode cX5_sumUp 22 = .ok (.iinc 3 1, 3) := by decide +kernel
theorem dX5_sumUp_25 : decode cX5_sumUp 25 = .ok (.goto (-23), 3) := by decide +kernel
theorem dX5_sumUp_28 : decode cX5_sumUp 28 = .ok (.iconst 0, 1) := by decide +kernel
theorem dX5_sumUp_29 : decode cX5_sumUp 29 = .ok (.istore_n 3, 1) := by decide +kernel
theorem dX5_sumUp_30 : decode cX5_sumUp 30 = .ok (.iload_n 3, 1) := by decide +kernel
theorem dX5_sumUp_31 : decode cX5_sumUp 31 = .ok (.aload_n 0, 1) := by decide +kernel
theorem dX5_sumUp_32 : decode cX5_sumUp 32 = .ok (.getfield 30, 3) := by decide +kernel
theorem dX5_sumUp_35 : decode cX5_sumUp 35 = .ok (.if_icmp .ge 69, 3) := by decide +kernel
theorem dX5_sumUp_38 : decode cX5_sumUp 38 = .ok (.aload_n 0, 1) := by decide +kernel
theorem dX5_sumUp_39 : decode cX5_sumUp 39 = .ok (.getfield 21, 3) := by decide +kernel
theorem dX5_sumUp_42 : decode cX5_sumUp 42 = .ok (.iload_n 3, 1) := by decide +kernel
theorem dX5_sumUp_43 : decode cX5_sumUp 43 = .ok (.iaload, 1) := by decide +kernel
theorem dX5_sumUp_44 : decode cX5_sumUp 44 = .ok (.iload_n 2, 1) := by decide +kernel
theorem dX5_sumUp_45 : decode cX5_sumUp 45 = .ok (.if_icmp .gt 53, 3) := by decide +kernel
theorem dX5_sumUp_48 : decode cX5_sumUp 48 = .ok (.aload_n 0, 1) := by decide +kernel
theorem dX5_sumUp_49 : decode cX5_sumUp 49 = .ok (.getfield 27, 3) := by decide +kernel
theorem dX5_sumUp_52 : decode cX5_sumUp 52 = .ok (.aload_n 0, 1) := by decide +kernel
theorem dX5_sumUp_53 : decode cX5_sumUp 53 = .ok (.getfield 15, 3) := by decide +kernel
theorem dX5_sumUp_56 : decode cX5_sumUp 56 = .ok (.iload_n 3, 1) := by decide +kernel
theorem dX5_sumUp_57 : decode cX5_sumUp 57 = .ok (.iaload, 1) := by decide +kernel
theorem dX5_sumUp_58 : decode cX5_sumUp 58 = .ok (.dup2, 1) := by decide +kernel
theorem dX5_sumUp_59 : decode cX5_sumUp 59 = .ok (.iaload, 1) := by decide +kernel
theorem dX5_sumUp_60 : decode cX5_sumUp 60 = .ok (.aload_n 0, 1) := by decide +kernel
theorem dX5_sumUp_61 : decode cX5_sumUp 61 = .ok (.getfield 18, 3) := by decide +kernel
theorem dX5_sumUp_64 : decode cX5_sumUp 64 = .ok (.iload_n 3, 1) := by decide +kernel
theorem dX5_sumUp_65 : decode cX5_sumUp 65 = .ok (.iaload, 1) := by decide +kernel
theorem dX5_sumUp_66 : decode cX5_sumUp 66 = .ok (.iadd, 1) := by decide +kernel
theorem dX5_sumUp_67 : decode cX5_sumUp 67 = .ok (.iastore, 1) := by decide +kernel
theorem dX5_sumUp_68 : decode cX5_sumUp 68 = .ok (.aload_n 0, 1) := by decide +kernel
theorem dX5_sumUp_69 : decode cX5_sumUp 69 = .ok (.getfield 9, 3) := by decide +kernel
theorem dX5_sumUp_72 : decode cX5_sumUp 72 = .ok (.iload_n 3, 1) := by decide +kernel
theorem dX5_sumUp_73 : decode cX5_sumUp 73 = .ok (.iaload, 1) := by decide +kernel
theorem dX5_sumUp_74 : decode cX5_sumUp 74 = .ok (.iload_n 1, 1) := by decide +kernel
theorem dX5_sumUp_75 : decode cX5_sumUp 75 = .ok (.if_icmp .ne 23, 3) := by decide +kernel
theorem dX5_sumUp_78 : decode cX5_sumUp 78 = .ok (.aload_n 0, 1) := by decide +kernel
theorem dX5_sumUp_79 : decode cX5_sumUp 79 = .ok (.getfield 24, 3) := by decide +kernel
theorem dX5_sumUp_82 : decode cX5_sumUp 82 = .ok (.aload_n 0, 1) := by decide +kernel
theorem dX5_sumUp_83 : decode cX5_sumUp 83 = .ok (.getfield 15, 3) := by decide +kernel
theorem dX5_sumUp_86 : decode cX5_sumUp 86 = .ok (.iload_n 3, 1) := by decide +kernel
theorem dX5_sumUp_87 : decode cX5_sumUp 87 = .ok (.iaload, 1) := by decide +kernel
theorem dX5_sumUp_88 : decode cX5_sumUp 88 = .ok (.dup2, 1) := by decide +kernel
theorem dX5_sumUp_89 : decode cX5_sumUp 89 = .ok (.iaload, 1) := by decide +kernel
theorem dX5_sumUp_90 : decode cX5_sumUp 90 = .ok (.aload_n 0, 1) := by decide +kernel
theorem dX5_sumUp_91 : decode cX5_sumUp 91 = .ok (.getfield 18, 3) := by decide +kernel
theorem dX5_sumUp_94 : decode cX5_sumUp 94 = .ok (.iload_n 3, 1) := by decide +kernel
theorem dX5_sumUp_95 : decode cX5_sumUp 95 = .ok (.iaload, 1) := by decide +kernel
theorem dX5_sumUp_96 : decode cX5_sumUp 96 = .ok (.iadd, 1) := by decide +kernel
theorem dX5_sumUp_97 : decode cX5_sumUp 97 = .ok (.iastore, 1) := by decide +kernel
theorem dX5_sumUp_98 : decode cX5_sumUp 98 = .ok (.iinc 3 1, 3) := by decide +kernel
theorem dX5_sumUp_101 : decode cX5_sumUp 101 = .ok (.goto (-71), 3) := by decide +kernel
theorem dX5_sumUp_104 : decode cX5_sumUp 104 = .ok (.return_, 1) := by decide +kernel
theorem dX6_init_0 : decode cX6_init 0 = .ok (.aload_n 0, 1) := by decide +kernel
theorem dX6_init_1 : decode cX6_init 1 = .ok (.invokespecial 3, 3) := by decide +kernel
theorem dX6_init_4 : decode cX6_init 4 = .ok (.aload_n 0, 1) := by decide +kernel
theorem dX6_init_5 : decode cX6_init 5 = .ok (.sipush 200, 3) := by decide +kernel
theorem dX6_init_8 : decode cX6_init 8 = .ok (.newarray .int, 2) := by decide +kernel
theorem dX6_init_10 : decode cX6_init 10 = .ok (.putfield 9, 3) := by decide +kernel
theorem dX6_init_13 : decode cX6_init 13 = .ok (.aload_n 0, 1) := by decide +kernel
theorem dX6_init_14 : decode cX6_init 14 = .ok (.iconst 0, 1) := by decide +kernel
theorem dX6_init_15 : decode cX6_init 15 = .ok (.putfield 15, 3) := by decide +kernel
theorem dX6_init_18 : decode cX6_init 18 = .ok (.aload_n 0, 1) := by decide +kernel
theorem dX6_init_19 : decode cX6_init 19 = .ok (.iconst 0, 1) := by decide +kernel
theorem dX6_init_20 : decode cX6_init 20 = .ok (.putfield 19, 3) := by decide +kernel
theorem dX6_init_23 : decode cX6_init 23 = .ok (.aload_n 0, 1) := by decide +kernel
theorem dX6_init_24 : decode cX6_init 24 = .ok (.iconst 0, 1) := by decide +kernel
theorem dX6_init_25 : decode cX6_init 25 = .ok (.putfield 22, 3) := by decide +kernel
theorem dX6_init_28 : decode cX6_init 28 = .ok (.aload_n 0, 1) := by decide +kernel
theorem dX6_init_29 : decode cX6_init 29 = .ok (.iconst 0, 1) := by decide +kernel
theorem dX6_init_30 : decode cX6_init 30 = .ok (.putfield 25, 3) := by decide +kernel
theorem dX6_init_33 : decode cX6_init 33 = .ok (.return_, 1) := by decide +kernel
theorem dX6_append_0 : decode cX6_append 0 = .ok (.bipush 24, 2) := by decide +kernel
theorem dX6_append_2 : decode cX6_append 2 = .ok (.istore_n 2, 1) := by decide +kernel
theorem dX6_append_3 : decode cX6_append 3 = .ok (.iload_n 2, 1) := by decide +kernel
theorem dX6_append_4 : decode cX6_append 4 = .ok (.ifCond .lt 45, 3) := by decide +kernel
theorem dX6_append_7 : decode cX6_append 7 = .ok (.aload_n 0, 1) := by decide +kernel
theorem dX6_append_8 : decode cX6_append 8 = .ok (.getfield 15, 3) := by decide +kernel
theorem dX6_append_11 : decode cX6_append 11 = .ok (.sipush 200, 3) := by decide +kernel
theorem dX6_append_14 : decode cX6_append 14 = .ok (.if_icmp .ge 29, 3) := by decide +kernel
theorem dX6_append_17 : decode cX6_append 17 = .ok (.aload_n 0, 1) := by decide +kernel
theorem dX6_append_18 : decode cX6_append 18 = .ok (.getfield 9, 3) := by decide +kernel
theorem dX6_append_21 : decode cX6_append 21 = .ok (.aload_n 0, 1) := by decide +kernel
theorem dX6_append_22 : decode cX6_append 22 = .ok (.getfield 15, 3) := by decide +kernel
theorem dX6_append_25 : decode cX6_append 25 = .ok (.iload_n 1, 1) := by decide +kernel
theorem dX6_append_26 : decode cX6_append 26 = .ok (.iload_n 2, 1) := by decide +kernel
theorem dX6_append_27 : decode cX6_append 27 = .ok (.iushr, 1) := by decide +kernel
theorem dX6_append_28 : decode cX6_append 28 = .ok (.sipush 255, 3) := by decide +kernel
theorem dX6_append_31 : decode cX6_append 31 = .ok (.iand, 1) := by decide +kernel
theorem dX6_append_32 : decode cX6_append 32 = .ok (.iastore, 1) := by decide +kernel
theorem dX6_append_33 : decode cX6_append 33 = .ok (.aload_n 0, 1) := by decide +kernel
theorem dX6_append_34 : decode cX6_append 34 = .ok (.dup, 1) := by decide +kernel
theorem dX6_append_35 : decode cX6_append 35 = .ok (.getfield 15, 3) := by decide +kernel
theorem dX6_append_38 : decode cX6_append 38 = .ok (.iconst 1, 1) := by decide +kernel
theorem dX6_append_39 : decode cX6_append 39 = .ok (.iadd, 1) := by decide +kernel
theorem dX6_append_40 : decode cX6_append 40 = .ok (.putfield 15, 3) := by decide +kernel
theorem dX6_append_43 : decode cX6_append 43 = .ok (.iinc 2 (-8), 3) := by decide +kernel
theorem dX6_append_46 : decode cX6_append 46 = .ok (.goto (-43), 3) := by decide +kernel
theorem dX6_append_49 : decode cX6_append 49 = .ok (.return_, 1) := by decide +kernel
theorem dX6_parseInto_0 : decode cX6_parseInto 0 = .ok (.aload_n 1, 1) := by decide +kernel
theorem dX6_parseInto_1 : decode cX6_parseInto 1 = .ok (.iconst 0, 1) := by decide +kernel
theorem dX6_parseInto_2 : decode cX6_parseInto 2 = .ok (.putfield 28, 3) := by decide +kernel
theorem dX6_parseInto_5 : decode cX6_parseInto 5 = .ok (.aload_n 0, 1) := by decide +kernel
theorem dX6_parseInto_6 : decode cX6_parseInto 6 = .ok (.iconst 0, 1) := by decide +kernel
theorem dX6_parseInto_7 : decode cX6_parseInto 7 = .ok (.putfield 25, 3) := by decide +kernel
theorem dX6_parseInto_10 : decode cX6_parseInto 10 = .ok (.aload_n 0, 1) := by decide +kernel
theorem dX6_parseInto_11 : decode cX6_parseInto 11 = .ok (.invokevirtual 33, 3) := by decide +kernel
theorem dX6_parseInto_14 : decode cX6_parseInto 14 = .ok (.aload_n 0, 1) := by decide +kernel
theorem dX6_parseInto_15 : decode cX6_parseInto 15 = .ok (.getfield 19, 3) := by decide +kernel
theorem dX6_parseInto_18 : decode cX6_parseInto 18 = .ok (.ifCond .ne 5, 3) := by decide +kernel
theorem dX6_parseInto_21 : decode cX6_parseInto 21 = .ok (.iconst (-1), 1) := by decide +kernel
theorem dX6_parseInto_22 : decode cX6_parseInto 22 = .ok (.ireturn, 1) := by decide +kernel
theorem dX6_parseInto_23 : decode cX6_parseInto 23 = .ok (.iconst 0, 1) := by decide +kernel
theorem dX6_parseInto_24 : decode cX6_parseInto 24 = .ok (.istore_n 2, 1) := by decide +kernel
theorem dX6_parseInto_25 : decode cX6_parseInto 25 = .ok (.iload_n 2, 1) := by decide +kernel
theorem dX6_parseInto_26 : decode cX6_parseInto 26 = .ok (.bipush 20, 2) := by decide +kernel
theorem dX6_parseInto_28 : decode cX6_parseInto 28 = .ok (.if_icmp .ge 43, 3) := by decide +kernel
theorem dX6_parseInto_31 : decode cX6_parseInto 31 = .ok (.aload_n 0, 1) := by decide +kernel
theorem dX6_parseInto_32 : decode cX6_parseInto 32 = .ok (.aload_n 1, 1) := by decide +kernel
theorem dX6_parseInto_33 : decode cX6_parseInto 33 = .ok (.invokevirtual 36, 3) := by decide +kernel
theorem dX6_parseInto_36 : decode cX6_parseInto 36 = .ok (.ifCond .ne 8, 3) := by decide +kernel
theorem dX6_parseInto_39 : decode cX6_parseInto 39 = .ok (.aload_n 0, 1) := by decide +kernel
theorem dX6_parseInto_40 : decode cX6_parseInto 40 = .ok (.getfield 22, 3) := by decide +kernel
theorem dX6_parseInto_43 : decode cX6_parseInto 43 = .ok (.ireturn, 1) := by decide +kernel
theorem dX6_parseInto_44 : decode cX6_parseInto 44 = .ok (.aload_n 0, 1) := by decide +kernel
theorem dX6_parseInto_45 : decode cX6_parseInto 45 = .ok (.getfield 19, 3) := by decide +kernel
theorem dX6_parseInto_48 : decode cX6_parseInto 48 = .ok (.ifCond .ne 5, 3) := by decide +kernel
theorem dX6_parseInto_51 : decode cX6_parseInto 51 = .ok (.iconst (-1), 1) := by decide +kernel
theorem dX6_parseInto_52 : decode cX6_parseInto 52 = .ok (.ireturn, 1) := by decide +kernel
theorem dX6_parseInto_53 : decode cX6_parseInto 53 = .ok (.aload_n 0, 1) := by decide +kernel
theorem dX6_parseInto_54 : decode cX6_parseInto 54 = .ok (.invokevirtual 40, 3) := by decide +kernel
theorem dX6_parseInto_57 : decode cX6_parseInto 57 = .ok (.ifCond .ne 8, 3) := by decide +kernel
theorem dX6_parseInto_60 : decode cX6_parseInto 60 = .ok (.aload_n 0, 1) := by decide +kernel
theorem dX6_parseInto_61 : decode cX6_parseInto 61 = .ok (.getfield 22, 3) := by decide +kernel
theorem dX6_parseInto_64 : decode cX6_parseInto 64 = .ok (.ireturn, 1) := by decide +kernel
theorem dX6_parseInto_65 : decode cX6_parseInto 65 = .ok (.iinc 2 1, 3) := by decide +kernel
theorem dX6_parseInto_68 : decode cX6_parseInto 68 = .ok (.goto (-43), 3) := by decide +kernel
theorem dX6_parseInto_71 : decode cX6_parseInto 71 = .ok (.aload_n 0, 1) := by decide +kernel
theorem dX6_parseInto_72 : decode cX6_parseInto 72 = .ok (.getfield 22, 3) := by decide +kernel
theorem dX6_parseInto_75 : decode cX6_parseInto 75 = .ok (.ireturn, 1) := by decide +kernel
theorem dX6_takeDecree_0 : decode cX6_takeDecree 0 = .ok (.aload_n 0, 1) := by decide +kernel
theorem dX6_takeDecree_1 : decode cX6_takeDecree 1 = .ok (.invokevirtual 44, 3) := by decide +kernel
theorem dX6_takeDecree_4 : decode cX6_takeDecree 4 = .ok (.istore_n 2, 1) := by decide +kernel
theorem dX6_takeDecree_5 : decode cX6_takeDecree 5 = .ok (.iload_n 2, 1) := by decide +kernel
theorem dX6_takeDecree_6 : decode cX6_takeDecree 6 = .ok (.iconst (-1), 1) := by decide +kernel
theorem dX6_takeDecree_7 : decode cX6_takeDecree 7 = .ok (.if_icmp .ne 5, 3) := by decide +kernel
theorem dX6_takeDecree_10 : decode cX6_takeDecree 10 = .ok (.iconst 0, 1) := by decide +kernel
theorem dX6_takeDecree_11 : decode cX6_takeDecree 11 = .ok (.ireturn, 1) := by decide +kernel
theorem dX6_takeDecree_12 : decode cX6_takeDecree 12 = .ok (.aload_n 0, 1) := by decide +kernel
theorem dX6_takeDecree_13 : decode cX6_takeDecree 13 = .ok (.iconst 0, 1) := by decide +kernel
theorem dX6_takeDecree_14 : decode cX6_takeDecree 14 = .ok (.invokevirtual 48, 3) := by decide +kernel
theorem dX6_takeDecree_17 : decode cX6_takeDecree 17 = .ok (.istore_n 3, 1) := by decide +kernel
theorem dX6_takeDecree_18 : decode cX6_takeDecree 18 = .ok (.iload_n 3, 1) := by decide +kernel
theorem dX6_takeDecree_19 : decode cX6_takeDecree 19 = .ok (.iconst (-1), 1) := by decide +kernel
theorem dX6_takeDecree_20 : decode cX6_takeDecree 20 = .ok (.if_icmp .ne 5, 3) := by decide +kernel
theorem dX6_takeDecree_23 : decode cX6_takeDecree 23 = .ok (.iconst 0, 1) := by decide +kernel
theorem dX6_takeDecree_24 : decode cX6_takeDecree 24 = .ok (.ireturn, 1) := by decide +kernel
theorem dX6_takeDecree_25 : decode cX6_takeDecree 25 = .ok (.iload_n 2, 1) := by decide +kernel
theorem dX6_takeDecree_26 : decode cX6_takeDecree 26 = .ok (.iconst 2, 1) := by decide +kernel
theorem dX6_takeDecree_27 : decode cX6_takeDecree 27 = .ok (.if_icmp .ne 13, 3) := by decide +kernel
theorem dX6_takeDecree_30 : decode cX6_takeDecree 30 = .ok (.aload_n 1, 1) := by decide +kernel
theorem dX6_takeDecree_31 : decode cX6_takeDecree 31 = .ok (.iload_n 2, 1) := by decide +kernel
theorem dX6_takeDecree_32 : decode cX6_takeDecree 32 = .ok (.iconst 0, 1) := by decide +kernel
theorem dX6_takeDecree_33 : decode cX6_takeDecree 33 = .ok (.iconst 1, 1) := by decide +kernel
theorem dX6_takeDecree_34 : decode cX6_takeDecree 34 = .ok (.iload_n 3, 1) := by decide +kernel
theorem dX6_takeDecree_35 : decode cX6_takeDecree 35 = .ok (.invokevirtual 52, 3) := by decide +kernel
theorem dX6_takeDecree_38 : decode cX6_takeDecree 38 = .ok (.iconst 1, 1) := by decide +kernel
theorem dX6_takeDecree_39 : decode cX6_takeDecree 39 = .ok (.ireturn, 1) := by decide +kernel
theorem dX6_takeDecree_40 : decode cX6_takeDecree 40 = .ok (.aload_n 0, 1) := by decide +kernel
theorem dX6_takeDecree_41 : decode cX6_takeDecree 41 = .ok (.ldc 56, 2) := by decide +kernel
theorem dX6_takeDecree_43 : decode cX6_takeDecree 43 = .ok (.invokevirtual 58, 3) := by decide +kernel
theorem dX6_takeDecree_46 : decode cX6_takeDecree 46 = .ok (.ifCond .ne 5, 3) := by decide +kernel
theorem dX6_takeDecree_49 : decode cX6_takeDecree 49 = .ok (.iconst 0, 1) := by decide +kernel
theorem dX6_takeDecree_50 : decode cX6_takeDecree 50 = .ok (.ireturn, 1) := by decide +kernel
theorem dX6_takeDecree_51 : decode cX6_takeDecree 51 = .ok (.aload_n 0, 1) := by decide +kernel
theorem dX6_takeDecree_52 : decode cX6_takeDecree 52 = .ok (.iconst 1, 1) := by decide +kernel
theorem dX6_takeDecree_53 : decode cX6_takeDecree 53 = .ok (.iload_n 3, 1) := by decide +kernel
theorem dX6_takeDecree_54 : decode cX6_takeDecree 54 = .ok (.invokestatic 62, 3) := by decide +kernel
theorem dX6_takeDecree_57 : decode cX6_takeDecree 57 = .ok (.invokevirtual 48, 3) := by decide +kernel
theorem dX6_takeDecree_60 : decode cX6_takeDecree 60 = .ok (.istore 4, 2) := by decide +kernel
theorem dX6_takeDecree_62 : decode cX6_takeDecree 62 = .ok (.iload 4, 2) := by decide +kernel
theorem dX6_takeDecree_64 : decode cX6_takeDecree 64 = .ok (.iconst (-1), 1) := by decide +kernel
theorem dX6_takeDecree_65 : decode cX6_takeDecree 65 = .ok (.if_icmp .ne 5, 3) := by decide +kernel
theorem dX6_takeDecree_68 : decode cX6_takeDecree 68 = .ok (.iconst 0, 1) := by decide +kernel
theorem dX6_takeDecree_69 : decode cX6_takeDecree 69 = .ok (.ireturn, 1) := by decide +kernel
theorem dX6_takeDecree_70 : decode cX6_takeDecree 70 = .ok (.aload_n 0, 1) := by decide +kernel
theorem dX6_takeDecree_71 : decode cX6_takeDecree 71 = .ok (.iload_n 2, 1) := by decide +kernel
theorem dX6_takeDecree_72 : decode cX6_takeDecree 72 = .ok (.invokevirtual 68, 3) := by decide +kernel
theorem dX6_takeDecree_75 : decode cX6_takeDecree 75 = .ok (.istore 5, 2) := by decide +kernel
theorem dX6_takeDecree_77 : decode cX6_takeDecree 77 = .ok (.iload 5, 2) := by decide +kernel
theorem dX6_takeDecree_79 : decode cX6_takeDecree 79 = .ok (.iconst (-1), 1) := by decide +kernel
theorem dX6_takeDecree_80 : decode cX6_takeDecree 80 = .ok (.if_icmp .ne 5, 3) := by decide +kernel
theorem dX6_takeDecree_83 : decode cX6_takeDecree 83 = .ok (.iconst 0, 1) := by decide +kernel
theorem dX6_takeDecree_84 : decode cX6_takeDecree 84 = .ok (.ireturn, 1) := by decide +kernel
theorem dX6_takeDecree_85 : decode cX6_takeDecree 85 = .ok (.aload_n 1, 1) := by decide +kernel
theorem dX6_takeDecree_86 : decode cX6_takeDecree 86 = .ok (.iload_n 2, 1) := by decide +kernel
theorem dX6_takeDecree_87 : decode cX6_takeDecree 87 = .ok (.iload_n 3, 1) := by decide +kernel
theorem dX6_takeDecree_88 : decode cX6_takeDecree 88 = .ok (.iload 4, 2) := by decide +kernel
theorem dX6_takeDecree_90 : decode cX6_takeDecree 90 = .ok (.iload 5, 2) := by decide +kernel
theorem dX6_takeDecree_92 : decode cX6_takeDecree 92 = .ok (.invokevirtual 52, 3) := by decide +kernel
theorem dX6_takeDecree_95 : decode cX6_takeDecree 95 = .ok (.iconst 1, 1) := by decide +kernel
theorem dX6_takeDecree_96 : decode cX6_takeDecree 96 = .ok (.ireturn, 1) := by decide +kernel
theorem dX6_takeDecreeKind_0 : decode cX6_takeDecreeKind 0 = .ok (.aload_n 0, 1) := by decide +kernel
theorem dX6_takeDecreeKind_1 : decode cX6_takeDecreeKind 1 = .ok (.ldc 71, 2) := by decide +kernel
theorem dX6_takeDecreeKind_3 : decode cX6_takeDecreeKind 3 = .ok (.invokevirtual 58, 3) := by decide +kernel
theorem dX6_takeDecreeKind_6 : decode cX6_takeDecreeKind 6 = .ok (.ifCond .eq 5, 3) := by decide +kernel
theorem dX6_takeDecreeKind_9 : decode cX6_takeDecreeKind 9 = .ok (.iconst 0, 1) := by decide +kernel
theorem dX6_takeDecreeKind_10 : decode cX6_takeDecreeKind 10 = .ok (.ireturn, 1) := by decide +kernel
theorem dX6_takeDecreeKind_11 : decode cX6_takeDecreeKind 11 = .ok (.aload_n 0, 1) := by decide +kernel
theorem dX6_takeDecreeKind_12 : decode cX6_takeDecreeKind 12 = .ok (.ldc 73, 2) := by decide +kernel
theorem dX6_takeDecreeKind_14 : decode cX6_takeDecreeKind 14 = .ok (.invokevirtual 58, 3) := by decide +kernel
theorem dX6_takeDecreeKind_17 : decode cX6_takeDecreeKind 17 = .ok (.ifCond .eq 5, 3) := by decide +kernel
theorem dX6_takeDecreeKind_20 : decode cX6_takeDecreeKind 20 = .ok (.iconst 1, 1) := by decide +kernel
theorem dX6_takeDecreeKind_21 : decode cX6_takeDecreeKind 21 = .ok (.ireturn, 1) := by decide +kernel
theorem dX6_takeDecreeKind_22 : decode cX6_takeDecreeKind 22 = .ok (.aload_n 0, 1) := by decide +kernel
theorem dX6_takeDecreeKind_23 : decode cX6_takeDecreeKind 23 = .ok (.ldc 75, 2) := by decide +kernel
theorem dX6_takeDecreeKind_25 : decode cX6_takeDecreeKind 25 = .ok (.invokevirtual 58, 3) := by decide +kernel
theorem dX6_takeDecreeKind_28 : decode cX6_takeDecreeKind 28 = .ok (.ifCond .eq 5, 3) := by decide +kernel
theorem dX6_takeDecreeKind_31 : decode cX6_takeDecreeKind 31 = .ok (.iconst 2, 1) := by decide +kernel
theorem dX6_takeDecreeKind_32 : decode cX6_takeDecreeKind 32 = .ok (.ireturn, 1) := by decide +kernel
theorem dX6_takeDecreeKind_33 : decode cX6_takeDecreeKind 33 = .ok (.aload_n 0, 1) := by decide +kernel
theorem dX6_takeDecreeKind_34 : decode cX6_takeDecreeKind 34 = .ok (.ldc 77, 2) := by decide +kernel
theorem dX6_takeDecreeKind_36 : decode cX6_takeDecreeKind 36 = .ok (.invokevirtual 58, 3) := by decide +kernel
theorem dX6_takeDecreeKind_39 : decode cX6_takeDecreeKind 39 = .ok (.ifCond .eq 7, 3) := by decide +kernel
theorem dX6_takeDecreeKind_42 : decode cX6_takeDecreeKind 42 = .ok (.iconst 3, 1) := by decide +kernel
theorem dX6_takeDecreeKind_43 : decode cX6_takeDecreeKind 43 = .ok (.goto 4, 3) := by decide +kernel
theorem dX6_takeDecreeKind_46 : decode cX6_takeDecreeKind 46 = .ok (.iconst (-1), 1) := by decide +kernel
theorem dX6_takeDecreeKind_47 : decode cX6_takeDecreeKind 47 = .ok (.ireturn, 1) := by decide +kernel
theorem dX6_takeBound_0 : decode cX6_takeBound 0 = .ok (.iload_n 1, 1) := by decide +kernel
theorem dX6_takeBound_1 : decode cX6_takeBound 1 = .ok (.iconst 3, 1) := by decide +kernel
theorem dX6_takeBound_2 : decode cX6_takeBound 2 = .ok (.if_icmp .ne 5, 3) := by decide +kernel
theorem dX6_takeBound_5 : decode cX6_takeBound 5 = .ok (.iconst 0, 1) := by decide +kernel
theorem dX6_takeBound_6 : decode cX6_takeBound 6 = .ok (.ireturn, 1) := by decide +kernel
theorem dX6_takeBound_7 : decode cX6_takeBound 7 = .ok (.iload_n 1, 1) := by decide +kernel
theorem dX6_takeBound_8 : decode cX6_takeBound 8 = .ok (.ifCond .ne 12, 3) := by decide +kernel
theorem dX6_takeBound_11 : decode cX6_takeBound 11 = .ok (.aload_n 0, 1) := by decide +kernel
theorem dX6_takeBound_12 : decode cX6_takeBound 12 = .ok (.ldc 79, 2) := by decide +kernel
theorem dX6_takeBound_14 : decode cX6_takeBound 14 = .ok (.invokevirtual 58, 3) := by decide +kernel
theorem dX6_takeBound_17 : decode cX6_takeBound 17 = .ok (.goto 9, 3) := by decide +kernel
theorem dX6_takeBound_20 : decode cX6_takeBound 20 = .ok (.aload_n 0, 1) := by decide +kernel
theorem dX6_takeBound_21 : decode cX6_takeBound 21 = .ok (.ldc 81, 2) := by decide +kernel
theorem dX6_takeBound_23 : decode cX6_takeBound 23 = .ok (.invokevirtual 58, 3) := by decide +kernel
theorem dX6_takeBound_26 : decode cX6_takeBound 26 = .ok (.istore_n 2, 1) := by decide +kernel
theorem dX6_takeBound_27 : decode cX6_takeBound 27 = .ok (.iload_n 2, 1) := by decide +kernel
theorem dX6_takeBound_28 : decode cX6_takeBound 28 = .ok (.ifCond .eq 11, 3) := by decide +kernel
theorem dX6_takeBound_31 : decode cX6_takeBound 31 = .ok (.aload_n 0, 1) := by decide +kernel
theorem dX6_takeBound_32 : decode cX6_takeBound 32 = .ok (.iconst 0, 1) := by decide +kernel
theorem dX6_takeBound_33 : decode cX6_takeBound 33 = .ok (.invokevirtual 48, 3) := by decide +kernel
theorem dX6_takeBound_36 : decode cX6_takeBound 36 = .ok (.goto 4, 3) := by decide +kernel
theorem dX6_takeBound_39 : decode cX6_takeBound 39 = .ok (.iconst (-1), 1) := by decide +kernel
theorem dX6_takeBound_40 : decode cX6_takeBound 40 = .ok (.ireturn, 1) := by decide +kernel
theorem dX6_takeNumber_0 : decode cX6_takeNumber 0 = .ok (.aload_n 0, 1) := by decide +kernel
theorem dX6_takeNumber_1 : decode cX6_takeNumber 1 = .ok (.getfield 19, 3) := by decide +kernel
theorem dX6_takeNumber_4 : decode cX6_takeNumber 4 = .ok (.iconst 2, 1) := by decide +kernel
theorem dX6_takeNumber_5 : decode cX6_takeNumber 5 = .ok (.if_icmp .eq 5, 3) := by decide +kernel
theorem dX6_takeNumber_8 : decode cX6_takeNumber 8 = .ok (.iconst (-1), 1) := by decide +kernel
theorem dX6_takeNumber_9 : decode cX6_takeNumber 9 = .ok (.ireturn, 1) := by decide +kernel
theorem dX6_takeNumber_10 : decode cX6_takeNumber 10 = .ok (.aload_n 0, 1) := by decide +kernel
theorem dX6_takeNumber_11 : decode cX6_takeNumber 11 = .ok (.invokevirtual 83, 3) := by decide +kernel
theorem dX6_takeNumber_14 : decode cX6_takeNumber 14 = .ok (.istore_n 2, 1) := by decide +kernel
theorem dX6_takeNumber_15 : decode cX6_takeNumber 15 = .ok (.iload_n 2, 1) := by decide +kernel
theorem dX6_takeNumber_16 : decode cX6_takeNumber 16 = .ok (.iload_n 1, 1) := by decide +kernel
theorem dX6_takeNumber_17 : decode cX6_takeNumber 17 = .ok (.if_icmp .lt 10, 3) := by decide +kernel
theorem dX6_takeNumber_20 : decode cX6_takeNumber 20 = .ok (.iload_n 2, 1) := by decide +kernel
theorem dX6_takeNumber_21 : decode cX6_takeNumber 21 = .ok (.sipush 10000, 3) := by decide +kernel
theorem dX6_takeNumber_24 : decode cX6_takeNumber 24 = .ok (.if_icmp .le 5, 3) := by decide +kernel
theorem dX6_takeNumber_27 : decode cX6_takeNumber 27 = .ok (.iconst (-1), 1) := by decide +kernel
theorem dX6_takeNumber_28 : decode cX6_takeNumber 28 = .ok (.ireturn, 1) := by decide +kernel
theorem dX6_takeNumber_29 : decode cX6_takeNumber 29 = .ok (.aload_n 0, 1) := by decide +kernel
theorem dX6_takeNumber_30 : decode cX6_takeNumber 30 = .ok (.invokevirtual 33, 3) := by decide +kernel
theorem dX6_takeNumber_33 : decode cX6_takeNumber 33 = .ok (.iload_n 2, 1) := by decide +kernel
theorem dX6_takeNumber_34 : decode cX6_takeNumber 34 = .ok (.ireturn, 1) := by decide +kernel
theorem dX6_numberAhead_0 : decode cX6_numberAhead 0 = .ok (.iconst 0, 1) := by decide +kernel
theorem dX6_numberAhead_1 : decode cX6_numberAhead 1 = .ok (.istore_n 1, 1) := by decide +kernel
theorem dX6_numberAhead_2 : decode cX6_numberAhead 2 = .ok (.aload_n 0, 1) := by decide +kernel
theorem dX6_numberAhead_3 : decode cX6_numberAhead 3 = .ok (.getfield 22, 3) := by decide +kernel
theorem dX6_numberAhead_6 : decode cX6_numberAhead 6 = .ok (.istore_n 2, 1) := by decide +kernel
theorem dX6_numberAhead_7 : decode cX6_numberAhead 7 = .ok (.iload_n 2, 1) := by decide +kernel
theorem dX6_numberAhead_8 : decode cX6_numberAhead 8 = .ok (.aload_n 0, 1) := by decide +kernel
theorem dX6_numberAhead_9 : decode cX6_numberAhead 9 = .ok (.getfield 25, 3) := by decide +kernel
theorem dX6_numberAhead_12 : decode cX6_numberAhead 12 = .ok (.if_icmp .ge 30, 3) := by decide +kernel
theorem dX6_numberAhead_15 : decode cX6_numberAhead 15 = .ok (.iload_n 1, 1) := by decide +kernel
theorem dX6_numberAhead_16 : decode cX6_numberAhead 16 = .ok (.bipush 10, 2) := by decide +kernel
theorem dX6_numberAhead_18 : decode cX6_numberAhead 18 = .ok (.imul, 1) := by decide +kernel
theorem dX6_numberAhead_19 : decode cX6_numberAhead 19 = .ok (.aload_n 0, 1) := by decide +kernel
theorem dX6_numberAhead_20 : decode cX6_numberAhead 20 = .ok (.getfield 9, 3) := by decide +kernel
theorem dX6_numberAhead_23 : decode cX6_numberAhead 23 = .ok (.iload_n 2, 1) := by decide +kernel
theorem dX6_numberAhead_24 : decode cX6_numberAhead 24 = .ok (.iaload, 1) := by decide +kernel
theorem dX6_numberAhead_25 : decode cX6_numberAhead 25 = .ok (.iadd, 1) := by decide +kernel
theorem dX6_numberAhead_26 : decode cX6_numberAhead 26 = .ok (.bipush 48, 2) := by decide +kernel
theorem dX6_numberAhead_28 : decode cX6_numberAhead 28 = .ok (.isub, 1) := by decide +kernel
theorem dX6_numberAhead_29 : decode cX6_numberAhead 29 = .ok (.sipush 10001, 3) := by decide +kernel
theorem dX6_numberAhead_32 : decode cX6_numberAhead 32 = .ok (.invokestatic 86, 3) := by decide +kernel
theorem dX6_numberAhead_35 : decode cX6_numberAhead 35 = .ok (.istore_n 1, 1) := by decide +kernel
theorem dX6_numberAhead_36 : decode cX6_numberAhead 36 = .ok (.iinc 2 1, 3) := by decide +kernel
theorem dX6_numberAhead_39 : decode cX6_numberAhead 39 = .ok (.goto (-32), 3) := by decide +kernel
theorem dX6_numberAhead_42 : decode cX6_numberAhead 42 = .ok (.iload_n 1, 1) := by decide +kernel
theorem dX6_numberAhead_43 : decode cX6_numberAhead 43 = .ok (.ireturn, 1) := by decide +kernel
theorem dX6_takeWord_0 : decode cX6_takeWord 0 = .ok (.aload_n 0, 1) := by decide +kernel
theorem dX6_takeWord_1 : decode cX6_takeWord 1 = .ok (.getfield 19, 3) := by decide +kernel
theorem dX6_takeWord_4 : decode cX6_takeWord 4 = .ok (.iconst 1, 1) := by decide +kernel
theorem dX6_takeWord_5 : decode cX6_takeWord 5 = .ok (.if_icmp .ne 19, 3) := by decide +kernel
theorem dX6_takeWord_8 : decode cX6_takeWord 8 = .ok (.aload_n 0, 1) := by decide +kernel
theorem dX6_takeWord_9 : decode cX6_takeWord 9 = .ok (.getfield 25, 3) := by decide +kernel
theorem dX6_takeWord_12 : decode cX6_takeWord 12 = .ok (.aload_n 0, 1) := by decide +kernel
theorem dX6_takeWord_13 : decode cX6_takeWord 13 = .ok (.getfield 22, 3) := by decide +kernel
theorem dX6_takeWord_16 : decode cX6_takeWord 16 = .ok (.isub, 1) := by decide +kernel
theorem dX6_takeWord_17 : decode cX6_takeWord 17 = .ok (.aload_n 1, 1) := by decide +kernel
theorem dX6_takeWord_18 : decode cX6_takeWord 18 = .ok (.invokevirtual 89, 3) := by decide +kernel
theorem dX6_takeWord_21 : decode cX6_takeWord 21 = .ok (.if_icmp .eq 5, 3) := by decide +kernel
theorem dX6_takeWord_24 : decode cX6_takeWord 24 = .ok (.iconst 0, 1) := by decide +kernel
theorem dX6_takeWord_25 : decode cX6_takeWord 25 = .ok (.ireturn, 1) := by decide +kernel
theorem dX6_takeWord_26 : decode cX6_takeWord 26 = .ok (.iconst 0, 1) := by decide +kernel
theorem dX6_takeWord_27 : decode cX6_takeWord 27 = .ok (.istore_n 2, 1) := by decide +kernel
theorem dX6_takeWord_28 : decode cX6_takeWord 28 = .ok (.iload_n 2, 1) := by decide +kernel
theorem dX6_takeWord_29 : decode cX6_takeWord 29 = .ok (.aload_n 1, 1) := by decide +kernel
theorem dX6_takeWord_30 : decode cX6_takeWord 30 = .ok (.invokevirtual 89, 3) := by decide +kernel
theorem dX6_takeWord_33 : decode cX6_takeWord 33 = .ok (.if_icmp .ge 30, 3) := by decide +kernel
theorem dX6_takeWord_36 : decode cX6_takeWord 36 = .ok (.aload_n 0, 1) := by decide +kernel
theorem dX6_takeWord_37 : decode cX6_takeWord 37 = .ok (.getfield 9, 3) := by decide +kernel
theorem dX6_takeWord_40 : decode cX6_takeWord 40 = .ok (.aload_n 0, 1) := by decide +kernel
theorem dX6_takeWord_41 : decode cX6_takeWord 41 = .ok (.getfield 22, 3) := by decide +kernel
theorem dX6_takeWord_44 : decode cX6_takeWord 44 = .ok (.iload_n 2, 1) := by decide +kernel
theorem dX6_takeWord_45 : decode cX6_takeWord 45 = .ok (.iadd, 1) := by decide +kernel
theorem dX6_takeWord_46 : decode cX6_takeWord 46 = .ok (.iaload, 1) := by decide +kernel
theorem dX6_takeWord_47 : decode cX6_takeWord 47 = .ok (.aload_n 1, 1) := by decide +kernel
theorem dX6_takeWord_48 : decode cX6_takeWord 48 = .ok (.iload_n 2, 1) := by decide +kernel
theorem dX6_takeWord_49 : decode cX6_takeWord 49 = .ok (.invokevirtual 93, 3) := by decide +kernel
theorem dX6_takeWord_52 : decode cX6_takeWord 52 = .ok (.if_icmp .eq 5, 3) := by decide +kernel
theorem dX6_takeWord_55 : decode cX6_takeWord 55 = .ok (.iconst 0, 1) := by decide +kernel
theorem dX6_takeWord_56 : decode cX6_takeWord 56 = .ok (.ireturn, 1) := by decide +kernel
theorem dX6_takeWord_57 : decode cX6_takeWord 57 = .ok (.iinc 2 1, 3) := by decide +kernel
theorem dX6_takeWord_60 : decode cX6_takeWord 60 = .ok (.goto (-32), 3) := by decide +kernel
theorem dX6_takeWord_63 : decode cX6_takeWord 63 = .ok (.aload_n 0, 1) := by decide +kernel
theorem dX6_takeWord_64 : decode cX6_takeWord 64 = .ok (.invokevirtual 33, 3) := by decide +kernel
theorem dX6_takeWord_67 : decode cX6_takeWord 67 = .ok (.iconst 1, 1) := by decide +kernel
theorem dX6_takeWord_68 : decode cX6_takeWord 68 = .ok (.ireturn, 1) := by decide +kernel
theorem dX6_takeSemicolon_0 : decode cX6_takeSemicolon 0 = .ok (.aload_n 0, 1) := by decide +kernel
theorem dX6_takeSemicolon_1 : decode cX6_takeSemicolon 1 = .ok (.getfield 19, 3) := by decide +kernel
theorem dX6_takeSemicolon_4 : decode cX6_takeSemicolon 4 = .ok (.iconst 3, 1) := by decide +kernel
theorem dX6_takeSemicolon_5 : decode cX6_takeSemicolon 5 = .ok (.if_icmp .ne 17, 3) := by decide +kernel
theorem dX6_takeSemicolon_8 : decode cX6_takeSemicolon 8 = .ok (.aload_n 0, 1) := by decide +kernel
theorem dX6_takeSemicolon_9 : decode cX6_takeSemicolon 9 = .ok (.getfield 9, 3) := by decide +kernel
theorem dX6_takeSemicolon_12 : decode cX6_takeSemicolon 12 = .ok (.aload_n 0, 1) := by decide +kernel
theorem dX6_takeSemicolon_13 : decode cX6_takeSemicolon 13 = .ok (.getfield 22, 3) := by decide +kernel
theorem dX6_takeSemicolon_16 : decode cX6_takeSemicolon 16 = .ok (.iaload, 1) := by decide +kernel
theorem dX6_takeSemicolon_17 : decode cX6_takeSemicolon 17 = .ok (.bipush 59, 2) := by decide +kernel
theorem dX6_takeSemicolon_19 : decode cX6_takeSemicolon 19 = .ok (.if_icmp .eq 5, 3) := by decide +kernel
theorem dX6_takeSemicolon_22 : decode cX6_takeSemicolon 22 = .ok (.iconst 0, 1) := by decide +kernel
theorem dX6_takeSemicolon_23 : decode cX6_takeSemicolon 23 = .ok (.ireturn, 1) := by decide +kernel
theorem dX6_takeSemicolon_24 : decode cX6_takeSemicolon 24 = .ok (.aload_n 0, 1) := by decide +kernel
theorem dX6_takeSemicolon_25 : decode cX6_takeSemicolon 25 = .ok (.invokevirtual 33, 3) := by decide +kernel
theorem dX6_takeSemicolon_28 : decode cX6_takeSemicolon 28 = .ok (.iconst 1, 1) := by decide +kernel
theorem dX6_takeSemicolon_29 : decode cX6_takeSemicolon 29 = .ok (.ireturn, 1) := by decide +kernel
theorem dX6_nextToken_0 : decode cX6_nextToken 0 = .ok (.aload_n 0, 1) := by decide +kernel
theorem dX6_nextToken_1 : decode cX6_nextToken 1 = .ok (.aload_n 0, 1) := by decide +kernel
theorem dX6_nextToken_2 : decode cX6_nextToken 2 = .ok (.getfield 25, 3) := by decide +kernel
theorem dX6_nextToken_5 : decode cX6_nextToken 5 = .ok (.putfield 22, 3) := by decide +kernel
theorem dX6_nextToken_8 : decode cX6_nextToken 8 = .ok (.aload_n 0, 1) := by decide +kernel
theorem dX6_nextToken_9 : decode cX6_nextToken 9 = .ok (.getfield 22, 3) := by decide +kernel
theorem dX6_nextToken_12 : decode cX6_nextToken 12 = .ok (.aload_n 0, 1) := by decide +kernel
theorem dX6_nextToken_13 : decode cX6_nextToken 13 = .ok (.getfield 15, 3) := by decide +kernel
theorem dX6_nextToken_16 : decode cX6_nextToken 16 = .ok (.if_icmp .ge 30, 3) := by decide +kernel
theorem dX6_nextToken_19 : decode cX6_nextToken 19 = .ok (.aload_n 0, 1) := by decide +kernel
theorem dX6_nextToken_20 : decode cX6_nextToken 20 = .ok (.getfield 9, 3) := by decide +kernel
theorem dX6_nextToken_23 : decode cX6_nextToken 23 = .ok (.aload_n 0, 1) := by decide +kernel
theorem dX6_nextToken_24 : decode cX6_nextToken 24 = .ok (.getfield 22, 3) := by decide +kernel
theorem dX6_nextToken_27 : decode cX6_nextToken 27 = .ok (.iaload, 1) := by decide +kernel
theorem dX6_nextToken_28 : decode cX6_nextToken 28 = .ok (.bipush 32, 2) := by decide +kernel
theorem dX6_nextToken_30 : decode cX6_nextToken 30 = .ok (.if_icmp .ne 16, 3) := by decide +kernel
theorem dX6_nextToken_33 : decode cX6_nextToken 33 = .ok (.aload_n 0, 1) := by decide +kernel
theorem dX6_nextToken_34 : decode cX6_nextToken 34 = .ok (.dup, 1) := by decide +kernel
theorem dX6_nextToken_35 : decode cX6_nextToken 35 = .ok (.getfield 22, 3) := by decide +kernel
theorem dX6_nextToken_38 : decode cX6_nextToken 38 = .ok (.iconst 1, 1) := by decide +kernel
theorem dX6_nextToken_39 : decode cX6_nextToken 39 = .ok (.iadd, 1) := by decide +kernel
theorem dX6_nextToken_40 : decode cX6_nextToken 40 = .ok (.putfield 22, 3) := by decide +kernel
theorem dX6_nextToken_43 : decode cX6_nextToken 43 = .ok (.goto (-35), 3) := by decide +kernel
theorem dX6_nextToken_46 : decode cX6_nextToken 46 = .ok (.aload_n 0, 1) := by decide +kernel
theorem dX6_nextToken_47 : decode cX6_nextToken 47 = .ok (.aload_n 0, 1) := by decide +kernel
theorem dX6_nextToken_48 : decode cX6_nextToken 48 = .ok (.aload_n 0, 1) := by decide +kernel
theorem dX6_nextToken_49 : decode cX6_nextToken 49 = .ok (.getfield 22, 3) := by decide +kernel
theorem dX6_nextToken_52 : decode cX6_nextToken 52 = .ok (.invokevirtual 97, 3) := by decide +kernel
theorem dX6_nextToken_55 : decode cX6_nextToken 55 = .ok (.putfield 19, 3) := by decide +kernel
theorem dX6_nextToken_58 : decode cX6_nextToken 58 = .ok (.aload_n 0, 1) := by decide +kernel
theorem dX6_nextToken_59 : decode cX6_nextToken 59 = .ok (.getfield 19, 3) := by decide +kernel
theorem dX6_nextToken_62 : decode cX6_nextToken 62 = .ok (.iconst 3, 1) := by decide +kernel
theorem dX6_nextToken_63 : decode cX6_nextToken 63 = .ok (.if_icmp .ne 12, 3) := by decide +kernel
theorem dX6_nextToken_66 : decode cX6_nextToken 66 = .ok (.aload_n 0, 1) := by decide +kernel
theorem dX6_nextToken_67 : decode cX6_nextToken 67 = .ok (.getfield 22, 3) := by decide +kernel
theorem dX6_nextToken_70 : decode cX6_nextToken 70 = .ok (.iconst 1, 1) := by decide +kernel
theorem dX6_nextToken_71 : decode cX6_nextToken 71 = .ok (.iadd, 1) := by decide +kernel
theorem dX6_nextToken_72 : decode cX6_nextToken 72 = .ok (.goto 7, 3) := by decide +kernel
theorem dX6_nextToken_75 : decode cX6_nextToken 75 = .ok (.aload_n 0, 1) := by decide +kernel
theorem dX6_nextToken_76 : decode cX6_nextToken 76 = .ok (.getfield 15, 3) := by decide +kernel
theorem dX6_nextToken_79 : decode cX6_nextToken 79 = .ok (.istore_n 1, 1) := by decide +kernel
theorem dX6_nextToken_80 : decode cX6_nextToken 80 = .ok (.aload_n 0, 1) := by decide +kernel
theorem dX6_nextToken_81 : decode cX6_nextToken 81 = .ok (.aload_n 0, 1) := by decide +kernel
theorem dX6_nextToken_82 : decode cX6_nextToken 82 = .ok (.getfield 22, 3) := by decide +kernel
theorem dX6_nextToken_85 : decode cX6_nextToken 85 = .ok (.putfield 25, 3) := by decide +kernel
theorem dX6_nextToken_88 : decode cX6_nextToken 88 = .ok (.aload_n 0, 1) := by decide +kernel
theorem dX6_nextToken_89 : decode cX6_nextToken 89 = .ok (.getfield 25, 3) := by decide +kernel
theorem dX6_nextToken_92 : decode cX6_nextToken 92 = .ok (.iload_n 1, 1) := by decide +kernel
theorem dX6_nextToken_93 : decode cX6_nextToken 93 = .ok (.if_icmp .ge 31, 3) := by decide +kernel
theorem dX6_nextToken_96 : decode cX6_nextToken 96 = .ok (.aload_n 0, 1) := by decide +kernel
theorem dX6_nextToken_97 : decode cX6_nextToken 97 = .ok (.aload_n 0, 1) := by decide +kernel
theorem dX6_nextToken_98 : decode cX6_nextToken 98 = .ok (.getfield 25, 3) := by decide +kernel
theorem dX6_nextToken_101 : decode cX6_nextToken 101 = .ok (.invokevirtual 97, 3) := by decide +kernel
theorem dX6_nextToken_104 : decode cX6_nextToken 104 = .ok (.aload_n 0, 1) := by decide +kernel
theorem dX6_nextToken_105 : decode cX6_nextToken 105 = .ok (.getfield 19, 3) := by decide +kernel
theorem dX6_nextToken_108 : decode cX6_nextToken 108 = .ok (.if_icmp .ne 16, 3) := by decide +kernel
theorem dX6_nextToken_111 : decode cX6_nextToken 111 = .ok (.aload_n 0, 1) := by decide +kernel
theorem dX6_nextToken_112 : decode cX6_nextToken 112 = .ok (.dup, 1) := by decide +kernel
theorem dX6_nextToken_113 : decode cX6_nextToken 113 = .ok (.getfield 25, 3) := by decide +kernel
theorem dX6_nextToken_116 : decode cX6_nextToken 116 = .ok (.iconst 1, 1) := by decide +kernel
theorem dX6_nextToken_117 : decode cX6_nextToken 117 = .ok (.iadd, 1) := by decide +kernel
theorem dX6_nextToken_118 : decode cX6_nextToken 118 = .ok (.putfield 25, 3) := by decide +kernel
theorem dX6_nextToken_121 : decode cX6_nextToken 121 = .ok (.goto (-33), 3) := by decide +kernel
theorem dX6_nextToken_124 : decode cX6_nextToken 124 = .ok (.return_, 1) := by decide +kernel
theorem dX6_kindAt_0 : decode cX6_kindAt 0 = .ok (.iload_n 1, 1) := by decide +kernel
theorem dX6_kindAt_1 : decode cX6_kindAt 1 = .ok (.aload_n 0, 1) := by decide +kernel
theorem dX6_kindAt_2 : decode cX6_kindAt 2 = .ok (.getfield 15, 3) := by decide +kernel
theorem dX6_kindAt_5 : decode cX6_kindAt 5 = .ok (.if_icmp .lt 5, 3) := by decide +kernel
theorem dX6_kindAt_8 : decode cX6_kindAt 8 = .ok (.iconst 0, 1) := by decide +kernel
theorem dX6_kindAt_9 : decode cX6_kindAt 9 = .ok (.ireturn, 1) := by decide +kernel
theorem dX6_kindAt_10 : decode cX6_kindAt 10 = .ok (.aload_n 0, 1) := by decide +kernel
theorem dX6_kindAt_11 : decode cX6_kindAt 11 = .ok (.getfield 9, 3) := by decide +kernel
theorem dX6_kindAt_14 : decode cX6_kindAt 14 = .ok (.iload_n 1, 1) := by decide +kernel
theorem dX6_kindAt_15 : decode cX6_kindAt 15 = .ok (.iaload, 1) := by decide +kernel
theorem dX6_kindAt_16 : decode cX6_kindAt 16 = .ok (.istore_n 2, 1) := by decide +kernel
theorem dX6_kindAt_17 : decode cX6_kindAt 17 = .ok (.iload_n 2, 1) := by decide +kernel
theorem dX6_kindAt_18 : decode cX6_kindAt 18 = .ok (.bipush 97, 2) := by decide +kernel
theorem dX6_kindAt_20 : decode cX6_kindAt 20 = .ok (.if_icmp .lt 11, 3) := by decide +kernel
theorem dX6_kindAt_23 : decode cX6_kindAt 23 = .ok (.iload_n 2, 1) := by decide +kernel
theorem dX6_kindAt_24 : decode cX6_kindAt 24 = .ok (.bipush 122, 2) := by decide +kernel
theorem dX6_kindAt_26 : decode cX6_kindAt 26 = .ok (.if_icmp .gt 5, 3) := by decide +kernel
theorem dX6_kindAt_29 : decode cX6_kindAt 29 = .ok (.iconst 1, 1) := by decide +kernel
theorem dX6_kindAt_30 : decode cX6_kindAt 30 = .ok (.ireturn, 1) := by decide +kernel
theorem dX6_kindAt_31 : decode cX6_kindAt 31 = .ok (.iload_n 2, 1) := by decide +kernel
theorem dX6_kindAt_32 : decode cX6_kindAt 32 = .ok (.bipush 48, 2) := by decide +kernel
theorem dX6_kindAt_34 : decode cX6_kindAt 34 = .ok (.if_icmp .lt 13, 3) := by decide +kernel
theorem dX6_kindAt_37 : decode cX6_kindAt 37 = .ok (.iload_n 2, 1) := by decide +kernel
theorem dX6_kindAt_38 : decode cX6_kindAt 38 = .ok (.bipush 57, 2) := by decide +kernel
theorem dX6_kindAt_40 : decode cX6_kindAt 40 = .ok (.if_icmp .gt 7, 3) := by decide +kernel
theorem dX6_kindAt_43 : decode cX6_kindAt 43 = .ok (.iconst 2, 1) := by decide +kernel
theorem dX6_kindAt_44 : decode cX6_kindAt 44 = .ok (.goto 4, 3) := by decide +kernel
theorem dX6_kindAt_47 : decode cX6_kindAt 47 = .ok (.iconst 3, 1) := by decide +kernel
theorem dX6_kindAt_48 : decode cX6_kindAt 48 = .ok (.ireturn, 1) := by decide +kernel
theorem dX7_init_0 : decode cX7_init 0 = .ok (.aload_n 0, 1) := by decide +kernel
theorem dX7_init_1 : decode cX7_init 1 = .ok (.invokespecial 1, 3) := by decide +kernel
theorem dX7_init_4 : decode cX7_init 4 = .ok (.aload_n 0, 1) := by decide +kernel
theorem dX7_init_5 : decode cX7_init 5 = .ok (.new 7, 3) := by decide +kernel
theorem dX7_init_8 : decode cX7_init 8 = .ok (.dup, 1) := by decide +kernel
theorem dX7_init_9 : decode cX7_init 9 = .ok (.invokespecial 9, 3) := by decide +kernel
theorem dX7_init_12 : decode cX7_init 12 = .ok (.putfield 10, 3) := by decide +kernel
theorem dX7_init_15 : decode cX7_init 15 = .ok (.aload_n 0, 1) := by decide +kernel
theorem dX7_init_16 : decode cX7_init 16 = .ok (.new 16, 3) := by decide +kernel
theorem dX7_init_19 : decode cX7_init 19 = .ok (.dup, 1) := by decide +kernel
theorem dX7_init_20 : decode cX7_init 20 = .ok (.invokespecial 18, 3) := by decide +kernel
theorem dX7_init_23 : decode cX7_init 23 = .ok (.putfield 19, 3) := by decide +kernel
theorem dX7_init_26 : decode cX7_init 26 = .ok (.aload_n 0, 1) := by decide +kernel
theorem dX7_init_27 : decode cX7_init 27 = .ok (.new 23, 3) := by decide +kernel
theorem dX7_init_30 : decode cX7_init 30 = .ok (.dup, 1) := by decide +kernel
theorem dX7_init_31 : decode cX7_init 31 = .ok (.invokespecial 25, 3) := by decide +kernel
theorem dX7_init_34 : decode cX7_init 34 = .ok (.putfield 26, 3) := by decide +kernel
theorem dX7_init_37 : decode cX7_init 37 = .ok (.aload_n 0, 1) := by decide +kernel
theorem dX7_init_38 : decode cX7_init 38 = .ok (.new 30, 3) := by decide +kernel
theorem dX7_init_41 : decode cX7_init 41 = .ok (.dup, 1) := by decide +kernel
theorem dX7_init_42 : decode cX7_init 42 = .ok (.invokespecial 32, 3) := by decide +kernel
theorem dX7_init_45 : decode cX7_init 45 = .ok (.putfield 33, 3) := by decide +kernel
theorem dX7_init_48 : decode cX7_init 48 = .ok (.aload_n 0, 1) := by decide +kernel
theorem dX7_init_49 : decode cX7_init 49 = .ok (.new 37, 3) := by decide +kernel
theorem dX7_init_52 : decode cX7_init 52 = .ok (.dup, 1) := by decide +kernel
theorem dX7_init_53 : decode cX7_init 53 = .ok (.invokespecial 39, 3) := by decide +kernel
theorem dX7_init_56 : decode cX7_init 56 = .ok (.putfield 40, 3) := by decide +kernel
theorem dX7_init_59 : decode cX7_init 59 = .ok (.aload_n 0, 1) := by decide +kernel
theorem dX7_init_60 : decode cX7_init 60 = .ok (.new 44, 3) := by decide +kernel
theorem dX7_init_63 : decode cX7_init 63 = .ok (.dup, 1) := by decide +kernel
theorem dX7_init_64 : decode cX7_init 64 = .ok (.invokespecial 46, 3) := by decide +kernel
theorem dX7_init_67 : decode cX7_init 67 = .ok (.putfield 47, 3) := by decide +kernel
theorem dX7_init_70 : decode cX7_init 70 = .ok (.aload_n 0, 1) := by decide +kernel
theorem dX7_init_71 : decode cX7_init 71 = .ok (.new 51, 3) := by decide +kernel
theorem dX7_init_74 : decode cX7_init 74 = .ok (.dup, 1) := by decide +kernel
theorem dX7_init_75 : decode cX7_init 75 = .ok (.invokespecial 53, 3) := by decide +kernel
theorem dX7_init_78 : decode cX7_init 78 = .ok (.putfield 54, 3) := by decide +kernel
theorem dX7_init_81 : decode cX7_init 81 = .ok (.aload_n 0, 1) := by decide +kernel
theorem dX7_init_82 : decode cX7_init 82 = .ok (.new 51, 3) := by decide +kernel
theorem dX7_init_85 : decode cX7_init 85 = .ok (.dup, 1) := by decide +kernel
theorem dX7_init_86 : decode cX7_init 86 = .ok (.invokespecial 53, 3) := by decide +kernel
theorem dX7_init_89 : decode cX7_init 89 = .ok (.putfield 58, 3) := by decide +kernel
theorem dX7_init_92 : decode cX7_init 92 = .ok (.aload_n 0, 1) := by decide +kernel
theorem dX7_init_93 : decode cX7_init 93 = .ok (.iconst (-1), 1) := by decide +kernel
theorem dX7_init_94 : decode cX7_init 94 = .ok (.putfield 61, 3) := by decide +kernel
theorem dX7_init_97 : decode cX7_init 97 = .ok (.aload_n 0, 1) := by decide +kernel
theorem dX7_init_98 : decode cX7_init 98 = .ok (.iconst 0, 1) := by decide +kernel
theorem dX7_init_99 : decode cX7_init 99 = .ok (.putfield 65, 3) := by decide +kernel
theorem dX7_init_102 : decode cX7_init 102 = .ok (.return_, 1) := by decide +kernel
theorem dX7_read_0 : decode cX7_read 0 = .ok (.iload_n 1, 1) := by decide +kernel
theorem dX7_read_1 : decode cX7_read 1 = .ok (.bipush 119, 2) := by decide +kernel
theorem dX7_read_3 : decode cX7_read 3 = .ok (.invokestatic 68, 3) := by decide +kernel
theorem dX7_read_6 : decode cX7_read 6 = .ok (.ifCond .eq 20, 3) := by decide +kernel
theorem dX7_read_9 : decode cX7_read 9 = .ok (.iload_n 2, 1) := by decide +kernel
theorem dX7_read_10 : decode cX7_read 10 = .ok (.sipush 400, 3) := by decide +kernel
theorem dX7_read_13 : decode cX7_read 13 = .ok (.invokestatic 68, 3) := by decide +kernel
theorem dX7_read_16 : decode cX7_read 16 = .ok (.ifCond .eq 10, 3) := by decide +kernel
theorem dX7_read_19 : decode cX7_read 19 = .ok (.iload_n 3, 1) := by decide +kernel
theorem dX7_read_20 : decode cX7_read 20 = .ok (.invokestatic 72, 3) := by decide +kernel
theorem dX7_read_23 : decode cX7_read 23 = .ok (.ifCond .ne 9, 3) := by decide +kernel
theorem dX7_read_26 : decode cX7_read 26 = .ok (.aload_n 0, 1) := by decide +kernel
theorem dX7_read_27 : decode cX7_read 27 = .ok (.iconst (-1), 1) := by decide +kernel
theorem dX7_read_28 : decode cX7_read 28 = .ok (.invokevirtual 76, 3) := by decide +kernel
theorem dX7_read_31 : decode cX7_read 31 = .ok (.ireturn, 1) := by decide +kernel
theorem dX7_read_32 : decode cX7_read 32 = .ok (.aload_n 0, 1) := by decide +kernel
theorem dX7_read_33 : decode cX7_read 33 = .ok (.getfield 10, 3) := by decide +kernel
theorem dX7_read_36 : decode cX7_read 36 = .ok (.getfield 80, 3) := by decide +kernel
theorem dX7_read_39 : decode cX7_read 39 = .ok (.sipush 300, 3) := by decide +kernel
theorem dX7_read_42 : decode cX7_read 42 = .ok (.if_icmp .lt 10, 3) := by decide +kernel
theorem dX7_read_45 : decode cX7_read 45 = .ok (.aload_n 0, 1) := by decide +kernel
theorem dX7_read_46 : decode cX7_read 46 = .ok (.bipush (-5), 2) := by decide +kernel
theorem dX7_read_48 : decode cX7_read 48 = .ok (.invokevirtual 76, 3) := by decide +kernel
theorem dX7_read_51 : decode cX7_read 51 = .ok (.ireturn, 1) := by decide +kernel
theorem dX7_read_52 : decode cX7_read 52 = .ok (.aload_n 0, 1) := by decide +kernel
theorem dX7_read_53 : decode cX7_read 53 = .ok (.getfield 10, 3) := by decide +kernel
theorem dX7_read_56 : decode cX7_read 56 = .ok (.iload_n 1, 1) := by decide +kernel
theorem dX7_read_57 : decode cX7_read 57 = .ok (.iload_n 2, 1) := by decide +kernel
theorem dX7_read_58 : decode cX7_read 58 = .ok (.iload_n 3, 1) := by decide +kernel
theorem dX7_read_59 : decode cX7_read 59 = .ok (.invokevirtual 83, 3) := by decide +kernel
theorem dX7_read_62 : decode cX7_read 62 = .ok (.aload_n 0, 1) := by decide +kernel
theorem dX7_read_63 : decode cX7_read 63 = .ok (.aload_n 0, 1) := by decide +kernel
theorem dX7_read_64 : decode cX7_read 64 = .ok (.getfield 10, 3) := by decide +kernel
theorem dX7_read_67 : decode cX7_read 67 = .ok (.getfield 80, 3) := by decide +kernel
theorem dX7_read_70 : decode cX7_read 70 = .ok (.invokevirtual 87, 3) := by decide +kernel
theorem dX7_read_73 : decode cX7_read 73 = .ok (.ireturn, 1) := by decide +kernel
theorem dX7_height_0 : decode cX7_height 0 = .ok (.iload_n 1, 1) := by decide +kernel
theorem dX7_height_1 : decode cX7_height 1 = .ok (.bipush 119, 2) := by decide +kernel
theorem dX7_height_3 : decode cX7_height 3 = .ok (.invokestatic 68, 3) := by decide +kernel
theorem dX7_height_6 : decode cX7_height 6 = .ok (.ifCond .eq 10, 3) := by decide +kernel
theorem dX7_height_9 : decode cX7_height 9 = .ok (.iload_n 2, 1) := by decide +kernel
theorem dX7_height_10 : decode cX7_height 10 = .ok (.invokestatic 72, 3) := by decide +kernel
theorem dX7_height_13 : decode cX7_height 13 = .ok (.ifCond .ne 5, 3) := by decide +kernel
theorem dX7_height_16 : decode cX7_height 16 = .ok (.iconst (-1), 1) := by decide +kernel
theorem dX7_height_17 : decode cX7_height 17 = .ok (.ireturn, 1) := by decide +kernel
theorem dX7_height_18 : decode cX7_height 18 = .ok (.aload_n 0, 1) := by decide +kernel
theorem dX7_height_19 : decode cX7_height 19 = .ok (.getfield 10, 3) := by decide +kernel
theorem dX7_height_22 : decode cX7_height 22 = .ok (.iload_n 2, 1) := by decide +kernel
theorem dX7_height_23 : decode cX7_height 23 = .ok (.invokevirtual 90, 3) := by decide +kernel
theorem dX7_height_26 : decode cX7_height 26 = .ok (.aload_n 0, 1) := by decide +kernel
theorem dX7_height_27 : decode cX7_height 27 = .ok (.getfield 10, 3) := by decide +kernel
theorem dX7_height_30 : decode cX7_height 30 = .ok (.getfield 94, 3) := by decide +kernel
theorem dX7_height_33 : decode cX7_height 33 = .ok (.iload_n 1, 1) := by decide +kernel
theorem dX7_height_34 : decode cX7_height 34 = .ok (.iaload, 1) := by decide +kernel
theorem dX7_height_35 : decode cX7_height 35 = .ok (.ireturn, 1) := by decide +kernel
theorem dX7_peak_0 : decode cX7_peak 0 = .ok (.iload_n 1, 1) := by decide +kernel
theorem dX7_peak_1 : decode cX7_peak 1 = .ok (.invokestatic 72, 3) := by decide +kernel
theorem dX7_peak_4 : decode cX7_peak 4 = .ok (.ifCond .ne 5, 3) := by decide +kernel
theorem dX7_peak_7 : decode cX7_peak 7 = .ok (.iconst (-1), 1) := by decide +kernel
theorem dX7_peak_8 : decode cX7_peak 8 = .ok (.ireturn, 1) := by decide +kernel
theorem dX7_peak_9 : decode cX7_peak 9 = .ok (.aload_n 0, 1) := by decide +kernel
theorem dX7_peak_10 : decode cX7_peak 10 = .ok (.getfield 10, 3) := by decide +kernel
theorem dX7_peak_13 : decode cX7_peak 13 = .ok (.iload_n 1, 1) := by decide +kernel
theorem dX7_peak_14 : decode cX7_peak 14 = .ok (.invokevirtual 90, 3) := by decide +kernel
theorem dX7_peak_17 : decode cX7_peak 17 = .ok (.aload_n 0, 1) := by decide +kernel
theorem dX7_peak_18 : decode cX7_peak 18 = .ok (.getfield 10, 3) := by decide +kernel
theorem dX7_peak_21 : decode cX7_peak 21 = .ok (.getfield 98, 3) := by decide +kernel
theorem dX7_peak_24 : decode cX7_peak 24 = .ok (.ireturn, 1) := by decide +kernel
theorem dX7_strip_0 : decode cX7_strip 0 = .ok (.iload_n 1, 1) := by decide +kernel
theorem dX7_strip_1 : decode cX7_strip 1 = .ok (.iconst 1, 1) := by decide +kernel
theorem dX7_strip_2 : decode cX7_strip 2 = .ok (.if_icmp .lt 29, 3) := by decide +kernel
theorem dX7_strip_5 : decode cX7_strip 5 = .ok (.iload_n 1, 1) := by decide +kernel
theorem dX7_strip_6 : decode cX7_strip 6 = .ok (.sipush 400, 3) := by decide +kernel
theorem dX7_strip_9 : decode cX7_strip 9 = .ok (.if_icmp .gt 22, 3) := by decide +kernel
theorem dX7_strip_12 : decode cX7_strip 12 = .ok (.iload_n 2, 1) := by decide +kernel
theorem dX7_strip_13 : decode cX7_strip 13 = .ok (.sipush 400, 3) := by decide +kernel
theorem dX7_strip_16 : decode cX7_strip 16 = .ok (.invokestatic 68, 3) := by decide +kernel
theorem dX7_strip_19 : decode cX7_strip 19 = .ok (.ifCond .eq 12, 3) := by decide +kernel
theorem dX7_strip_22 : decode cX7_strip 22 = .ok (.iload_n 3, 1) := by decide +kernel
theorem dX7_strip_23 : decode cX7_strip 23 = .ok (.bipush 19, 2) := by decide +kernel
theorem dX7_strip_25 : decode cX7_strip 25 = .ok (.invokestatic 68, 3) := by decide +kernel
theorem dX7_strip_28 : decode cX7_strip 28 = .ok (.ifCond .ne 9, 3) := by decide +kernel
theorem dX7_strip_31 : decode cX7_strip 31 = .ok (.aload_n 0, 1) := by decide +kernel
theorem dX7_strip_32 : decode cX7_strip 32 = .ok (.iconst (-1), 1) := by decide +kernel
theorem dX7_strip_33 : decode cX7_strip 33 = .ok (.invokevirtual 76, 3) := by decide +kernel
theorem dX7_strip_36 : decode cX7_strip 36 = .ok (.ireturn, 1) := by decide +kernel
theorem dX7_strip_37 : decode cX7_strip 37 = .ok (.aload_n 0, 1) := by decide +kernel
theorem dX7_strip_38 : decode cX7_strip 38 = .ok (.getfield 19, 3) := by decide +kernel
theorem dX7_strip_41 : decode cX7_strip 41 = .ok (.getfield 101, 3) := by decide +kernel
theorem dX7_strip_44 : decode cX7_strip 44 = .ok (.bipush 24, 2) := by decide +kernel
theorem dX7_strip_46 : decode cX7_strip 46 = .ok (.if_icmp .lt 10, 3) := by decide +kernel
theorem dX7_strip_49 : decode cX7_strip 49 = .ok (.aload_n 0, 1) := by decide +kernel
theorem dX7_strip_50 : decode cX7_strip 50 = .ok (.bipush (-5), 2) := by decide +kernel
theorem dX7_strip_52 : decode cX7_strip 52 = .ok (.invokevirtual 76, 3) := by decide +kernel
theorem dX7_strip_55 : decode cX7_strip 55 = .ok (.ireturn, 1) := by decide +kernel
theorem dX7_strip_56 : decode cX7_strip 56 = .ok (.aload_n 0, 1) := by decide +kernel
theorem dX7_strip_57 : decode cX7_strip 57 = .ok (.getfield 19, 3) := by decide +kernel
theorem dX7_strip_60 : decode cX7_strip 60 = .ok (.iload_n 1, 1) := by decide +kernel
theorem dX7_strip_61 : decode cX7_strip 61 = .ok (.iload_n 2, 1) := by decide +kernel
theorem dX7_strip_62 : decode cX7_strip 62 = .ok (.iload_n 3, 1) := by decide +kernel
theorem dX7_strip_63 : decode cX7_strip 63 = .ok (.invokevirtual 104, 3) := by decide +kernel
theorem dX7_strip_66 : decode cX7_strip 66 = .ok (.aload_n 0, 1) := by decide +kernel
theorem dX7_strip_67 : decode cX7_strip 67 = .ok (.aload_n 0, 1) := by decide +kernel
theorem dX7_strip_68 : decode cX7_strip 68 = .ok (.getfield 19, 3) := by decide +kernel
theorem dX7_strip_71 : decode cX7_strip 71 = .ok (.getfield 101, 3) := by decide +kernel
theorem dX7_strip_74 : decode cX7_strip 74 = .ok (.iconst 1, 1) := by decide +kernel
theorem dX7_strip_75 : decode cX7_strip 75 = .ok (.isub, 1) := by decide +kernel
theorem dX7_strip_76 : decode cX7_strip 76 = .ok (.invokevirtual 87, 3) := by decide +kernel
theorem dX7_strip_79 : decode cX7_strip 79 = .ok (.ireturn, 1) := by decide +kernel
theorem dX7_of_0 : decode cX7_of 0 = .ok (.aload_n 0, 1) := by decide +kernel
theorem dX7_of_1 : decode cX7_of 1 = .ok (.getfield 19, 3) := by decide +kernel
theorem dX7_of_4 : decode cX7_of 4 = .ok (.iload_n 1, 1) := by decide +kernel
theorem dX7_of_5 : decode cX7_of 5 = .ok (.invokevirtual 107, 3) := by decide +kernel
theorem dX7_of_8 : decode cX7_of 8 = .ok (.ifCond .ne 5, 3) := by decide +kernel
theorem dX7_of_11 : decode cX7_of 11 = .ok (.iconst (-1), 1) := by decide +kernel
theorem dX7_of_12 : decode cX7_of 12 = .ok (.ireturn, 1) := by decide +kernel
theorem dX7_of_13 : decode cX7_of 13 = .ok (.iload_n 2, 1) := by decide +kernel
theorem dX7_of_14 : decode cX7_of 14 = .ok (.tableswitch 70 0 3 #[30, 40, 50, 60], 30) := by decide +kernel
theorem dX7_of_44 : decode cX7_of 44 = .ok (.aload_n 0, 1) := by decide +kernel
theorem dX7_of_45 : decode cX7_of 45 = .ok (.getfield 19, 3) := by decide +kernel
theorem dX7_of_48 : decode cX7_of 48 = .ok (.getfield 110, 3) := by decide +kernel
theorem dX7_of_51 : decode cX7_of 51 = .ok (.iload_n 1, 1) := by decide +kernel
theorem dX7_of_52 : decode cX7_of 52 = .ok (.iaload, 1) := by decide +kernel
theorem dX7_of_53 : decode cX7_of 53 = .ok (.ireturn, 1) := by decide +kernel
theorem dX7_of_54 : decode cX7_of 54 = .ok (.aload_n 0, 1) := by decide +kernel
theorem dX7_of_55 : decode cX7_of 55 = .ok (.getfield 19, 3) := by decide +kernel
theorem dX7_of_58 : decode cX7_of 58 = .ok (.getfield 113, 3) := by decide +kernel
theorem dX7_of_61 : decode cX7_of 61 = .ok (.iload_n 1, 1) := by decide +kernel
theorem dX7_of_62 : decode cX7_of 62 = .ok (.iaload, 1) := by decide +kernel
theorem dX7_of_63 : decode cX7_of 63 = .ok (.ireturn, 1) := by decide +kernel
theorem dX7_of_64 : decode cX7_of 64 = .ok (.aload_n 0, 1) := by decide +kernel
theorem dX7_of_65 : decode cX7_of 65 = .ok (.getfield 19, 3) := by decide +kernel
theorem dX7_of_68 : decode cX7_of 68 = .ok (.getfield 116, 3) := by decide +kernel
theorem dX7_of_71 : decode cX7_of 71 = .ok (.iload_n 1, 1) := by decide +kernel
theorem dX7_of_72 : decode cX7_of 72 = .ok (.iaload, 1) := by decide +kernel
theorem dX7_of_73 : decode cX7_of 73 = .ok (.ireturn, 1) := by decide +kernel
theorem dX7_of_74 : decode cX7_of 74 = .ok (.aload_n 0, 1) := by decide +kernel
theorem dX7_of_75 : decode cX7_of 75 = .ok (.getfield 19, 3) := by decide +kernel
theorem dX7_of_78 : decode cX7_of 78 = .ok (.getfield 119, 3) := by decide +kernel
theorem dX7_of_81 : decode cX7_of 81 = .ok (.iload_n 1, 1) := by decide +kernel
theorem dX7_of_82 : decode cX7_of 82 = .ok (.iaload, 1) := by decide +kernel
theorem dX7_of_83 : decode cX7_of 83 = .ok (.ireturn, 1) := by decide +kernel
theorem dX7_of_84 : decode cX7_of 84 = .ok (.iconst (-1), 1) := by decide +kernel
theorem dX7_of_85 : decode cX7_of 85 = .ok (.ireturn, 1) := by decide +kernel
theorem dX7_lose_0 : decode cX7_lose 0 = .ok (.aload_n 0, 1) := by decide +kernel
theorem dX7_lose_1 : decode cX7_lose 1 = .ok (.getfield 19, 3) := by decide +kernel
theorem dX7_lose_4 : decode cX7_lose 4 = .ok (.iload_n 1, 1) := by decide +kernel
theorem dX7_lose_5 : decode cX7_lose 5 = .ok (.invokevirtual 122, 3) := by decide +kernel
theorem dX7_lose_8 : decode cX7_lose 8 = .ok (.ifCond .ne 10, 3) := by decide +kernel
theorem dX7_lose_11 : decode cX7_lose 11 = .ok (.aload_n 0, 1) := by decide +kernel
theorem dX7_lose_12 : decode cX7_lose 12 = .ok (.bipush (-2), 2) := by decide +kernel
theorem dX7_lose_14 : decode cX7_lose 14 = .ok (.invokevirtual 76, 3) := by decide +kernel
theorem dX7_lose_17 : decode cX7_lose 17 = .ok (.ireturn, 1) := by decide +kernel
theorem dX7_lose_18 : decode cX7_lose 18 = .ok (.aload_n 0, 1) := by decide +kernel
theorem dX7_lose_19 : decode cX7_lose 19 = .ok (.getfield 19, 3) := by decide +kernel
theorem dX7_lose_22 : decode cX7_lose 22 = .ok (.iload_n 1, 1) := by decide +kernel
theorem dX7_lose_23 : decode cX7_lose 23 = .ok (.invokevirtual 125, 3) := by decide +kernel
theorem dX7_lose_26 : decode cX7_lose 26 = .ok (.ifCond .ne 15, 3) := by decide +kernel
theorem dX7_lose_29 : decode cX7_lose 29 = .ok (.aload_n 0, 1) := by decide +kernel
theorem dX7_lose_30 : decode cX7_lose 30 = .ok (.getfield 19, 3) := by decide +kernel
theorem dX7_lose_33 : decode cX7_lose 33 = .ok (.getfield 128, 3) := by decide +kernel
theorem dX7_lose_36 : decode cX7_lose 36 = .ok (.iload_n 1, 1) := by decide +kernel
theorem dX7_lose_37 : decode cX7_lose 37 = .ok (.baload, 1) := by decide +kernel
theorem dX7_lose_38 : decode cX7_lose 38 = .ok (.ifCond .eq 10, 3) := by decide +kernel
theorem dX7_lose_41 : decode cX7_lose 41 = .ok (.aload_n 0, 1) := by decide +kernel
theorem dX7_lose_42 : decode cX7_lose 42 = .ok (.bipush (-3), 2) := by decide +kernel
theorem dX7_lose_44 : decode cX7_lose 44 = .ok (.invokevirtual 76, 3) := by decide +kernel
theorem dX7_lose_47 : decode cX7_lose 47 = .ok (.ireturn, 1) := by decide +kernel
theorem dX7_lose_48 : decode cX7_lose 48 = .ok (.aload_n 0, 1) := by decide +kernel
theorem dX7_lose_49 : decode cX7_lose 49 = .ok (.getfield 19, 3) := by decide +kernel
theorem dX7_lose_52 : decode cX7_lose 52 = .ok (.getfield 128, 3) := by decide +kernel
theorem dX7_lose_55 : decode cX7_lose 55 = .ok (.iload_n 1, 1) := by decide +kernel
theorem dX7_lose_56 : decode cX7_lose 56 = .ok (.iconst 1, 1) := by decide +kernel
theorem dX7_lose_57 : decode cX7_lose 57 = .ok (.bastore, 1) := by decide +kernel
theorem dX7_lose_58 : decode cX7_lose 58 = .ok (.aload_n 0, 1) := by decide +kernel
theorem dX7_lose_59 : decode cX7_lose 59 = .ok (.iconst 0, 1) := by decide +kernel
theorem dX7_lose_60 : decode cX7_lose 60 = .ok (.invokevirtual 87, 3) := by decide +kernel
theorem dX7_lose_63 : decode cX7_lose 63 = .ok (.ireturn, 1) := by decide +kernel
theorem dX7_draw_0 : decode cX7_draw 0 = .ok (.iload_n 2, 1) := by decide +kernel
theorem dX7_draw_1 : decode cX7_draw 1 = .ok (.iload_n 1, 1) := by decide +kernel
theorem dX7_draw_2 : decode cX7_draw 2 = .ok (.if_icmp .le 13, 3) := by decide +kernel
theorem dX7_draw_5 : decode cX7_draw 5 = .ok (.iload_n 3, 1) := by decide +kernel
theorem dX7_draw_6 : decode cX7_draw 6 = .ok (.sipush 10000, 3) := by decide +kernel
theorem dX7_draw_9 : decode cX7_draw 9 = .ok (.invokestatic 68, 3) := by decide +kernel
theorem dX7_draw_12 : decode cX7_draw 12 = .ok (.ifCond .ne 9, 3) := by decide +kernel
theorem dX7_draw_15 : decode cX7_draw 15 = .ok (.aload_n 0, 1) := by decide +kernel
theorem dX7_draw_16 : decode cX7_draw 16 = .ok (.iconst (-1), 1) := by decide +kernel
theorem dX7_draw_17 : decode cX7_draw 17 = .ok (.invokevirtual 76, 3) := by decide +kernel
theorem dX7_draw_20 : decode cX7_draw 20 = .ok (.ireturn, 1) := by decide +kernel
theorem dX7_draw_21 : decode cX7_draw 21 = .ok (.aload_n 0, 1) := by decide +kernel
theorem dX7_draw_22 : decode cX7_draw 22 = .ok (.getfield 19, 3) := by decide +kernel
theorem dX7_draw_25 : decode cX7_draw 25 = .ok (.iload_n 1, 1) := by decide +kernel
theorem dX7_draw_26 : decode cX7_draw 26 = .ok (.invokevirtual 122, 3) := by decide +kernel
theorem dX7_draw_29 : decode cX7_draw 29 = .ok (.ifCond .eq 14, 3) := by decide +kernel
theorem dX7_draw_32 : decode cX7_draw 32 = .ok (.aload_n 0, 1) := by decide +kernel
theorem dX7_draw_33 : decode cX7_draw 33 = .ok (.getfield 19, 3) := by decide +kernel
theorem dX7_draw_36 : decode cX7_draw 36 = .ok (.iload_n 2, 1) := by decide +kernel
theorem dX7_draw_37 : decode cX7_draw 37 = .ok (.invokevirtual 122, 3) := by decide +kernel
theorem dX7_draw_40 : decode cX7_draw 40 = .ok (.ifCond .ne 10, 3) := by decide +kernel
theorem dX7_draw_43 : decode cX7_draw 43 = .ok (.aload_n 0, 1) := by decide +kernel
theorem dX7_draw_44 : decode cX7_draw 44 = .ok (.bipush (-2), 2) := by decide +kernel
theorem dX7_draw_46 : decode cX7_draw 46 = .ok (.invokevirtual 76, 3) := by decide +kernel
theorem dX7_draw_49 : decode cX7_draw 49 = .ok (.ireturn, 1) := by decide +kernel
theorem dX7_draw_50 : decode cX7_draw 50 = .ok (.aload_n 0, 1) := by decide +kernel
theorem dX7_draw_51 : decode cX7_draw 51 = .ok (.getfield 19, 3) := by decide +kernel
theorem dX7_draw_54 : decode cX7_draw 54 = .ok (.iload_n 1, 1) := by decide +kernel
theorem dX7_draw_55 : decode cX7_draw 55 = .ok (.iload_n 2, 1) := by decide +kernel
theorem dX7_draw_56 : decode cX7_draw 56 = .ok (.invokevirtual 132, 3) := by decide +kernel
theorem dX7_draw_59 : decode cX7_draw 59 = .ok (.ifCond .ne 10, 3) := by decide +kernel
theorem dX7_draw_62 : decode cX7_draw 62 = .ok (.aload_n 0, 1) := by decide +kernel
theorem dX7_draw_63 : decode cX7_draw 63 = .ok (.bipush (-3), 2) := by decide +kernel
theorem dX7_draw_65 : decode cX7_draw 65 = .ok (.invokevirtual 76, 3) := by decide +kernel
theorem dX7_draw_68 : decode cX7_draw 68 = .ok (.ireturn, 1) := by decide +kernel
theorem dX7_draw_69 : decode cX7_draw 69 = .ok (.aload_n 0, 1) := by decide +kernel
theorem dX7_draw_70 : decode cX7_draw 70 = .ok (.getfield 19, 3) := by decide +kernel
theorem dX7_draw_73 : decode cX7_draw 73 = .ok (.iload_n 1, 1) := by decide +kernel
theorem dX7_draw_74 : decode cX7_draw 74 = .ok (.iload_n 2, 1) := by decide +kernel
theorem dX7_draw_75 : decode cX7_draw 75 = .ok (.iload_n 3, 1) := by decide +kernel
theorem dX7_draw_76 : decode cX7_draw 76 = .ok (.invokevirtual 135, 3) := by decide +kernel
theorem dX7_draw_79 : decode cX7_draw 79 = .ok (.aload_n 0, 1) := by decide +kernel
theorem dX7_draw_80 : decode cX7_draw 80 = .ok (.aload_n 0, 1) := by decide +kernel
theorem dX7_draw_81 : decode cX7_draw 81 = .ok (.getfield 19, 3) := by decide +kernel
theorem dX7_draw_84 : decode cX7_draw 84 = .ok (.iload_n 1, 1) := by decide +kernel
theorem dX7_draw_85 : decode cX7_draw 85 = .ok (.iload_n 2, 1) := by decide +kernel
theorem dX7_draw_86 : decode cX7_draw 86 = .ok (.invokevirtual 138, 3) := by decide +kernel
theorem dX7_draw_89 : decode cX7_draw 89 = .ok (.invokevirtual 87, 3) := by decide +kernel
theorem dX7_draw_92 : decode cX7_draw 92 = .ok (.ireturn, 1) := by decide +kernel
theorem dX7_stands_0 : decode cX7_stands 0 = .ok (.aload_n 0, 1) := by decide +kernel
theorem dX7_stands_1 : decode cX7_stands 1 = .ok (.getfield 19, 3) := by decide +kernel
theorem dX7_stands_4 : decode cX7_stands 4 = .ok (.iload_n 1, 1) := by decide +kernel
theorem dX7_stands_5 : decode cX7_stands 5 = .ok (.invokevirtual 122, 3) := by decide +kernel
theorem dX7_stands_8 : decode cX7_stands 8 = .ok (.ifCond .ne 5, 3) := by decide +kernel
theorem dX7_stands_11 : decode cX7_stands 11 = .ok (.iconst (-1), 1) := by decide +kernel
theorem dX7_stands_12 : decode cX7_stands 12 = .ok (.ireturn, 1) := by decide +kernel
theorem dX7_stands_13 : decode cX7_stands 13 = .ok (.aload_n 0, 1) := by decide +kernel
theorem dX7_stands_14 : decode cX7_stands 14 = .ok (.getfield 19, 3) := by decide +kernel
theorem dX7_stands_17 : decode cX7_stands 17 = .ok (.getfield 128, 3) := by decide +kernel
theorem dX7_stands_20 : decode cX7_stands 20 = .ok (.iload_n 1, 1) := by decide +kernel
theorem dX7_stands_21 : decode cX7_stands 21 = .ok (.baload, 1) := by decide +kernel
theorem dX7_stands_22 : decode cX7_stands 22 = .ok (.ifCond .eq 7, 3) := by decide +kernel
theorem dX7_stands_25 : decode cX7_stands 25 = .ok (.iconst 0, 1) := by decide +kernel
theorem dX7_stands_26 : decode cX7_stands 26 = .ok (.goto 4, 3) := by decide +kernel
theorem dX7_stands_29 : decode cX7_stands 29 = .ok (.iconst 1, 1) := by decide +kernel
theorem dX7_stands_30 : decode cX7_stands 30 = .ok (.ireturn, 1) := by decide +kernel
theorem dX7_table_0 : decode cX7_table 0 = .ok (.iload_n 1, 1) := by decide +kernel
theorem dX7_table_1 : decode cX7_table 1 = .ok (.bipush 7, 2) := by decide +kernel
theorem dX7_table_3 : decode cX7_table 3 = .ok (.invokestatic 68, 3) := by decide +kernel
theorem dX7_table_6 : decode cX7_table 6 = .ok (.ifCond .eq 21, 3) := by decide +kernel
theorem dX7_table_9 : decode cX7_table 9 = .ok (.iload_n 2, 1) := by decide +kernel
theorem dX7_table_10 : decode cX7_table 10 = .ok (.bipush 120, 2) := by decide +kernel
theorem dX7_table_12 : decode cX7_table 12 = .ok (.invokestatic 68, 3) := by decide +kernel
theorem dX7_table_15 : decode cX7_table 15 = .ok (.ifCond .eq 12, 3) := by decide +kernel
theorem dX7_table_18 : decode cX7_table 18 = .ok (.iload_n 3, 1) := by decide +kernel
theorem dX7_table_19 : decode cX7_table 19 = .ok (.bipush 100, 2) := by decide +kernel
theorem dX7_table_21 : decode cX7_table 21 = .ok (.invokestatic 68, 3) := by decide +kernel
theorem dX7_table_24 : decode cX7_table 24 = .ok (.ifCond .ne 9, 3) := by decide +kernel
theorem dX7_table_27 : decode cX7_table 27 = .ok (.aload_n 0, 1) := by decide +kernel
theorem dX7_table_28 : decode cX7_table 28 = .ok (.iconst (-1), 1) := by decide +kernel
theorem dX7_table_29 : decode cX7_table 29 = .ok (.invokevirtual 76, 3) := by decide +kernel
theorem dX7_table_32 : decode cX7_table 32 = .ok (.ireturn, 1) := by decide +kernel
theorem dX7_table_33 : decode cX7_table 33 = .ok (.aload_n 0, 1) := by decide +kernel
theorem dX7_table_34 : decode cX7_table 34 = .ok (.getfield 26, 3) := by decide +kernel
theorem dX7_table_37 : decode cX7_table 37 = .ok (.getfield 142, 3) := by decide +kernel
theorem dX7_table_40 : decode cX7_table 40 = .ok (.iload_n 1, 1) := by decide +kernel
theorem dX7_table_41 : decode cX7_table 41 = .ok (.iload_n 2, 1) := by decide +kernel
theorem dX7_table_42 : decode cX7_table 42 = .ok (.iastore, 1) := by decide +kernel
theorem dX7_table_43 : decode cX7_table 43 = .ok (.aload_n 0, 1) := by decide +kernel
theorem dX7_table_44 : decode cX7_table 44 = .ok (.getfield 26, 3) := by decide +kernel
theorem dX7_table_47 : decode cX7_table 47 = .ok (.getfield 145, 3) := by decide +kernel
theorem dX7_table_50 : decode cX7_table 50 = .ok (.iload_n 1, 1) := by decide +kernel
theorem dX7_table_51 : decode cX7_table 51 = .ok (.iload_n 3, 1) := by decide +kernel
theorem dX7_table_52 : decode cX7_table 52 = .ok (.iastore, 1) := by decide +kernel
theorem dX7_table_53 : decode cX7_table 53 = .ok (.aload_n 0, 1) := by decide +kernel
theorem dX7_table_54 : decode cX7_table 54 = .ok (.iconst 0, 1) := by decide +kernel
theorem dX7_table_55 : decode cX7_table 55 = .ok (.invokevirtual 87, 3) := by decide +kernel
theorem dX7_table_58 : decode cX7_table 58 = .ok (.ireturn, 1) := by decide +kernel
theorem dX7_wet_0 : decode cX7_wet 0 = .ok (.aload_n 0, 1) := by decide +kernel
theorem dX7_wet_1 : decode cX7_wet 1 = .ok (.getfield 19, 3) := by decide +kernel
theorem dX7_wet_4 : decode cX7_wet 4 = .ok (.iload_n 1, 1) := by decide +kernel
theorem dX7_wet_5 : decode cX7_wet 5 = .ok (.invokevirtual 107, 3) := by decide +kernel
theorem dX7_wet_8 : decode cX7_wet 8 = .ok (.ifCond .eq 10, 3) := by decide +kernel
theorem dX7_wet_11 : decode cX7_wet 11 = .ok (.iload_n 2, 1) := by decide +kernel
theorem dX7_wet_12 : decode cX7_wet 12 = .ok (.invokestatic 72, 3) := by decide +kernel
theorem dX7_wet_15 : decode cX7_wet 15 = .ok (.ifCond .ne 5, 3) := by decide +kernel
theorem dX7_wet_18 : decode cX7_wet 18 = .ok (.iconst (-1), 1) := by decide +kernel
theorem dX7_wet_19 : decode cX7_wet 19 = .ok (.ireturn, 1) := by decide +kernel
theorem dX7_wet_20 : decode cX7_wet 20 = .ok (.aload_n 0, 1) := by decide +kernel
theorem dX7_wet_21 : decode cX7_wet 21 = .ok (.getfield 10, 3) := by decide +kernel
theorem dX7_wet_24 : decode cX7_wet 24 = .ok (.iload_n 2, 1) := by decide +kernel
theorem dX7_wet_25 : decode cX7_wet 25 = .ok (.invokevirtual 90, 3) := by decide +kernel
theorem dX7_wet_28 : decode cX7_wet 28 = .ok (.aload_n 0, 1) := by decide +kernel
theorem dX7_wet_29 : decode cX7_wet 29 = .ok (.getfield 10, 3) := by decide +kernel
theorem dX7_wet_32 : decode cX7_wet 32 = .ok (.aload_n 0, 1) := by decide +kernel
theorem dX7_wet_33 : decode cX7_wet 33 = .ok (.getfield 19, 3) := by decide +kernel
theorem dX7_wet_36 : decode cX7_wet 36 = .ok (.getfield 116, 3) := by decide +kernel
theorem dX7_wet_39 : decode cX7_wet 39 = .ok (.iload_n 1, 1) := by decide +kernel
theorem dX7_wet_40 : decode cX7_wet 40 = .ok (.iaload, 1) := by decide +kernel
theorem dX7_wet_41 : decode cX7_wet 41 = .ok (.invokevirtual 148, 3) := by decide +kernel
theorem dX7_wet_44 : decode cX7_wet 44 = .ok (.ireturn, 1) := by decide +kernel
theorem dX7_harvest_0 : decode cX7_harvest 0 = .ok (.aload_n 0, 1) := by decide +kernel
theorem dX7_harvest_1 : decode cX7_harvest 1 = .ok (.getfield 19, 3) := by decide +kernel
theorem dX7_harvest_4 : decode cX7_harvest 4 = .ok (.iload_n 1, 1) := by decide +kernel
theorem dX7_harvest_5 : decode cX7_harvest 5 = .ok (.invokevirtual 107, 3) := by decide +kernel
theorem dX7_harvest_8 : decode cX7_harvest 8 = .ok (.ifCond .eq 10, 3) := by decide +kernel
theorem dX7_harvest_11 : decode cX7_harvest 11 = .ok (.iload_n 2, 1) := by decide +kernel
theorem dX7_harvest_12 : decode cX7_harvest 12 = .ok (.invokestatic 72, 3) := by decide +kernel
theorem dX7_harvest_15 : decode cX7_harvest 15 = .ok (.ifCond .ne 5, 3) := by decide +kernel
theorem dX7_harvest_18 : decode cX7_harvest 18 = .ok (.iconst (-1), 1) := by decide +kernel
theorem dX7_harvest_19 : decode cX7_harvest 19 = .ok (.ireturn, 1) := by decide +kernel
theorem dX7_harvest_20 : decode cX7_harvest 20 = .ok (.aload_n 0, 1) := by decide +kernel
theorem dX7_harvest_21 : decode cX7_harvest 21 = .ok (.getfield 10, 3) := by decide +kernel
theorem dX7_harvest_24 : decode cX7_harvest 24 = .ok (.iload_n 2, 1) := by decide +kernel
theorem dX7_harvest_25 : decode cX7_harvest 25 = .ok (.invokevirtual 90, 3) := by decide +kernel
theorem dX7_harvest_28 : decode cX7_harvest 28 = .ok (.aload_n 0, 1) := by decide +kernel
theorem dX7_harvest_29 : decode cX7_harvest 29 = .ok (.iload_n 1, 1) := by decide +kernel
theorem dX7_harvest_30 : decode cX7_harvest 30 = .ok (.invokevirtual 151, 3) := by decide +kernel
theorem dX7_harvest_33 : decode cX7_harvest 33 = .ok (.ireturn, 1) := by decide +kernel
theorem dX7_foretold_0 : decode cX7_foretold 0 = .ok (.aload_n 0, 1) := by decide +kernel
theorem dX7_foretold_1 : decode cX7_foretold 1 = .ok (.getfield 19, 3) := by decide +kernel
theorem dX7_foretold_4 : decode cX7_foretold 4 = .ok (.iload_n 1, 1) := by decide +kernel
theorem dX7_foretold_5 : decode cX7_foretold 5 = .ok (.invokevirtual 107, 3) := by decide +kernel
theorem dX7_foretold_8 : decode cX7_foretold 8 = .ok (.ifCond .eq 12, 3) := by decide +kernel
theorem dX7_foretold_11 : decode cX7_foretold 11 = .ok (.iload_n 2, 1) := by decide +kernel
theorem dX7_foretold_12 : decode cX7_foretold 12 = .ok (.bipush 119, 2) := by decide +kernel
theorem dX7_foretold_14 : decode cX7_foretold 14 = .ok (.invokestatic 68, 3) := by decide +kernel
theorem dX7_foretold_17 : decode cX7_foretold 17 = .ok (.ifCond .ne 5, 3) := by decide +kernel
theorem dX7_foretold_20 : decode cX7_foretold 20 = .ok (.iconst (-1), 1) := by decide +kernel
theorem dX7_foretold_21 : decode cX7_foretold 21 = .ok (.ireturn, 1) := by decide +kernel
theorem dX7_foretold_22 : decode cX7_foretold 22 = .ok (.aload_n 0, 1) := by decide +kernel
theorem dX7_foretold_23 : decode cX7_foretold 23 = .ok (.getfield 10, 3) := by decide +kernel
theorem dX7_foretold_26 : decode cX7_foretold 26 = .ok (.iload_n 2, 1) := by decide +kernel
theorem dX7_foretold_27 : decode cX7_foretold 27 = .ok (.iload_n 2, 1) := by decide +kernel
theorem dX7_foretold_28 : decode cX7_foretold 28 = .ok (.invokevirtual 154, 3) := by decide +kernel
theorem dX7_foretold_31 : decode cX7_foretold 31 = .ok (.aload_n 0, 1) := by decide +kernel
theorem dX7_foretold_32 : decode cX7_foretold 32 = .ok (.iload_n 1, 1) := by decide +kernel
theorem dX7_foretold_33 : decode cX7_foretold 33 = .ok (.invokevirtual 151, 3) := by decide +kernel
theorem dX7_foretold_36 : decode cX7_foretold 36 = .ok (.ireturn, 1) := by decide +kernel
theorem dX7_feed_0 : decode cX7_feed 0 = .ok (.aload_n 0, 1) := by decide +kernel
theorem dX7_feed_1 : decode cX7_feed 1 = .ok (.getfield 33, 3) := by decide +kernel
theorem dX7_feed_4 : decode cX7_feed 4 = .ok (.getfield 158, 3) := by decide +kernel
theorem dX7_feed_7 : decode cX7_feed 7 = .ok (.bipush 20, 2) := by decide +kernel
theorem dX7_feed_9 : decode cX7_feed 9 = .ok (.iadd, 1) := by decide +kernel
theorem dX7_feed_10 : decode cX7_feed 10 = .ok (.sipush 200, 3) := by decide +kernel
theorem dX7_feed_13 : decode cX7_feed 13 = .ok (.if_icmp .le 5, 3) := by decide +kernel
theorem dX7_feed_16 : decode cX7_feed 16 = .ok (.iconst (-1), 1) := by decide +kernel
theorem dX7_feed_17 : decode cX7_feed 17 = .ok (.ireturn, 1) := by decide +kernel
theorem dX7_feed_18 : decode cX7_feed 18 = .ok (.aload_n 0, 1) := by decide +kernel
theorem dX7_feed_19 : decode cX7_feed 19 = .ok (.getfield 33, 3) := by decide +kernel
theorem dX7_feed_22 : decode cX7_feed 22 = .ok (.iload_n 1, 1) := by decide +kernel
theorem dX7_feed_23 : decode cX7_feed 23 = .ok (.invokevirtual 161, 3) := by decide +kernel
theorem dX7_feed_26 : decode cX7_feed 26 = .ok (.aload_n 0, 1) := by decide +kernel
theorem dX7_feed_27 : decode cX7_feed 27 = .ok (.getfield 33, 3) := by decide +kernel
theorem dX7_feed_30 : decode cX7_feed 30 = .ok (.iload_n 2, 1) := by decide +kernel
theorem dX7_feed_31 : decode cX7_feed 31 = .ok (.invokevirtual 161, 3) := by decide +kernel
theorem dX7_feed_34 : decode cX7_feed 34 = .ok (.aload_n 0, 1) := by decide +kernel
theorem dX7_feed_35 : decode cX7_feed 35 = .ok (.getfield 33, 3) := by decide +kernel
theorem dX7_feed_38 : decode cX7_feed 38 = .ok (.iload_n 3, 1) := by decide +kernel
theorem dX7_feed_39 : decode cX7_feed 39 = .ok (.invokevirtual 161, 3) := by decide +kernel
theorem dX7_feed_42 : decode cX7_feed 42 = .ok (.aload_n 0, 1) := by decide +kernel
theorem dX7_feed_43 : decode cX7_feed 43 = .ok (.getfield 33, 3) := by decide +kernel
theorem dX7_feed_46 : decode cX7_feed 46 = .ok (.iload 4, 2) := by decide +kernel
theorem dX7_feed_48 : decode cX7_feed 48 = .ok (.invokevirtual 161, 3) := by decide +kernel
theorem dX7_feed_51 : decode cX7_feed 51 = .ok (.aload_n 0, 1) := by decide +kernel
theorem dX7_feed_52 : decode cX7_feed 52 = .ok (.getfield 33, 3) := by decide +kernel
theorem dX7_feed_55 : decode cX7_feed 55 = .ok (.iload 5, 2) := by decide +kernel
theorem dX7_feed_57 : decode cX7_feed 57 = .ok (.invokevirtual 161, 3) := by decide +kernel
theorem dX7_feed_60 : decode cX7_feed 60 = .ok (.aload_n 0, 1) := by decide +kernel
theorem dX7_feed_61 : decode cX7_feed 61 = .ok (.getfield 33, 3) := by decide +kernel
theorem dX7_feed_64 : decode cX7_feed 64 = .ok (.getfield 158, 3) := by decide +kernel
theorem dX7_feed_67 : decode cX7_feed 67 = .ok (.ireturn, 1) := by decide +kernel
theorem dX7_end_0 : decode cX7_end 0 = .ok (.iload_n 1, 1) := by decide +kernel
theorem dX7_end_1 : decode cX7_end 1 = .ok (.aload_n 0, 1) := by decide +kernel
theorem dX7_end_2 : decode cX7_end 2 = .ok (.getfield 33, 3) := by decide +kernel
theorem dX7_end_5 : decode cX7_end 5 = .ok (.getfield 158, 3) := by decide +kernel
theorem dX7_end_8 : decode cX7_end 8 = .ok (.invokestatic 68, 3) := by decide +kernel
theorem dX7_end_11 : decode cX7_end 11 = .ok (.ifCond .ne 5, 3) := by decide +kernel
theorem dX7_end_14 : decode cX7_end 14 = .ok (.iconst (-1), 1) := by decide +kernel
theorem dX7_end_15 : decode cX7_end 15 = .ok (.ireturn, 1) := by decide +kernel
theorem dX7_end_16 : decode cX7_end 16 = .ok (.aload_n 0, 1) := by decide +kernel
theorem dX7_end_17 : decode cX7_end 17 = .ok (.getfield 33, 3) := by decide +kernel
theorem dX7_end_20 : decode cX7_end 20 = .ok (.iload_n 1, 1) := by decide +kernel
theorem dX7_end_21 : decode cX7_end 21 = .ok (.putfield 158, 3) := by decide +kernel
theorem dX7_end_24 : decode cX7_end 24 = .ok (.iload_n 1, 1) := by decide +kernel
theorem dX7_end_25 : decode cX7_end 25 = .ok (.ireturn, 1) := by decide +kernel
theorem dX7_decrees_0 : decode cX7_decrees 0 = .ok (.aload_n 0, 1) := by decide +kernel
theorem dX7_decrees_1 : decode cX7_decrees 1 = .ok (.aload_n 0, 1) := by decide +kernel
theorem dX7_decrees_2 : decode cX7_decrees 2 = .ok (.getfield 33, 3) := by decide +kernel
theorem dX7_decrees_5 : decode cX7_decrees 5 = .ok (.aload_n 0, 1) := by decide +kernel
theorem dX7_decrees_6 : decode cX7_decrees 6 = .ok (.getfield 58, 3) := by decide +kernel
theorem dX7_decrees_9 : decode cX7_decrees 9 = .ok (.invokevirtual 164, 3) := by decide +kernel
theorem dX7_decrees_12 : decode cX7_decrees 12 = .ok (.putfield 61, 3) := by decide +kernel
theorem dX7_decrees_15 : decode cX7_decrees 15 = .ok (.aload_n 0, 1) := by decide +kernel
theorem dX7_decrees_16 : decode cX7_decrees 16 = .ok (.getfield 33, 3) := by decide +kernel
theorem dX7_decrees_19 : decode cX7_decrees 19 = .ok (.iconst 0, 1) := by decide +kernel
theorem dX7_decrees_20 : decode cX7_decrees 20 = .ok (.putfield 158, 3) := by decide +kernel
theorem dX7_decrees_23 : decode cX7_decrees 23 = .ok (.aload_n 0, 1) := by decide +kernel
theorem dX7_decrees_24 : decode cX7_decrees 24 = .ok (.getfield 61, 3) := by decide +kernel
theorem dX7_decrees_27 : decode cX7_decrees 27 = .ok (.iconst (-1), 1) := by decide +kernel
theorem dX7_decrees_28 : decode cX7_decrees 28 = .ok (.if_icmp .eq 10, 3) := by decide +kernel
theorem dX7_decrees_31 : decode cX7_decrees 31 = .ok (.aload_n 0, 1) := by decide +kernel
theorem dX7_decrees_32 : decode cX7_decrees 32 = .ok (.bipush (-6), 2) := by decide +kernel
theorem dX7_decrees_34 : decode cX7_decrees 34 = .ok (.invokevirtual 76, 3) := by decide +kernel
theorem dX7_decrees_37 : decode cX7_decrees 37 = .ok (.ireturn, 1) := by decide +kernel
theorem dX7_decrees_38 : decode cX7_decrees 38 = .ok (.aload_n 0, 1) := by decide +kernel
theorem dX7_decrees_39 : decode cX7_decrees 39 = .ok (.getfield 54, 3) := by decide +kernel
theorem dX7_decrees_42 : decode cX7_decrees 42 = .ok (.astore_n 1, 1) := by decide +kernel
theorem dX7_decrees_43 : decode cX7_decrees 43 = .ok (.aload_n 0, 1) := by decide +kernel
theorem dX7_decrees_44 : decode cX7_decrees 44 = .ok (.aload_n 0, 1) := by decide +kernel
theorem dX7_decrees_45 : decode cX7_decrees 45 = .ok (.getfield 58, 3) := by decide +kernel
theorem dX7_decrees_48 : decode cX7_decrees 48 = .ok (.putfield 54, 3) := by decide +kernel
theorem dX7_decrees_51 : decode cX7_decrees 51 = .ok (.aload_n 0, 1) := by decide +kernel
theorem dX7_decrees_52 : decode cX7_decrees 52 = .ok (.aload_n 1, 1) := by decide +kernel
theorem dX7_decrees_53 : decode cX7_decrees 53 = .ok (.putfield 58, 3) := by decide +kernel
theorem dX7_decrees_56 : decode cX7_decrees 56 = .ok (.aload_n 0, 1) := by decide +kernel
theorem dX7_decrees_57 : decode cX7_decrees 57 = .ok (.aload_n 0, 1) := by decide +kernel
theorem dX7_decrees_58 : decode cX7_decrees 58 = .ok (.getfield 54, 3) := by decide +kernel
theorem dX7_decrees_61 : decode cX7_decrees 61 = .ok (.getfield 168, 3) := by decide +kernel
theorem dX7_decrees_64 : decode cX7_decrees 64 = .ok (.invokevirtual 87, 3) := by decide +kernel
theorem dX7_decrees_67 : decode cX7_decrees 67 = .ok (.ireturn, 1) := by decide +kernel
theorem dX7_fault_0 : decode cX7_fault 0 = .ok (.aload_n 0, 1) := by decide +kernel
theorem dX7_fault_1 : decode cX7_fault 1 = .ok (.getfield 61, 3) := by decide +kernel
theorem dX7_fault_4 : decode cX7_fault 4 = .ok (.ireturn, 1) := by decide +kernel
theorem dX7_tax_0 : decode cX7_tax 0 = .ok (.aload_n 0, 1) := by decide +kernel
theorem dX7_tax_1 : decode cX7_tax 1 = .ok (.getfield 19, 3) := by decide +kernel
theorem dX7_tax_4 : decode cX7_tax 4 = .ok (.iload_n 1, 1) := by decide +kernel
theorem dX7_tax_5 : decode cX7_tax 5 = .ok (.invokevirtual 107, 3) := by decide +kernel
theorem dX7_tax_8 : decode cX7_tax 8 = .ok (.ifCond .eq 10, 3) := by decide +kernel
theorem dX7_tax_11 : decode cX7_tax 11 = .ok (.iload_n 2, 1) := by decide +kernel
theorem dX7_tax_12 : decode cX7_tax 12 = .ok (.invokestatic 72, 3) := by decide +kernel
theorem dX7_tax_15 : decode cX7_tax 15 = .ok (.ifCond .ne 5, 3) := by decide +kernel
theorem dX7_tax_18 : decode cX7_tax 18 = .ok (.iconst (-1), 1) := by decide +kernel
theorem dX7_tax_19 : decode cX7_tax 19 = .ok (.ireturn, 1) := by decide +kernel
theorem dX7_tax_20 : decode cX7_tax 20 = .ok (.aload_n 0, 1) := by decide +kernel
theorem dX7_tax_21 : decode cX7_tax 21 = .ok (.getfield 10, 3) := by decide +kernel
theorem dX7_tax_24 : decode cX7_tax 24 = .ok (.iload_n 2, 1) := by decide +kernel
theorem dX7_tax_25 : decode cX7_tax 25 = .ok (.invokevirtual 90, 3) := by decide +kernel
theorem dX7_tax_28 : decode cX7_tax 28 = .ok (.aload_n 0, 1) := by decide +kernel
theorem dX7_tax_29 : decode cX7_tax 29 = .ok (.iload_n 1, 1) := by decide +kernel
theorem dX7_tax_30 : decode cX7_tax 30 = .ok (.invokevirtual 171, 3) := by decide +kernel
theorem dX7_tax_33 : decode cX7_tax 33 = .ok (.iload_n 3, 1) := by decide +kernel
theorem dX7_tax_34 : decode cX7_tax 34 = .ok (.tableswitch 74 0 4 #[34, 42, 50, 58, 66], 34) := by decide +kernel
theorem dX7_tax_68 : decode cX7_tax 68 = .ok (.aload_n 0, 1) := by decide +kernel
theorem dX7_tax_69 : decode cX7_tax 69 = .ok (.getfield 40, 3) := by decide +kernel
theorem dX7_tax_72 : decode cX7_tax 72 = .ok (.getfield 174, 3) := by decide +kernel
theorem dX7_tax_75 : decode cX7_tax 75 = .ok (.ireturn, 1) := by decide +kernel
theorem dX7_tax_76 : decode cX7_tax 76 = .ok (.aload_n 0, 1) := by decide +kernel
theorem dX7_tax_77 : decode cX7_tax 77 = .ok (.getfield 40, 3) := by decide +kernel
theorem dX7_tax_80 : decode cX7_tax 80 = .ok (.getfield 177, 3) := by decide +kernel
theorem dX7_tax_83 : decode cX7_tax 83 = .ok (.ireturn, 1) := by decide +kernel
theorem dX7_tax_84 : decode cX7_tax 84 = .ok (.aload_n 0, 1) := by decide +kernel
theorem dX7_tax_85 : decode cX7_tax 85 = .ok (.getfield 40, 3) := by decide +kernel
theorem dX7_tax_88 : decode cX7_tax 88 = .ok (.getfield 180, 3) := by decide +kernel
theorem dX7_tax_91 : decode cX7_tax 91 = .ok (.ireturn, 1) := by decide +kernel
theorem dX7_tax_92 : decode cX7_tax 92 = .ok (.aload_n 0, 1) := by decide +kernel
theorem dX7_tax_93 : decode cX7_tax 93 = .ok (.getfield 40, 3) := by decide +kernel
theorem dX7_tax_96 : decode cX7_tax 96 = .ok (.getfield 183, 3) := by decide +kernel
theorem dX7_tax_99 : decode cX7_tax 99 = .ok (.ireturn, 1) := by decide +kernel
theorem dX7_tax_100 : decode cX7_tax 100 = .ok (.aload_n 0, 1) := by decide +kernel
theorem dX7_tax_101 : decode cX7_tax 101 = .ok (.getfield 40, 3) := by decide +kernel
theorem dX7_tax_104 : decode cX7_tax 104 = .ok (.getfield 186, 3) := by decide +kernel
theorem dX7_tax_107 : decode cX7_tax 107 = .ok (.ireturn, 1) := by decide +kernel
theorem dX7_tax_108 : decode cX7_tax 108 = .ok (.iconst (-1), 1) := by decide +kernel
theorem dX7_tax_109 : decode cX7_tax 109 = .ok (.ireturn, 1) := by decide +kernel
theorem dX7_take_0 : decode cX7_take 0 = .ok (.iload_n 1, 1) := by decide +kernel
theorem dX7_take_1 : decode cX7_take 1 = .ok (.bipush 9, 2) := by decide +kernel
theorem dX7_take_3 : decode cX7_take 3 = .ok (.invokestatic 68, 3) := by decide +kernel
theorem dX7_take_6 : decode cX7_take 6 = .ok (.ifCond .eq 20, 3) := by decide +kernel
theorem dX7_take_9 : decode cX7_take 9 = .ok (.iload_n 3, 1) := by decide +kernel
theorem dX7_take_10 : decode cX7_take 10 = .ok (.ldc 189, 2) := by decide +kernel
theorem dX7_take_12 : decode cX7_take 12 = .ok (.invokestatic 68, 3) := by decide +kernel
theorem dX7_take_15 : decode cX7_take 15 = .ok (.ifCond .eq 11, 3) := by decide +kernel
theorem dX7_take_18 : decode cX7_take 18 = .ok (.iload 4, 2) := by decide +kernel
theorem dX7_take_20 : decode cX7_take 20 = .ok (.invokestatic 72, 3) := by decide +kernel
theorem dX7_take_23 : decode cX7_take 23 = .ok (.ifCond .ne 9, 3) := by decide +kernel
theorem dX7_take_26 : decode cX7_take 26 = .ok (.aload_n 0, 1) := by decide +kernel
theorem dX7_take_27 : decode cX7_take 27 = .ok (.iconst (-1), 1) := by decide +kernel
theorem dX7_take_28 : decode cX7_take 28 = .ok (.invokevirtual 76, 3) := by decide +kernel
theorem dX7_take_31 : decode cX7_take 31 = .ok (.ireturn, 1) := by decide +kernel
theorem dX7_take_32 : decode cX7_take 32 = .ok (.aload_n 0, 1) := by decide +kernel
theorem dX7_take_33 : decode cX7_take 33 = .ok (.getfield 19, 3) := by decide +kernel
theorem dX7_take_36 : decode cX7_take 36 = .ok (.iload_n 2, 1) := by decide +kernel
theorem dX7_take_37 : decode cX7_take 37 = .ok (.invokevirtual 107, 3) := by decide +kernel
theorem dX7_take_40 : decode cX7_take 40 = .ok (.ifCond .ne 10, 3) := by decide +kernel
theorem dX7_take_43 : decode cX7_take 43 = .ok (.aload_n 0, 1) := by decide +kernel
theorem dX7_take_44 : decode cX7_take 44 = .ok (.bipush (-2), 2) := by decide +kernel
theorem dX7_take_46 : decode cX7_take 46 = .ok (.invokevirtual 76, 3) := by decide +kernel
theorem dX7_take_49 : decode cX7_take 49 = .ok (.ireturn, 1) := by decide +kernel
theorem dX7_take_50 : decode cX7_take 50 = .ok (.aload_n 0, 1) := by decide +kernel
theorem dX7_take_51 : decode cX7_take 51 = .ok (.getfield 47, 3) := by decide +kernel
theorem dX7_take_54 : decode cX7_take 54 = .ok (.getfield 190, 3) := by decide +kernel
theorem dX7_take_57 : decode cX7_take 57 = .ok (.sipush 200, 3) := by decide +kernel
theorem dX7_take_60 : decode cX7_take 60 = .ok (.if_icmp .lt 10, 3) := by decide +kernel
theorem dX7_take_63 : decode cX7_take 63 = .ok (.aload_n 0, 1) := by decide +kernel
theorem dX7_take_64 : decode cX7_take 64 = .ok (.bipush (-5), 2) := by decide +kernel
theorem dX7_take_66 : decode cX7_take 66 = .ok (.invokevirtual 76, 3) := by decide +kernel
theorem dX7_take_69 : decode cX7_take 69 = .ok (.ireturn, 1) := by decide +kernel
theorem dX7_take_70 : decode cX7_take 70 = .ok (.aload_n 0, 1) := by decide +kernel
theorem dX7_take_71 : decode cX7_take 71 = .ok (.getfield 47, 3) := by decide +kernel
theorem dX7_take_74 : decode cX7_take 74 = .ok (.iload_n 1, 1) := by decide +kernel
theorem dX7_take_75 : decode cX7_take 75 = .ok (.iload_n 2, 1) := by decide +kernel
theorem dX7_take_76 : decode cX7_take 76 = .ok (.iload_n 3, 1) := by decide +kernel
theorem dX7_take_77 : decode cX7_take 77 = .ok (.iload 4, 2) := by decide +kernel
theorem dX7_take_79 : decode cX7_take 79 = .ok (.invokevirtual 191, 3) := by decide +kernel
theorem dX7_take_82 : decode cX7_take 82 = .ok (.aload_n 0, 1) := by decide +kernel
theorem dX7_take_83 : decode cX7_take 83 = .ok (.aload_n 0, 1) := by decide +kernel
theorem dX7_take_84 : decode cX7_take 84 = .ok (.getfield 47, 3) := by decide +kernel
theorem dX7_take_87 : decode cX7_take 87 = .ok (.getfield 190, 3) := by decide +kernel
theorem dX7_take_90 : decode cX7_take 90 = .ok (.invokevirtual 87, 3) := by decide +kernel
theorem dX7_take_93 : decode cX7_take 93 = .ok (.ireturn, 1) := by decide +kernel
theorem dX7_gain_0 : decode cX7_gain 0 = .ok (.iload_n 1, 1) := by decide +kernel
theorem dX7_gain_1 : decode cX7_gain 1 = .ok (.bipush 9, 2) := by decide +kernel
theorem dX7_gain_3 : decode cX7_gain 3 = .ok (.invokestatic 68, 3) := by decide +kernel
theorem dX7_gain_6 : decode cX7_gain 6 = .ok (.ifCond .eq 10, 3) := by decide +kernel
theorem dX7_gain_9 : decode cX7_gain 9 = .ok (.iload_n 2, 1) := by decide +kernel
theorem dX7_gain_10 : decode cX7_gain 10 = .ok (.invokestatic 72, 3) := by decide +kernel
theorem dX7_gain_13 : decode cX7_gain 13 = .ok (.ifCond .ne 7, 3) := by decide +kernel
theorem dX7_gain_16 : decode cX7_gain 16 = .ok (.ldc2_w 195, 3) := by decide +kernel
theorem dX7_gain_19 : decode cX7_gain 19 = .ok (.lreturn, 1) := by decide +kernel
theorem dX7_gain_20 : decode cX7_gain 20 = .ok (.aload_n 0, 1) := by decide +kernel
theorem dX7_gain_21 : decode cX7_gain 21 = .ok (.getfield 10, 3) := by decide +kernel
theorem dX7_gain_24 : decode cX7_gain 24 = .ok (.iload_n 2, 1) := by decide +kernel
theorem dX7_gain_25 : decode cX7_gain 25 = .ok (.invokevirtual 90, 3) := by decide +kernel
theorem dX7_gain_28 : decode cX7_gain 28 = .ok (.aload_n 0, 1) := by decide +kernel
theorem dX7_gain_29 : decode cX7_gain 29 = .ok (.getfield 47, 3) := by decide +kernel
theorem dX7_gain_32 : decode cX7_gain 32 = .ok (.iload_n 1, 1) := by decide +kernel
theorem dX7_gain_33 : decode cX7_gain 33 = .ok (.iload_n 2, 1) := by decide +kernel
theorem dX7_gain_34 : decode cX7_gain 34 = .ok (.invokevirtual 197, 3) := by decide +kernel
theorem dX7_gain_37 : decode cX7_gain 37 = .ok (.lconst 0, 1) := by decide +kernel
theorem dX7_gain_38 : decode cX7_gain 38 = .ok (.lstore_n 3, 1) := by decide +kernel
theorem dX7_gain_39 : decode cX7_gain 39 = .ok (.iconst 0, 1) := by decide +kernel
theorem dX7_gain_40 : decode cX7_gain 40 = .ok (.istore 5, 2) := by decide +kernel
theorem dX7_gain_42 : decode cX7_gain 42 = .ok (.iload 5, 2) := by decide +kernel
theorem dX7_gain_44 : decode cX7_gain 44 = .ok (.aload_n 0, 1) := by decide +kernel
theorem dX7_gain_45 : decode cX7_gain 45 = .ok (.getfield 19, 3) := by decide +kernel
theorem dX7_gain_48 : decode cX7_gain 48 = .ok (.getfield 101, 3) := by decide +kernel
theorem dX7_gain_51 : decode cX7_gain 51 = .ok (.if_icmp .ge 31, 3) := by decide +kernel
theorem dX7_gain_54 : decode cX7_gain 54 = .ok (.aload_n 0, 1) := by decide +kernel
theorem dX7_gain_55 : decode cX7_gain 55 = .ok (.getfield 47, 3) := by decide +kernel
theorem dX7_gain_58 : decode cX7_gain 58 = .ok (.getfield 200, 3) := by decide +kernel
theorem dX7_gain_61 : decode cX7_gain 61 = .ok (.iload 5, 2) := by decide +kernel
theorem dX7_gain_63 : decode cX7_gain 63 = .ok (.iaload, 1) := by decide +kernel
theorem dX7_gain_64 : decode cX7_gain 64 = .ok (.ifCond .le 12, 3) := by decide +kernel
theorem dX7_gain_67 : decode cX7_gain 67 = .ok (.lload_n 3, 1) := by decide +kernel
theorem dX7_gain_68 : decode cX7_gain 68 = .ok (.aload_n 0, 1) := by decide +kernel
theorem dX7_gain_69 : decode cX7_gain 69 = .ok (.iload 5, 2) := by decide +kernel
theorem dX7_gain_71 : decode cX7_gain 71 = .ok (.invokevirtual 203, 3) := by decide +kernel
theorem dX7_gain_74 : decode cX7_gain 74 = .ok (.ladd, 1) := by decide +kernel
theorem dX7_gain_75 : decode cX7_gain 75 = .ok (.lstore_n 3, 1) := by decide +kernel
theorem dX7_gain_76 : decode cX7_gain 76 = .ok (.iinc 5 1, 3) := by decide +kernel
theorem dX7_gain_79 : decode cX7_gain 79 = .ok (.goto (-37), 3) := by decide +kernel
theorem dX7_gain_82 : decode cX7_gain 82 = .ok (.lload_n 3, 1) := by decide +kernel
theorem dX7_gain_83 : decode cX7_gain 83 = .ok (.lreturn, 1) := by decide +kernel
theorem dX7_sheaves_0 : decode cX7_sheaves 0 = .ok (.iload_n 1, 1) := by decide +kernel
theorem dX7_sheaves_1 : decode cX7_sheaves 1 = .ok (.invokestatic 72, 3) := by decide +kernel
theorem dX7_sheaves_4 : decode cX7_sheaves 4 = .ok (.ifCond .ne 5, 3) := by decide +kernel
theorem dX7_sheaves_7 : decode cX7_sheaves 7 = .ok (.iconst (-1), 1) := by decide +kernel
theorem dX7_sheaves_8 : decode cX7_sheaves 8 = .ok (.ireturn, 1) := by decide +kernel
theorem dX7_sheaves_9 : decode cX7_sheaves 9 = .ok (.aload_n 0, 1) := by decide +kernel
theorem dX7_sheaves_10 : decode cX7_sheaves 10 = .ok (.getfield 10, 3) := by decide +kernel
theorem dX7_sheaves_13 : decode cX7_sheaves 13 = .ok (.iload_n 1, 1) := by decide +kernel
theorem dX7_sheaves_14 : decode cX7_sheaves 14 = .ok (.invokevirtual 90, 3) := by decide +kernel
theorem dX7_sheaves_17 : decode cX7_sheaves 17 = .ok (.iconst 0, 1) := by decide +kernel
theorem dX7_sheaves_18 : decode cX7_sheaves 18 = .ok (.istore_n 2, 1) := by decide +kernel
theorem dX7_sheaves_19 : decode cX7_sheaves 19 = .ok (.iconst 0, 1) := by decide +kernel
theorem dX7_sheaves_20 : decode cX7_sheaves 20 = .ok (.istore_n 3, 1) := by decide +kernel
theorem dX7_sheaves_21 : decode cX7_sheaves 21 = .ok (.iload_n 3, 1) := by decide +kernel
theorem dX7_sheaves_22 : decode cX7_sheaves 22 = .ok (.aload_n 0, 1) := by decide +kernel
theorem dX7_sheaves_23 : decode cX7_sheaves 23 = .ok (.getfield 19, 3) := by decide +kernel
theorem dX7_sheaves_26 : decode cX7_sheaves 26 = .ok (.getfield 101, 3) := by decide +kernel
theorem dX7_sheaves_29 : decode cX7_sheaves 29 = .ok (.if_icmp .ge 17, 3) := by decide +kernel
theorem dX7_sheaves_32 : decode cX7_sheaves 32 = .ok (.iload_n 2, 1) := by decide +kernel
theorem dX7_sheaves_33 : decode cX7_sheaves 33 = .ok (.aload_n 0, 1) := by decide +kernel
theorem dX7_sheaves_34 : decode cX7_sheaves 34 = .ok (.iload_n 3, 1) := by decide +kernel
theorem dX7_sheaves_35 : decode cX7_sheaves 35 = .ok (.invokevirtual 151, 3) := by decide +kernel
theorem dX7_sheaves_38 : decode cX7_sheaves 38 = .ok (.iadd, 1) := by decide +kernel
theorem dX7_sheaves_39 : decode cX7_sheaves 39 = .ok (.istore_n 2, 1) := by decide +kernel
theorem dX7_sheaves_40 : decode cX7_sheaves 40 = .ok (.iinc 3 1, 3) := by decide +kernel
theorem dX7_sheaves_43 : decode cX7_sheaves 43 = .ok (.goto (-22), 3) := by decide +kernel
theorem dX7_sheaves_46 : decode cX7_sheaves 46 = .ok (.iload_n 2, 1) := by decide +kernel
theorem dX7_sheaves_47 : decode cX7_sheaves 47 = .ok (.ireturn, 1) := by decide +kernel
theorem dX7_led_0 : decode cX7_led 0 = .ok (.iload_n 1, 1) := by decide +kernel
theorem dX7_led_1 : decode cX7_led 1 = .ok (.ifCond .lt 18, 3) := by decide +kernel
theorem dX7_led_4 : decode cX7_led 4 = .ok (.iload_n 2, 1) := by decide +kernel
theorem dX7_led_5 : decode cX7_led 5 = .ok (.invokestatic 72, 3) := by decide +kernel
theorem dX7_led_8 : decode cX7_led 8 = .ok (.ifCond .eq 11, 3) := by decide +kernel
theorem dX7_led_11 : decode cX7_led 11 = .ok (.iload_n 3, 1) := by decide +kernel
theorem dX7_led_12 : decode cX7_led 12 = .ok (.iconst 1, 1) := by decide +kernel
theorem dX7_led_13 : decode cX7_led 13 = .ok (.invokestatic 68, 3) := by decide +kernel
theorem dX7_led_16 : decode cX7_led 16 = .ok (.ifCond .ne 5, 3) := by decide +kernel
theorem dX7_led_19 : decode cX7_led 19 = .ok (.iconst (-1), 1) := by decide +kernel
theorem dX7_led_20 : decode cX7_led 20 = .ok (.ireturn, 1) := by decide +kernel
theorem dX7_led_21 : decode cX7_led 21 = .ok (.aload_n 0, 1) := by decide +kernel
theorem dX7_led_22 : decode cX7_led 22 = .ok (.getfield 10, 3) := by decide +kernel
theorem dX7_led_25 : decode cX7_led 25 = .ok (.iload_n 2, 1) := by decide +kernel
theorem dX7_led_26 : decode cX7_led 26 = .ok (.invokevirtual 90, 3) := by decide +kernel
theorem dX7_led_29 : decode cX7_led 29 = .ok (.iload_n 1, 1) := by decide +kernel
theorem dX7_led_30 : decode cX7_led 30 = .ok (.istore 4, 2) := by decide +kernel
theorem dX7_led_32 : decode cX7_led 32 = .ok (.iconst 0, 1) := by decide +kernel
theorem dX7_led_33 : decode cX7_led 33 = .ok (.istore 5, 2) := by decide +kernel
theorem dX7_led_35 : decode cX7_led 35 = .ok (.iload 5, 2) := by decide +kernel
theorem dX7_led_37 : decode cX7_led 37 = .ok (.aload_n 0, 1) := by decide +kernel
theorem dX7_led_38 : decode cX7_led 38 = .ok (.getfield 19, 3) := by decide +kernel
theorem dX7_led_41 : decode cX7_led 41 = .ok (.getfield 101, 3) := by decide +kernel
theorem dX7_led_44 : decode cX7_led 44 = .ok (.if_icmp .ge 49, 3) := by decide +kernel
theorem dX7_led_47 : decode cX7_led 47 = .ok (.aload_n 0, 1) := by decide +kernel
theorem dX7_led_48 : decode cX7_led 48 = .ok (.iload 5, 2) := by decide +kernel
theorem dX7_led_50 : decode cX7_led 50 = .ok (.invokevirtual 151, 3) := by decide +kernel
theorem dX7_led_53 : decode cX7_led 53 = .ok (.istore 6, 2) := by decide +kernel
theorem dX7_led_55 : decode cX7_led 55 = .ok (.iload 4, 2) := by decide +kernel
theorem dX7_led_57 : decode cX7_led 57 = .ok (.iload 6, 2) := by decide +kernel
theorem dX7_led_59 : decode cX7_led 59 = .ok (.if_icmp .ge 21, 3) := by decide +kernel
theorem dX7_led_62 : decode cX7_led 62 = .ok (.iload_n 3, 1) := by decide +kernel
theorem dX7_led_63 : decode cX7_led 63 = .ok (.ifCond .ne 8, 3) := by decide +kernel
theorem dX7_led_66 : decode cX7_led 66 = .ok (.iload 5, 2) := by decide +kernel
theorem dX7_led_68 : decode cX7_led 68 = .ok (.goto 11, 3) := by decide +kernel
theorem dX7_led_71 : decode cX7_led 71 = .ok (.aload_n 0, 1) := by decide +kernel
theorem dX7_led_72 : decode cX7_led 72 = .ok (.iload 5, 2) := by decide +kernel
theorem dX7_led_74 : decode cX7_led 74 = .ok (.iload 4, 2) := by decide +kernel
theorem dX7_led_76 : decode cX7_led 76 = .ok (.invokevirtual 207, 3) := by decide +kernel
theorem dX7_led_79 : decode cX7_led 79 = .ok (.ireturn, 1) := by decide +kernel
theorem dX7_led_80 : decode cX7_led 80 = .ok (.iload 4, 2) := by decide +kernel
theorem dX7_led_82 : decode cX7_led 82 = .ok (.iload 6, 2) := by decide +kernel
theorem dX7_led_84 : decode cX7_led 84 = .ok (.isub, 1) := by decide +kernel
theorem dX7_led_85 : decode cX7_led 85 = .ok (.istore 4, 2) := by decide +kernel
theorem dX7_led_87 : decode cX7_led 87 = .ok (.iinc 5 1, 3) := by decide +kernel
theorem dX7_led_90 : decode cX7_led 90 = .ok (.goto (-55), 3) := by decide +kernel
theorem dX7_led_93 : decode cX7_led 93 = .ok (.iconst (-1), 1) := by decide +kernel
theorem dX7_led_94 : decode cX7_led 94 = .ok (.ireturn, 1) := by decide +kernel
theorem dX7_count_0 : decode cX7_count 0 = .ok (.iload_n 1, 1) := by decide +kernel
theorem dX7_count_1 : decode cX7_count 1 = .ok (.tableswitch 99 0 6 #[43, 51, 59, 67, 75, 83, 91], 43) := by decide +kernel
theorem dX7_count_44 : decode cX7_count 44 = .ok (.aload_n 0, 1) := by decide +kernel
theorem dX7_count_45 : decode cX7_count 45 = .ok (.getfield 10, 3) := by decide +kernel
theorem dX7_count_48 : decode cX7_count 48 = .ok (.getfield 80, 3) := by decide +kernel
theorem dX7_count_51 : decode cX7_count 51 = .ok (.ireturn, 1) := by decide +kernel
theorem dX7_count_52 : decode cX7_count 52 = .ok (.aload_n 0, 1) := by decide +kernel
theorem dX7_count_53 : decode cX7_count 53 = .ok (.getfield 19, 3) := by decide +kernel
theorem dX7_count_56 : decode cX7_count 56 = .ok (.getfield 101, 3) := by decide +kernel
theorem dX7_count_59 : decode cX7_count 59 = .ok (.ireturn, 1) := by decide +kernel
theorem dX7_count_60 : decode cX7_count 60 = .ok (.aload_n 0, 1) := by decide +kernel
theorem dX7_count_61 : decode cX7_count 61 = .ok (.getfield 19, 3) := by decide +kernel
theorem dX7_count_64 : decode cX7_count 64 = .ok (.invokevirtual 210, 3) := by decide +kernel
theorem dX7_count_67 : decode cX7_count 67 = .ok (.ireturn, 1) := by decide +kernel
theorem dX7_count_68 : decode cX7_count 68 = .ok (.aload_n 0, 1) := by decide +kernel
theorem dX7_count_69 : decode cX7_count 69 = .ok (.getfield 54, 3) := by decide +kernel
theorem dX7_count_72 : decode cX7_count 72 = .ok (.getfield 168, 3) := by decide +kernel
theorem dX7_count_75 : decode cX7_count 75 = .ok (.ireturn, 1) := by decide +kernel
theorem dX7_count_76 : decode cX7_count 76 = .ok (.aload_n 0, 1) := by decide +kernel
theorem dX7_count_77 : decode cX7_count 77 = .ok (.getfield 47, 3) := by decide +kernel
theorem dX7_count_80 : decode cX7_count 80 = .ok (.getfield 190, 3) := by decide +kernel
theorem dX7_count_83 : decode cX7_count 83 = .ok (.ireturn, 1) := by decide +kernel
theorem dX7_count_84 : decode cX7_count 84 = .ok (.aload_n 0, 1) := by decide +kernel
theorem dX7_count_85 : decode cX7_count 85 = .ok (.getfield 33, 3) := by decide +kernel
theorem dX7_count_88 : decode cX7_count 88 = .ok (.getfield 158, 3) := by decide +kernel
theorem dX7_count_91 : decode cX7_count 91 = .ok (.ireturn, 1) := by decide +kernel
theorem dX7_count_92 : decode cX7_count 92 = .ok (.aload_n 0, 1) := by decide +kernel
theorem dX7_count_93 : decode cX7_count 93 = .ok (.getfield 19, 3) := by decide +kernel
theorem dX7_count_96 : decode cX7_count 96 = .ok (.invokevirtual 214, 3) := by decide +kernel
theorem dX7_count_99 : decode cX7_count 99 = .ok (.ireturn, 1) := by decide +kernel
theorem dX7_count_100 : decode cX7_count 100 = .ok (.iconst (-1), 1) := by decide +kernel
theorem dX7_count_101 : decode cX7_count 101 = .ok (.ireturn, 1) := by decide +kernel
theorem dX7_status_0 : decode cX7_status 0 = .ok (.aload_n 0, 1) := by decide +kernel
theorem dX7_status_1 : decode cX7_status 1 = .ok (.getfield 65, 3) := by decide +kernel
theorem dX7_status_4 : decode cX7_status 4 = .ok (.ireturn, 1) := by decide +kernel
theorem dX7_refuse_0 : decode cX7_refuse 0 = .ok (.aload_n 0, 1) := by decide +kernel
theorem dX7_refuse_1 : decode cX7_refuse 1 = .ok (.iload_n 1, 1) := by decide +kernel
theorem dX7_refuse_2 : decode cX7_refuse 2 = .ok (.putfield 65, 3) := by decide +kernel
theorem dX7_refuse_5 : decode cX7_refuse 5 = .ok (.iload_n 1, 1) := by decide +kernel
theorem dX7_refuse_6 : decode cX7_refuse 6 = .ok (.ireturn, 1) := by decide +kernel
theorem dX7_accept_0 : decode cX7_accept 0 = .ok (.aload_n 0, 1) := by decide +kernel
theorem dX7_accept_1 : decode cX7_accept 1 = .ok (.iconst 0, 1) := by decide +kernel
theorem dX7_accept_2 : decode cX7_accept 2 = .ok (.putfield 65, 3) := by decide +kernel
theorem dX7_accept_5 : decode cX7_accept 5 = .ok (.iload_n 1, 1) := by decide +kernel
theorem dX7_accept_6 : decode cX7_accept 6 = .ok (.ireturn, 1) := by decide +kernel
theorem dX7_harvestSeen_0 : decode cX7_harvestSeen 0 = .ok (.aload_n 0, 1) := by decide +kernel
theorem dX7_harvestSeen_1 : decode cX7_harvestSeen 1 = .ok (.iload_n 1, 1) := by decide +kernel
theorem dX7_harvestSeen_2 : decode cX7_harvestSeen 2 = .ok (.aload_n 0, 1) := by decide +kernel
theorem dX7_harvestSeen_3 : decode cX7_harvestSeen 3 = .ok (.getfield 10, 3) := by decide +kernel
theorem dX7_harvestSeen_6 : decode cX7_harvestSeen 6 = .ok (.aload_n 0, 1) := by decide +kernel
theorem dX7_harvestSeen_7 : decode cX7_harvestSeen 7 = .ok (.getfield 19, 3) := by decide +kernel
theorem dX7_harvestSeen_10 : decode cX7_harvestSeen 10 = .ok (.getfield 116, 3) := by decide +kernel
theorem dX7_harvestSeen_13 : decode cX7_harvestSeen 13 = .ok (.iload_n 1, 1) := by decide +kernel
theorem dX7_harvestSeen_14 : decode cX7_harvestSeen 14 = .ok (.iaload, 1) := by decide +kernel
theorem dX7_harvestSeen_15 : decode cX7_harvestSeen 15 = .ok (.invokevirtual 148, 3) := by decide +kernel
theorem dX7_harvestSeen_18 : decode cX7_harvestSeen 18 = .ok (.invokevirtual 217, 3) := by decide +kernel
theorem dX7_harvestSeen_21 : decode cX7_harvestSeen 21 = .ok (.ireturn, 1) := by decide +kernel
theorem dX7_harvestAfter_0 : decode cX7_harvestAfter 0 = .ok (.aload_n 0, 1) := by decide +kernel
theorem dX7_harvestAfter_1 : decode cX7_harvestAfter 1 = .ok (.getfield 19, 3) := by decide +kernel
theorem dX7_harvestAfter_4 : decode cX7_harvestAfter 4 = .ok (.getfield 110, 3) := by decide +kernel
theorem dX7_harvestAfter_7 : decode cX7_harvestAfter 7 = .ok (.iload_n 1, 1) := by decide +kernel
theorem dX7_harvestAfter_8 : decode cX7_harvestAfter 8 = .ok (.iaload, 1) := by decide +kernel
theorem dX7_harvestAfter_9 : decode cX7_harvestAfter 9 = .ok (.aload_n 0, 1) := by decide +kernel
theorem dX7_harvestAfter_10 : decode cX7_harvestAfter 10 = .ok (.getfield 26, 3) := by decide +kernel
theorem dX7_harvestAfter_13 : decode cX7_harvestAfter 13 = .ok (.iload_n 2, 1) := by decide +kernel
theorem dX7_harvestAfter_14 : decode cX7_harvestAfter 14 = .ok (.invokevirtual 220, 3) := by decide +kernel
theorem dX7_harvestAfter_17 : decode cX7_harvestAfter 17 = .ok (.imul, 1) := by decide +kernel
theorem dX7_harvestAfter_18 : decode cX7_harvestAfter 18 = .ok (.ireturn, 1) := by decide +kernel
theorem dX7_assessSeen_0 : decode cX7_assessSeen 0 = .ok (.aload_n 0, 1) := by decide +kernel
theorem dX7_assessSeen_1 : decode cX7_assessSeen 1 = .ok (.getfield 10, 3) := by decide +kernel
theorem dX7_assessSeen_4 : decode cX7_assessSeen 4 = .ok (.aload_n 0, 1) := by decide +kernel
theorem dX7_assessSeen_5 : decode cX7_assessSeen 5 = .ok (.getfield 19, 3) := by decide +kernel
theorem dX7_assessSeen_8 : decode cX7_assessSeen 8 = .ok (.getfield 116, 3) := by decide +kernel
theorem dX7_assessSeen_11 : decode cX7_assessSeen 11 = .ok (.iload_n 1, 1) := by decide +kernel
theorem dX7_assessSeen_12 : decode cX7_assessSeen 12 = .ok (.iaload, 1) := by decide +kernel
theorem dX7_assessSeen_13 : decode cX7_assessSeen 13 = .ok (.invokevirtual 148, 3) := by decide +kernel
theorem dX7_assessSeen_16 : decode cX7_assessSeen 16 = .ok (.istore_n 2, 1) := by decide +kernel
theorem dX7_assessSeen_17 : decode cX7_assessSeen 17 = .ok (.aload_n 0, 1) := by decide +kernel
theorem dX7_assessSeen_18 : decode cX7_assessSeen 18 = .ok (.getfield 40, 3) := by decide +kernel
theorem dX7_assessSeen_21 : decode cX7_assessSeen 21 = .ok (.aload_n 0, 1) := by decide +kernel
theorem dX7_assessSeen_22 : decode cX7_assessSeen 22 = .ok (.getfield 54, 3) := by decide +kernel
theorem dX7_assessSeen_25 : decode cX7_assessSeen 25 = .ok (.aload_n 0, 1) := by decide +kernel
theorem dX7_assessSeen_26 : decode cX7_assessSeen 26 = .ok (.iload_n 1, 1) := by decide +kernel
theorem dX7_assessSeen_27 : decode cX7_assessSeen 27 = .ok (.iload_n 2, 1) := by decide +kernel
theorem dX7_assessSeen_28 : decode cX7_assessSeen 28 = .ok (.invokevirtual 217, 3) := by decide +kernel
theorem dX7_assessSeen_31 : decode cX7_assessSeen 31 = .ok (.iload_n 2, 1) := by decide +kernel
theorem dX7_assessSeen_32 : decode cX7_assessSeen 32 = .ok (.aload_n 0, 1) := by decide +kernel
theorem dX7_assessSeen_33 : decode cX7_assessSeen 33 = .ok (.getfield 10, 3) := by decide +kernel
theorem dX7_assessSeen_36 : decode cX7_assessSeen 36 = .ok (.getfield 98, 3) := by decide +kernel
theorem dX7_assessSeen_39 : decode cX7_assessSeen 39 = .ok (.invokevirtual 223, 3) := by decide +kernel
theorem dX7_assessSeen_42 : decode cX7_assessSeen 42 = .ok (.return_, 1) := by decide +kernel
theorem dX7_gainSeen_0 : decode cX7_gainSeen 0 = .ok (.aload_n 0, 1) := by decide +kernel
theorem dX7_gainSeen_1 : decode cX7_gainSeen 1 = .ok (.iload_n 1, 1) := by decide +kernel
theorem dX7_gainSeen_2 : decode cX7_gainSeen 2 = .ok (.invokevirtual 171, 3) := by decide +kernel
theorem dX7_gainSeen_5 : decode cX7_gainSeen 5 = .ok (.aload_n 0, 1) := by decide +kernel
theorem dX7_gainSeen_6 : decode cX7_gainSeen 6 = .ok (.getfield 47, 3) := by decide +kernel
theorem dX7_gainSeen_9 : decode cX7_gainSeen 9 = .ok (.getfield 227, 3) := by decide +kernel
theorem dX7_gainSeen_12 : decode cX7_gainSeen 12 = .ok (.iload_n 1, 1) := by decide +kernel
theorem dX7_gainSeen_13 : decode cX7_gainSeen 13 = .ok (.iaload, 1) := by decide +kernel
theorem dX7_gainSeen_14 : decode cX7_gainSeen 14 = .ok (.i2l, 1) := by decide +kernel
theorem dX7_gainSeen_15 : decode cX7_gainSeen 15 = .ok (.aload_n 0, 1) := by decide +kernel
theorem dX7_gainSeen_16 : decode cX7_gainSeen 16 = .ok (.getfield 40, 3) := by decide +kernel
theorem dX7_gainSeen_19 : decode cX7_gainSeen 19 = .ok (.getfield 174, 3) := by decide +kernel
theorem dX7_gainSeen_22 : decode cX7_gainSeen 22 = .ok (.i2l, 1) := by decide +kernel
theorem dX7_gainSeen_23 : decode cX7_gainSeen 23 = .ok (.lsub, 1) := by decide +kernel
theorem dX7_gainSeen_24 : decode cX7_gainSeen 24 = .ok (.lstore_n 2, 1) := by decide +kernel
theorem dX7_gainSeen_25 : decode cX7_gainSeen 25 = .ok (.lload_n 2, 1) := by decide +kernel
theorem dX7_gainSeen_26 : decode cX7_gainSeen 26 = .ok (.lconst 0, 1) := by decide +kernel
theorem dX7_gainSeen_27 : decode cX7_gainSeen 27 = .ok (.lcmp, 1) := by decide +kernel
theorem dX7_gainSeen_28 : decode cX7_gainSeen 28 = .ok (.ifCond .le 30, 3) := by decide +kernel
theorem dX7_gainSeen_31 : decode cX7_gainSeen 31 = .ok (.lload_n 2, 1) := by decide +kernel
theorem dX7_gainSeen_32 : decode cX7_gainSeen 32 = .ok (.aload_n 0, 1) := by decide +kernel
theorem dX7_gainSeen_33 : decode cX7_gainSeen 33 = .ok (.getfield 47, 3) := by decide +kernel
theorem dX7_gainSeen_36 : decode cX7_gainSeen 36 = .ok (.getfield 200, 3) := by decide +kernel
theorem dX7_gainSeen_39 : decode cX7_gainSeen 39 = .ok (.iload_n 1, 1) := by decide +kernel
theorem dX7_gainSeen_40 : decode cX7_gainSeen 40 = .ok (.iaload, 1) := by decide +kernel
theorem dX7_gainSeen_41 : decode cX7_gainSeen 41 = .ok (.i2l, 1) := by decide +kernel
theorem dX7_gainSeen_42 : decode cX7_gainSeen 42 = .ok (.aload_n 0, 1) := by decide +kernel
theorem dX7_gainSeen_43 : decode cX7_gainSeen 43 = .ok (.getfield 47, 3) := by decide +kernel
theorem dX7_gainSeen_46 : decode cX7_gainSeen 46 = .ok (.getfield 227, 3) := by decide +kernel
theorem dX7_gainSeen_49 : decode cX7_gainSeen 49 = .ok (.iload_n 1, 1) := by decide +kernel
theorem dX7_gainSeen_50 : decode cX7_gainSeen 50 = .ok (.iaload, 1) := by decide +kernel
theorem dX7_gainSeen_51 : decode cX7_gainSeen 51 = .ok (.i2l, 1) := by decide +kernel
theorem dX7_gainSeen_52 : decode cX7_gainSeen 52 = .ok (.invokestatic 230, 3) := by decide +kernel
theorem dX7_gainSeen_55 : decode cX7_gainSeen 55 = .ok (.goto 4, 3) := by decide +kernel
theorem dX7_gainSeen_58 : decode cX7_gainSeen 58 = .ok (.lconst 0, 1) := by decide +kernel
theorem dX7_gainSeen_59 : decode cX7_gainSeen 59 = .ok (.lreturn, 1) := by decide +kernel
theorem dX7_whoGets_0 : decode cX7_whoGets 0 = .ok (.aload_n 0, 1) := by decide +kernel
theorem dX7_whoGets_1 : decode cX7_whoGets 1 = .ok (.iload_n 1, 1) := by decide +kernel
theorem dX7_whoGets_2 : decode cX7_whoGets 2 = .ok (.invokevirtual 171, 3) := by decide +kernel
theorem dX7_whoGets_5 : decode cX7_whoGets 5 = .ok (.iload_n 2, 1) := by decide +kernel
theorem dX7_whoGets_6 : decode cX7_whoGets 6 = .ok (.aload_n 0, 1) := by decide +kernel
theorem dX7_whoGets_7 : decode cX7_whoGets 7 = .ok (.getfield 40, 3) := by decide +kernel
theorem dX7_whoGets_10 : decode cX7_whoGets 10 = .ok (.getfield 180, 3) := by decide +kernel
theorem dX7_whoGets_13 : decode cX7_whoGets 13 = .ok (.if_icmp .ge 5, 3) := by decide +kernel
theorem dX7_whoGets_16 : decode cX7_whoGets 16 = .ok (.iconst 0, 1) := by decide +kernel
theorem dX7_whoGets_17 : decode cX7_whoGets 17 = .ok (.ireturn, 1) := by decide +kernel
theorem dX7_whoGets_18 : decode cX7_whoGets 18 = .ok (.iload_n 2, 1) := by decide +kernel
theorem dX7_whoGets_19 : decode cX7_whoGets 19 = .ok (.aload_n 0, 1) := by decide +kernel
theorem dX7_whoGets_20 : decode cX7_whoGets 20 = .ok (.getfield 40, 3) := by decide +kernel
theorem dX7_whoGets_23 : decode cX7_whoGets 23 = .ok (.getfield 174, 3) := by decide +kernel
theorem dX7_whoGets_26 : decode cX7_whoGets 26 = .ok (.if_icmp .ge 7, 3) := by decide +kernel
theorem dX7_whoGets_29 : decode cX7_whoGets 29 = .ok (.iconst 1, 1) := by decide +kernel
theorem dX7_whoGets_30 : decode cX7_whoGets 30 = .ok (.goto 4, 3) := by decide +kernel
theorem dX7_whoGets_33 : decode cX7_whoGets 33 = .ok (.iconst 2, 1) := by decide +kernel
theorem dX7_whoGets_34 : decode cX7_whoGets 34 = .ok (.ireturn, 1) := by decide +kernel
theorem dX7_isWithin_0 : decode cX7_isWithin 0 = .ok (.iload_n 0, 1) := by decide +kernel
theorem dX7_isWithin_1 : decode cX7_isWithin 1 = .ok (.ifCond .lt 12, 3) := by decide +kernel
theorem dX7_isWithin_4 : decode cX7_isWithin 4 = .ok (.iload_n 0, 1) := by decide +kernel
theorem dX7_isWithin_5 : decode cX7_isWithin 5 = .ok (.iload_n 1, 1) := by decide +kernel
theorem dX7_isWithin_6 : decode cX7_isWithin 6 = .ok (.if_icmp .gt 7, 3) := by decide +kernel
theorem dX7_isWithin_9 : decode cX7_isWithin 9 = .ok (.iconst 1, 1) := by decide +kernel
theorem dX7_isWithin_10 : decode cX7_isWithin 10 = .ok (.goto 4, 3) := by decide +kernel
theorem dX7_isWithin_13 : decode cX7_isWithin 13 = .ok (.iconst 0, 1) := by decide +kernel
theorem dX7_isWithin_14 : decode cX7_isWithin 14 = .ok (.ireturn, 1) := by decide +kernel
theorem dX7_isKnownDay_0 : decode cX7_isKnownDay 0 = .ok (.iload_n 0, 1) := by decide +kernel
theorem dX7_isKnownDay_1 : decode cX7_isKnownDay 1 = .ok (.sipush 1000, 3) := by decide +kernel
theorem dX7_isKnownDay_4 : decode cX7_isKnownDay 4 = .ok (.invokestatic 68, 3) := by decide +kernel
theorem dX7_isKnownDay_7 : decode cX7_isKnownDay 7 = .ok (.ireturn, 1) := by decide +kernel
theorem dX7_share_0 : decode cX7_share 0 = .ok (.lload 4, 2) := by decide +kernel
theorem dX7_share_2 : decode cX7_share 2 = .ok (.lconst 0, 1) := by decide +kernel
theorem dX7_share_3 : decode cX7_share 3 = .ok (.lcmp, 1) := by decide +kernel
theorem dX7_share_4 : decode cX7_share 4 = .ok (.ifCond .le 12, 3) := by decide +kernel
theorem dX7_share_7 : decode cX7_share 7 = .ok (.lload_n 0, 1) := by decide +kernel
theorem dX7_share_8 : decode cX7_share 8 = .ok (.lload_n 2, 1) := by decide +kernel
theorem dX7_share_9 : decode cX7_share 9 = .ok (.lmul, 1) := by decide +kernel
theorem dX7_share_10 : decode cX7_share 10 = .ok (.lload 4, 2) := by decide +kernel
theorem dX7_share_12 : decode cX7_share 12 = .ok (.ldiv, 1) := by decide +kernel
theorem dX7_share_13 : decode cX7_share 13 = .ok (.goto 4, 3) := by decide +kernel
theorem dX7_share_16 : decode cX7_share 16 = .ok (.lconst 0, 1) := by decide +kernel
theorem dX7_share_17 : decode cX7_share 17 = .ok (.lreturn, 1) := by decide +kernel
