theorem dX8_init_0 : decode cX8_init 0 = .ok (.aload_n 0, 1) := by decide +kernel
theorem dX8_init_1 : decode cX8_init 1 = .ok (.invokespecial 1, 3) := by decide +kernel
theorem dX8_init_4 : decode cX8_init 4 = .ok (.aload_n 0, 1) := by decide +kernel
theorem dX8_init_5 : decode cX8_init 5 = .ok (.sipush 300, 3) := by decide +kernel
theorem dX8_init_8 : decode cX8_init 8 = .ok (.newarray .int, 2) := by decide +kernel
theorem dX8_init_10 : decode cX8_init 10 = .ok (.putfield 7, 3) := by decide +kernel
theorem dX8_init_13 : decode cX8_init 13 = .ok (.aload_n 0, 1) := by decide +kernel
theorem dX8_init_14 : decode cX8_init 14 = .ok (.sipush 300, 3) := by decide +kernel
theorem dX8_init_17 : decode cX8_init 17 = .ok (.newarray .int, 2) := by decide +kernel
theorem dX8_init_19 : decode cX8_init 19 = .ok (.putfield 13, 3) := by decide +kernel
theorem dX8_init_22 : decode cX8_init 22 = .ok (.aload_n 0, 1) := by decide +kernel
theorem dX8_init_23 : decode cX8_init 23 = .ok (.sipush 300, 3) := by decide +kernel
theorem dX8_init_26 : decode cX8_init 26 = .ok (.newarray .int, 2) := by decide +kernel
theorem dX8_init_28 : decode cX8_init 28 = .ok (.putfield 16, 3) := by decide +kernel
theorem dX8_init_31 : decode cX8_init 31 = .ok (.aload_n 0, 1) := by decide +kernel
theorem dX8_init_32 : decode cX8_init 32 = .ok (.bipush 120, 2) := by decide +kernel
theorem dX8_init_34 : decode cX8_init 34 = .ok (.newarray .int, 2) := by decide +kernel
theorem dX8_init_36 : decode cX8_init 36 = .ok (.putfield 19, 3) := by decide +kernel
theorem dX8_init_39 : decode cX8_init 39 = .ok (.aload_n 0, 1) := by decide +kernel
theorem dX8_init_40 : decode cX8_init 40 = .ok (.bipush 24, 2) := by decide +kernel
theorem dX8_init_42 : decode cX8_init 42 = .ok (.newarray .int, 2) := by decide +kernel
theorem dX8_init_44 : decode cX8_init 44 = .ok (.putfield 22, 3) := by decide +kernel
theorem dX8_init_47 : decode cX8_init 47 = .ok (.aload_n 0, 1) := by decide +kernel
theorem dX8_init_48 : decode cX8_init 48 = .ok (.bipush 24, 2) := by decide +kernel
theorem dX8_init_50 : decode cX8_init 50 = .ok (.newarray .int, 2) := by decide +kernel
theorem dX8_init_52 : decode cX8_init 52 = .ok (.putfield 25, 3) := by decide +kernel
theorem dX8_init_55 : decode cX8_init 55 = .ok (.aload_n 0, 1) := by decide +kernel
theorem dX8_init_56 : decode cX8_init 56 = .ok (.bipush 24, 2) := by decide +kernel
theorem dX8_init_58 : decode cX8_init 58 = .ok (.newarray .int, 2) := by decide +kernel
theorem dX8_init_60 : decode cX8_init 60 = .ok (.putfield 28, 3) := by decide +kernel
theorem dX8_init_63 : decode cX8_init 63 = .ok (.aload_n 0, 1) := by decide +kernel
theorem dX8_init_64 : decode cX8_init 64 = .ok (.bipush 24, 2) := by decide +kernel
theorem dX8_init_66 : decode cX8_init 66 = .ok (.newarray .int, 2) := by decide +kernel
theorem dX8_init_68 : decode cX8_init 68 = .ok (.putfield 31, 3) := by decide +kernel
theorem dX8_init_71 : decode cX8_init 71 = .ok (.aload_n 0, 1) := by decide +kernel
theorem dX8_init_72 : decode cX8_init 72 = .ok (.bipush 25, 2) := by decide +kernel
theorem dX8_init_74 : decode cX8_init 74 = .ok (.newarray .boolean, 2) := by decide +kernel
theorem dX8_init_76 : decode cX8_init 76 = .ok (.putfield 34, 3) := by decide +kernel
theorem dX8_init_79 : decode cX8_init 79 = .ok (.aload_n 0, 1) := by decide +kernel
theorem dX8_init_80 : decode cX8_init 80 = .ok (.bipush 8, 2) := by decide +kernel
theorem dX8_init_82 : decode cX8_init 82 = .ok (.newarray .int, 2) := by decide +kernel
theorem dX8_init_84 : decode cX8_init 84 = .ok (.putfield 38, 3) := by decide +kernel
theorem dX8_init_87 : decode cX8_init 87 = .ok (.aload_n 0, 1) := by decide +kernel
theorem dX8_init_88 : decode cX8_init 88 = .ok (.bipush 8, 2) := by decide +kernel
theorem dX8_init_90 : decode cX8_init 90 = .ok (.newarray .int, 2) := by decide +kernel
theorem dX8_init_92 : decode cX8_init 92 = .ok (.putfield 41, 3) := by decide +kernel
theorem dX8_init_95 : decode cX8_init 95 = .ok (.aload_n 0, 1) := by decide +kernel
theorem dX8_init_96 : decode cX8_init 96 = .ok (.bipush 20, 2) := by decide +kernel
theorem dX8_init_98 : decode cX8_init 98 = .ok (.newarray .int, 2) := by decide +kernel
theorem dX8_init_100 : decode cX8_init 100 = .ok (.putfield 44, 3) := by decide +kernel
theorem dX8_init_103 : decode cX8_init 103 = .ok (.aload_n 0, 1) := by decide +kernel
theorem dX8_init_104 : decode cX8_init 104 = .ok (.bipush 20, 2) := by decide +kernel
theorem dX8_init_106 : decode cX8_init 106 = .ok (.newarray .int, 2) := by decide +kernel
theorem dX8_init_108 : decode cX8_init 108 = .ok (.putfield 47, 3) := by decide +kernel
theorem dX8_init_111 : decode cX8_init 111 = .ok (.aload_n 0, 1) := by decide +kernel
theorem dX8_init_112 : decode cX8_init 112 = .ok (.bipush 20, 2) := by decide +kernel
theorem dX8_init_114 : decode cX8_init 114 = .ok (.newarray .int, 2) := by decide +kernel
theorem dX8_init_116 : decode cX8_init 116 = .ok (.putfield 50, 3) := by decide +kernel
theorem dX8_init_119 : decode cX8_init 119 = .ok (.aload_n 0, 1) := by decide +kernel
theorem dX8_init_120 : decode cX8_init 120 = .ok (.bipush 20, 2) := by decide +kernel
theorem dX8_init_122 : decode cX8_init 122 = .ok (.newarray .int, 2) := by decide +kernel
theorem dX8_init_124 : decode cX8_init 124 = .ok (.putfield 53, 3) := by decide +kernel
theorem dX8_init_127 : decode cX8_init 127 = .ok (.aload_n 0, 1) := by decide +kernel
theorem dX8_init_128 : decode cX8_init 128 = .ok (.bipush 80, 2) := by decide +kernel
theorem dX8_init_130 : decode cX8_init 130 = .ok (.newarray .int, 2) := by decide +kernel
theorem dX8_init_132 : decode cX8_init 132 = .ok (.putfield 56, 3) := by decide +kernel
theorem dX8_init_135 : decode cX8_init 135 = .ok (.aload_n 0, 1) := by decide +kernel
theorem dX8_init_136 : decode cX8_init 136 = .ok (.sipush 200, 3) := by decide +kernel
theorem dX8_init_139 : decode cX8_init 139 = .ok (.newarray .int, 2) := by decide +kernel
theorem dX8_init_141 : decode cX8_init 141 = .ok (.putfield 59, 3) := by decide +kernel
theorem dX8_init_144 : decode cX8_init 144 = .ok (.aload_n 0, 1) := by decide +kernel
theorem dX8_init_145 : decode cX8_init 145 = .ok (.iconst (-1), 1) := by decide +kernel
theorem dX8_init_146 : decode cX8_init 146 = .ok (.putfield 62, 3) := by decide +kernel
theorem dX8_init_149 : decode cX8_init 149 = .ok (.aload_n 0, 1) := by decide +kernel
theorem dX8_init_150 : decode cX8_init 150 = .ok (.sipush 200, 3) := by decide +kernel
theorem dX8_init_153 : decode cX8_init 153 = .ok (.newarray .int, 2) := by decide +kernel
theorem dX8_init_155 : decode cX8_init 155 = .ok (.putfield 66, 3) := by decide +kernel
theorem dX8_init_158 : decode cX8_init 158 = .ok (.aload_n 0, 1) := by decide +kernel
theorem dX8_init_159 : decode cX8_init 159 = .ok (.sipush 200, 3) := by decide +kernel
theorem dX8_init_162 : decode cX8_init 162 = .ok (.newarray .int, 2) := by decide +kernel
theorem dX8_init_164 : decode cX8_init 164 = .ok (.putfield 69, 3) := by decide +kernel
theorem dX8_init_167 : decode cX8_init 167 = .ok (.aload_n 0, 1) := by decide +kernel
theorem dX8_init_168 : decode cX8_init 168 = .ok (.sipush 200, 3) := by decide +kernel
theorem dX8_init_171 : decode cX8_init 171 = .ok (.newarray .int, 2) := by decide +kernel
theorem dX8_init_173 : decode cX8_init 173 = .ok (.putfield 72, 3) := by decide +kernel
theorem dX8_init_176 : decode cX8_init 176 = .ok (.aload_n 0, 1) := by decide +kernel
theorem dX8_init_177 : decode cX8_init 177 = .ok (.sipush 200, 3) := by decide +kernel
theorem dX8_init_180 : decode cX8_init 180 = .ok (.newarray .int, 2) := by decide +kernel
theorem dX8_init_182 : decode cX8_init 182 = .ok (.putfield 75, 3) := by decide +kernel
theorem dX8_init_185 : decode cX8_init 185 = .ok (.return_, 1) := by decide +kernel
theorem dX8_in_0 : decode cX8_in 0 = .ok (.lload_n 0, 1) := by decide +kernel
theorem dX8_in_1 : decode cX8_in 1 = .ok (.lload_n 2, 1) := by decide +kernel
theorem dX8_in_2 : decode cX8_in 2 = .ok (.lcmp, 1) := by decide +kernel
theorem dX8_in_3 : decode cX8_in 3 = .ok (.ifCond .lt 14, 3) := by decide +kernel
theorem dX8_in_6 : decode cX8_in 6 = .ok (.lload_n 0, 1) := by decide +kernel
theorem dX8_in_7 : decode cX8_in 7 = .ok (.lload 4, 2) := by decide +kernel
theorem dX8_in_9 : decode cX8_in 9 = .ok (.lcmp, 1) := by decide +kernel
theorem dX8_in_10 : decode cX8_in 10 = .ok (.ifCond .gt 7, 3) := by decide +kernel
theorem dX8_in_13 : decode cX8_in 13 = .ok (.iconst 1, 1) := by decide +kernel
theorem dX8_in_14 : decode cX8_in 14 = .ok (.goto 4, 3) := by decide +kernel
theorem dX8_in_17 : decode cX8_in 17 = .ok (.iconst 0, 1) := by decide +kernel
theorem dX8_in_18 : decode cX8_in 18 = .ok (.ireturn, 1) := by decide +kernel
theorem dX8_told_0 : decode cX8_told 0 = .ok (.aload_n 0, 1) := by decide +kernel
theorem dX8_told_1 : decode cX8_told 1 = .ok (.iload_n 1, 1) := by decide +kernel
theorem dX8_told_2 : decode cX8_told 2 = .ok (.ifCond .ge 7, 3) := by decide +kernel
theorem dX8_told_5 : decode cX8_told 5 = .ok (.iload_n 1, 1) := by decide +kernel
theorem dX8_told_6 : decode cX8_told 6 = .ok (.goto 4, 3) := by decide +kernel
theorem dX8_told_9 : decode cX8_told 9 = .ok (.iconst 0, 1) := by decide +kernel
theorem dX8_told_10 : decode cX8_told 10 = .ok (.putfield 81, 3) := by decide +kernel
theorem dX8_told_13 : decode cX8_told 13 = .ok (.iload_n 1, 1) := by decide +kernel
theorem dX8_told_14 : decode cX8_told 14 = .ok (.ireturn, 1) := by decide +kernel
theorem dX8_isDay_0 : decode cX8_isDay 0 = .ok (.iload_n 0, 1) := by decide +kernel
theorem dX8_isDay_1 : decode cX8_isDay 1 = .ok (.i2l, 1) := by decide +kernel
theorem dX8_isDay_2 : decode cX8_isDay 2 = .ok (.lconst 0, 1) := by decide +kernel
theorem dX8_isDay_3 : decode cX8_isDay 3 = .ok (.ldc2_w 84, 3) := by decide +kernel
theorem dX8_isDay_6 : decode cX8_isDay 6 = .ok (.invokestatic 86, 3) := by decide +kernel
theorem dX8_isDay_9 : decode cX8_isDay 9 = .ok (.ireturn, 1) := by decide +kernel
theorem dX8_isKnown_0 : decode cX8_isKnown 0 = .ok (.iload_n 0, 1) := by decide +kernel
theorem dX8_isKnown_1 : decode cX8_isKnown 1 = .ok (.i2l, 1) := by decide +kernel
theorem dX8_isKnown_2 : decode cX8_isKnown 2 = .ok (.lconst 0, 1) := by decide +kernel
theorem dX8_isKnown_3 : decode cX8_isKnown 3 = .ok (.ldc2_w 90, 3) := by decide +kernel
theorem dX8_isKnown_6 : decode cX8_isKnown 6 = .ok (.invokestatic 86, 3) := by decide +kernel
theorem dX8_isKnown_9 : decode cX8_isKnown 9 = .ok (.ireturn, 1) := by decide +kernel
theorem dX8_read_0 : decode cX8_read 0 = .ok (.aload_n 0, 1) := by decide +kernel
theorem dX8_read_1 : decode cX8_read 1 = .ok (.iconst 0, 1) := by decide +kernel
theorem dX8_read_2 : decode cX8_read 2 = .ok (.putfield 78, 3) := by decide +kernel
theorem dX8_read_5 : decode cX8_read 5 = .ok (.iload_n 1, 1) := by decide +kernel
theorem dX8_read_6 : decode cX8_read 6 = .ok (.invokestatic 92, 3) := by decide +kernel
theorem dX8_read_9 : decode cX8_read 9 = .ok (.ifCond .eq 22, 3) := by decide +kernel
theorem dX8_read_12 : decode cX8_read 12 = .ok (.iload_n 2, 1) := by decide +kernel
theorem dX8_read_13 : decode cX8_read 13 = .ok (.i2l, 1) := by decide +kernel
theorem dX8_read_14 : decode cX8_read 14 = .ok (.lconst 0, 1) := by decide +kernel
theorem dX8_read_15 : decode cX8_read 15 = .ok (.ldc2_w 96, 3) := by decide +kernel
theorem dX8_read_18 : decode cX8_read 18 = .ok (.invokestatic 86, 3) := by decide +kernel
theorem dX8_read_21 : decode cX8_read 21 = .ok (.ifCond .eq 10, 3) := by decide +kernel
theorem dX8_read_24 : decode cX8_read 24 = .ok (.iload_n 3, 1) := by decide +kernel
theorem dX8_read_25 : decode cX8_read 25 = .ok (.invokestatic 98, 3) := by decide +kernel
theorem dX8_read_28 : decode cX8_read 28 = .ok (.ifCond .ne 9, 3) := by decide +kernel
theorem dX8_read_31 : decode cX8_read 31 = .ok (.aload_n 0, 1) := by decide +kernel
theorem dX8_read_32 : decode cX8_read 32 = .ok (.iconst (-1), 1) := by decide +kernel
theorem dX8_read_33 : decode cX8_read 33 = .ok (.invokevirtual 101, 3) := by decide +kernel
theorem dX8_read_36 : decode cX8_read 36 = .ok (.ireturn, 1) := by decide +kernel
theorem dX8_read_37 : decode cX8_read 37 = .ok (.aload_n 0, 1) := by decide +kernel
theorem dX8_read_38 : decode cX8_read 38 = .ok (.getfield 105, 3) := by decide +kernel
theorem dX8_read_41 : decode cX8_read 41 = .ok (.sipush 300, 3) := by decide +kernel
theorem dX8_read_44 : decode cX8_read 44 = .ok (.if_icmp .ne 10, 3) := by decide +kernel
theorem dX8_read_47 : decode cX8_read 47 = .ok (.aload_n 0, 1) := by decide +kernel
theorem dX8_read_48 : decode cX8_read 48 = .ok (.bipush (-5), 2) := by decide +kernel
theorem dX8_read_50 : decode cX8_read 50 = .ok (.invokevirtual 101, 3) := by decide +kernel
theorem dX8_read_53 : decode cX8_read 53 = .ok (.ireturn, 1) := by decide +kernel
theorem dX8_read_54 : decode cX8_read 54 = .ok (.aload_n 0, 1) := by decide +kernel
theorem dX8_read_55 : decode cX8_read 55 = .ok (.getfield 7, 3) := by decide +kernel
theorem dX8_read_58 : decode cX8_read 58 = .ok (.aload_n 0, 1) := by decide +kernel
theorem dX8_read_59 : decode cX8_read 59 = .ok (.getfield 105, 3) := by decide +kernel
theorem dX8_read_62 : decode cX8_read 62 = .ok (.iload_n 1, 1) := by decide +kernel
theorem dX8_read_63 : decode cX8_read 63 = .ok (.iastore, 1) := by decide +kernel
theorem dX8_read_64 : decode cX8_read 64 = .ok (.aload_n 0, 1) := by decide +kernel
theorem dX8_read_65 : decode cX8_read 65 = .ok (.getfield 13, 3) := by decide +kernel
theorem dX8_read_68 : decode cX8_read 68 = .ok (.aload_n 0, 1) := by decide +kernel
theorem dX8_read_69 : decode cX8_read 69 = .ok (.getfield 105, 3) := by decide +kernel
theorem dX8_read_72 : decode cX8_read 72 = .ok (.iload_n 2, 1) := by decide +kernel
theorem dX8_read_73 : decode cX8_read 73 = .ok (.iastore, 1) := by decide +kernel
theorem dX8_read_74 : decode cX8_read 74 = .ok (.aload_n 0, 1) := by decide +kernel
theorem dX8_read_75 : decode cX8_read 75 = .ok (.getfield 16, 3) := by decide +kernel
theorem dX8_read_78 : decode cX8_read 78 = .ok (.aload_n 0, 1) := by decide +kernel
theorem dX8_read_79 : decode cX8_read 79 = .ok (.getfield 105, 3) := by decide +kernel
theorem dX8_read_82 : decode cX8_read 82 = .ok (.iload_n 3, 1) := by decide +kernel
theorem dX8_read_83 : decode cX8_read 83 = .ok (.iastore, 1) := by decide +kernel
theorem dX8_read_84 : decode cX8_read 84 = .ok (.aload_n 0, 1) := by decide +kernel
theorem dX8_read_85 : decode cX8_read 85 = .ok (.dup, 1) := by decide +kernel
theorem dX8_read_86 : decode cX8_read 86 = .ok (.getfield 105, 3) := by decide +kernel
theorem dX8_read_89 : decode cX8_read 89 = .ok (.iconst 1, 1) := by decide +kernel
theorem dX8_read_90 : decode cX8_read 90 = .ok (.iadd, 1) := by decide +kernel
theorem dX8_read_91 : decode cX8_read 91 = .ok (.putfield 105, 3) := by decide +kernel
theorem dX8_read_94 : decode cX8_read 94 = .ok (.aload_n 0, 1) := by decide +kernel
theorem dX8_read_95 : decode cX8_read 95 = .ok (.aload_n 0, 1) := by decide +kernel
theorem dX8_read_96 : decode cX8_read 96 = .ok (.getfield 105, 3) := by decide +kernel
theorem dX8_read_99 : decode cX8_read 99 = .ok (.invokevirtual 101, 3) := by decide +kernel
theorem dX8_read_102 : decode cX8_read 102 = .ok (.ireturn, 1) := by decide +kernel
theorem dX8_find_0 : decode cX8_find 0 = .ok (.iconst 0, 1) := by decide +kernel
theorem dX8_find_1 : decode cX8_find 1 = .ok (.istore_n 3, 1) := by decide +kernel
theorem dX8_find_2 : decode cX8_find 2 = .ok (.iload_n 3, 1) := by decide +kernel
theorem dX8_find_3 : decode cX8_find 3 = .ok (.bipush 120, 2) := by decide +kernel
theorem dX8_find_5 : decode cX8_find 5 = .ok (.if_icmp .ge 16, 3) := by decide +kernel
theorem dX8_find_8 : decode cX8_find 8 = .ok (.aload_n 0, 1) := by decide +kernel
theorem dX8_find_9 : decode cX8_find 9 = .ok (.getfield 19, 3) := by decide +kernel
theorem dX8_find_12 : decode cX8_find 12 = .ok (.iload_n 3, 1) := by decide +kernel
theorem dX8_find_13 : decode cX8_find 13 = .ok (.iconst (-1), 1) := by decide +kernel
theorem dX8_find_14 : decode cX8_find 14 = .ok (.iastore, 1) := by decide +kernel
theorem dX8_find_15 : decode cX8_find 15 = .ok (.iinc 3 1, 3) := by decide +kernel
theorem dX8_find_18 : decode cX8_find 18 = .ok (.goto (-16), 3) := by decide +kernel
theorem dX8_find_21 : decode cX8_find 21 = .ok (.iconst 0, 1) := by decide +kernel
theorem dX8_find_22 : decode cX8_find 22 = .ok (.istore_n 3, 1) := by decide +kernel
theorem dX8_find_23 : decode cX8_find 23 = .ok (.iload_n 3, 1) := by decide +kernel
theorem dX8_find_24 : decode cX8_find 24 = .ok (.aload_n 0, 1) := by decide +kernel
theorem dX8_find_25 : decode cX8_find 25 = .ok (.getfield 105, 3) := by decide +kernel
theorem dX8_find_28 : decode cX8_find 28 = .ok (.if_icmp .ge 46, 3) := by decide +kernel
theorem dX8_find_31 : decode cX8_find 31 = .ok (.aload_n 0, 1) := by decide +kernel
theorem dX8_find_32 : decode cX8_find 32 = .ok (.getfield 16, 3) := by decide +kernel
theorem dX8_find_35 : decode cX8_find 35 = .ok (.iload_n 3, 1) := by decide +kernel
theorem dX8_find_36 : decode cX8_find 36 = .ok (.iaload, 1) := by decide +kernel
theorem dX8_find_37 : decode cX8_find 37 = .ok (.iload_n 1, 1) := by decide +kernel
theorem dX8_find_38 : decode cX8_find 38 = .ok (.if_icmp .gt 30, 3) := by decide +kernel
theorem dX8_find_41 : decode cX8_find 41 = .ok (.aload_n 0, 1) := by decide +kernel
theorem dX8_find_42 : decode cX8_find 42 = .ok (.getfield 7, 3) := by decide +kernel
theorem dX8_find_45 : decode cX8_find 45 = .ok (.iload_n 3, 1) := by decide +kernel
theorem dX8_find_46 : decode cX8_find 46 = .ok (.iaload, 1) := by decide +kernel
theorem dX8_find_47 : decode cX8_find 47 = .ok (.iload_n 2, 1) := by decide +kernel
theorem dX8_find_48 : decode cX8_find 48 = .ok (.if_icmp .gt 20, 3) := by decide +kernel
theorem dX8_find_51 : decode cX8_find 51 = .ok (.aload_n 0, 1) := by decide +kernel
theorem dX8_find_52 : decode cX8_find 52 = .ok (.getfield 19, 3) := by decide +kernel
theorem dX8_find_55 : decode cX8_find 55 = .ok (.aload_n 0, 1) := by decide +kernel
theorem dX8_find_56 : decode cX8_find 56 = .ok (.getfield 7, 3) := by decide +kernel
theorem dX8_find_59 : decode cX8_find 59 = .ok (.iload_n 3, 1) := by decide +kernel
theorem dX8_find_60 : decode cX8_find 60 = .ok (.iaload, 1) := by decide +kernel
theorem dX8_find_61 : decode cX8_find 61 = .ok (.aload_n 0, 1) := by decide +kernel
theorem dX8_find_62 : decode cX8_find 62 = .ok (.getfield 13, 3) := by decide +kernel
theorem dX8_find_65 : decode cX8_find 65 = .ok (.iload_n 3, 1) := by decide +kernel
theorem dX8_find_66 : decode cX8_find 66 = .ok (.iaload, 1) := by decide +kernel
theorem dX8_find_67 : decode cX8_find 67 = .ok (.iastore, 1) := by decide +kernel
theorem dX8_find_68 : decode cX8_find 68 = .ok (.iinc 3 1, 3) := by decide +kernel
theorem dX8_find_71 : decode cX8_find 71 = .ok (.goto (-48), 3) := by decide +kernel
theorem dX8_find_74 : decode cX8_find 74 = .ok (.iconst 0, 1) := by decide +kernel
theorem dX8_find_75 : decode cX8_find 75 = .ok (.istore_n 3, 1) := by decide +kernel
theorem dX8_find_76 : decode cX8_find 76 = .ok (.iconst 0, 1) := by decide +kernel
theorem dX8_find_77 : decode cX8_find 77 = .ok (.istore 4, 2) := by decide +kernel
theorem dX8_find_79 : decode cX8_find 79 = .ok (.iload 4, 2) := by decide +kernel
theorem dX8_find_81 : decode cX8_find 81 = .ok (.bipush 120, 2) := by decide +kernel
theorem dX8_find_83 : decode cX8_find 83 = .ok (.if_icmp .ge 45, 3) := by decide +kernel
theorem dX8_find_86 : decode cX8_find 86 = .ok (.aload_n 0, 1) := by decide +kernel
theorem dX8_find_87 : decode cX8_find 87 = .ok (.getfield 19, 3) := by decide +kernel
theorem dX8_find_90 : decode cX8_find 90 = .ok (.iload 4, 2) := by decide +kernel
theorem dX8_find_92 : decode cX8_find 92 = .ok (.aload_n 0, 1) := by decide +kernel
theorem dX8_find_93 : decode cX8_find 93 = .ok (.getfield 19, 3) := by decide +kernel
theorem dX8_find_96 : decode cX8_find 96 = .ok (.iload 4, 2) := by decide +kernel
theorem dX8_find_98 : decode cX8_find 98 = .ok (.iaload, 1) := by decide +kernel
theorem dX8_find_99 : decode cX8_find 99 = .ok (.ifCond .ge 7, 3) := by decide +kernel
theorem dX8_find_102 : decode cX8_find 102 = .ok (.iload_n 3, 1) := by decide +kernel
theorem dX8_find_103 : decode cX8_find 103 = .ok (.goto 10, 3) := by decide +kernel
theorem dX8_find_106 : decode cX8_find 106 = .ok (.aload_n 0, 1) := by decide +kernel
theorem dX8_find_107 : decode cX8_find 107 = .ok (.getfield 19, 3) := by decide +kernel
theorem dX8_find_110 : decode cX8_find 110 = .ok (.iload 4, 2) := by decide +kernel
theorem dX8_find_112 : decode cX8_find 112 = .ok (.iaload, 1) := by decide +kernel
theorem dX8_find_113 : decode cX8_find 113 = .ok (.iastore, 1) := by decide +kernel
theorem dX8_find_114 : decode cX8_find 114 = .ok (.aload_n 0, 1) := by decide +kernel
theorem dX8_find_115 : decode cX8_find 115 = .ok (.getfield 19, 3) := by decide +kernel
theorem dX8_find_118 : decode cX8_find 118 = .ok (.iload 4, 2) := by decide +kernel
theorem dX8_find_120 : decode cX8_find 120 = .ok (.iaload, 1) := by decide +kernel
theorem dX8_find_121 : decode cX8_find 121 = .ok (.istore_n 3, 1) := by decide +kernel
theorem dX8_find_122 : decode cX8_find 122 = .ok (.iinc 4 1, 3) := by decide +kernel
theorem dX8_find_125 : decode cX8_find 125 = .ok (.goto (-46), 3) := by decide +kernel
theorem dX8_find_128 : decode cX8_find 128 = .ok (.return_, 1) := by decide +kernel
theorem dX8_peakOf_0 : decode cX8_peakOf 0 = .ok (.iconst 0, 1) := by decide +kernel
theorem dX8_peakOf_1 : decode cX8_peakOf 1 = .ok (.istore_n 1, 1) := by decide +kernel
theorem dX8_peakOf_2 : decode cX8_peakOf 2 = .ok (.iconst 0, 1) := by decide +kernel
theorem dX8_peakOf_3 : decode cX8_peakOf 3 = .ok (.istore_n 2, 1) := by decide +kernel
theorem dX8_peakOf_4 : decode cX8_peakOf 4 = .ok (.iload_n 2, 1) := by decide +kernel
theorem dX8_peakOf_5 : decode cX8_peakOf 5 = .ok (.bipush 120, 2) := by decide +kernel
theorem dX8_peakOf_7 : decode cX8_peakOf 7 = .ok (.if_icmp .ge 30, 3) := by decide +kernel
theorem dX8_peakOf_10 : decode cX8_peakOf 10 = .ok (.aload_n 0, 1) := by decide +kernel
theorem dX8_peakOf_11 : decode cX8_peakOf 11 = .ok (.getfield 19, 3) := by decide +kernel
theorem dX8_peakOf_14 : decode cX8_peakOf 14 = .ok (.iload_n 2, 1) := by decide +kernel
theorem dX8_peakOf_15 : decode cX8_peakOf 15 = .ok (.iaload, 1) := by decide +kernel
theorem dX8_peakOf_16 : decode cX8_peakOf 16 = .ok (.iload_n 1, 1) := by decide +kernel
theorem dX8_peakOf_17 : decode cX8_peakOf 17 = .ok (.if_icmp .le 12, 3) := by decide +kernel
theorem dX8_peakOf_20 : decode cX8_peakOf 20 = .ok (.aload_n 0, 1) := by decide +kernel
theorem dX8_peakOf_21 : decode cX8_peakOf 21 = .ok (.getfield 19, 3) := by decide +kernel
theorem dX8_peakOf_24 : decode cX8_peakOf 24 = .ok (.iload_n 2, 1) := by decide +kernel
theorem dX8_peakOf_25 : decode cX8_peakOf 25 = .ok (.iaload, 1) := by decide +kernel
theorem dX8_peakOf_26 : decode cX8_peakOf 26 = .ok (.goto 4, 3) := by decide +kernel
theorem dX8_peakOf_29 : decode cX8_peakOf 29 = .ok (.iload_n 1, 1) := by decide +kernel
theorem dX8_peakOf_30 : decode cX8_peakOf 30 = .ok (.istore_n 1, 1) := by decide +kernel
theorem dX8_peakOf_31 : decode cX8_peakOf 31 = .ok (.iinc 2 1, 3) := by decide +kernel
theorem dX8_peakOf_34 : decode cX8_peakOf 34 = .ok (.goto (-30), 3) := by decide +kernel
theorem dX8_peakOf_37 : decode cX8_peakOf 37 = .ok (.iload_n 1, 1) := by decide +kernel
theorem dX8_peakOf_38 : decode cX8_peakOf 38 = .ok (.ireturn, 1) := by decide +kernel
theorem dX8_height_0 : decode cX8_height 0 = .ok (.aload_n 0, 1) := by decide +kernel
theorem dX8_height_1 : decode cX8_height 1 = .ok (.iconst 0, 1) := by decide +kernel
theorem dX8_height_2 : decode cX8_height 2 = .ok (.putfield 78, 3) := by decide +kernel
theorem dX8_height_5 : decode cX8_height 5 = .ok (.iload_n 1, 1) := by decide +kernel
theorem dX8_height_6 : decode cX8_height 6 = .ok (.invokestatic 92, 3) := by decide +kernel
theorem dX8_height_9 : decode cX8_height 9 = .ok (.ifCond .eq 10, 3) := by decide +kernel
theorem dX8_height_12 : decode cX8_height 12 = .ok (.iload_n 2, 1) := by decide +kernel
theorem dX8_height_13 : decode cX8_height 13 = .ok (.invokestatic 98, 3) := by decide +kernel
theorem dX8_height_16 : decode cX8_height 16 = .ok (.ifCond .ne 5, 3) := by decide +kernel
theorem dX8_height_19 : decode cX8_height 19 = .ok (.iconst (-1), 1) := by decide +kernel
theorem dX8_height_20 : decode cX8_height 20 = .ok (.ireturn, 1) := by decide +kernel
theorem dX8_height_21 : decode cX8_height 21 = .ok (.aload_n 0, 1) := by decide +kernel
theorem dX8_height_22 : decode cX8_height 22 = .ok (.iload_n 2, 1) := by decide +kernel
theorem dX8_height_23 : decode cX8_height 23 = .ok (.bipush 119, 2) := by decide +kernel
theorem dX8_height_25 : decode cX8_height 25 = .ok (.invokevirtual 108, 3) := by decide +kernel
theorem dX8_height_28 : decode cX8_height 28 = .ok (.aload_n 0, 1) := by decide +kernel
theorem dX8_height_29 : decode cX8_height 29 = .ok (.getfield 19, 3) := by decide +kernel
theorem dX8_height_32 : decode cX8_height 32 = .ok (.iload_n 1, 1) := by decide +kernel
theorem dX8_height_33 : decode cX8_height 33 = .ok (.iaload, 1) := by decide +kernel
theorem dX8_height_34 : decode cX8_height 34 = .ok (.ireturn, 1) := by decide +kernel
theorem dX8_peak_0 : decode cX8_peak 0 = .ok (.aload_n 0, 1) := by decide +kernel
theorem dX8_peak_1 : decode cX8_peak 1 = .ok (.iconst 0, 1) := by decide +kernel
theorem dX8_peak_2 : decode cX8_peak 2 = .ok (.putfield 78, 3) := by decide +kernel
theorem dX8_peak_5 : decode cX8_peak 5 = .ok (.iload_n 1, 1) := by decide +kernel
theorem dX8_peak_6 : decode cX8_peak 6 = .ok (.invokestatic 98, 3) := by decide +kernel
theorem dX8_peak_9 : decode cX8_peak 9 = .ok (.ifCond .ne 5, 3) := by decide +kernel
theorem dX8_peak_12 : decode cX8_peak 12 = .ok (.iconst (-1), 1) := by decide +kernel
theorem dX8_peak_13 : decode cX8_peak 13 = .ok (.ireturn, 1) := by decide +kernel
theorem dX8_peak_14 : decode cX8_peak 14 = .ok (.aload_n 0, 1) := by decide +kernel
theorem dX8_peak_15 : decode cX8_peak 15 = .ok (.iload_n 1, 1) := by decide +kernel
theorem dX8_peak_16 : decode cX8_peak 16 = .ok (.bipush 119, 2) := by decide +kernel
theorem dX8_peak_18 : decode cX8_peak 18 = .ok (.invokevirtual 108, 3) := by decide +kernel
theorem dX8_peak_21 : decode cX8_peak 21 = .ok (.aload_n 0, 1) := by decide +kernel
theorem dX8_peak_22 : decode cX8_peak 22 = .ok (.invokevirtual 112, 3) := by decide +kernel
theorem dX8_peak_25 : decode cX8_peak 25 = .ok (.ireturn, 1) := by decide +kernel
theorem dX8_isStrip_0 : decode cX8_isStrip 0 = .ok (.iload_n 1, 1) := by decide +kernel
theorem dX8_isStrip_1 : decode cX8_isStrip 1 = .ok (.i2l, 1) := by decide +kernel
theorem dX8_isStrip_2 : decode cX8_isStrip 2 = .ok (.lconst 0, 1) := by decide +kernel
theorem dX8_isStrip_3 : decode cX8_isStrip 3 = .ok (.aload_n 0, 1) := by decide +kernel
theorem dX8_isStrip_4 : decode cX8_isStrip 4 = .ok (.getfield 116, 3) := by decide +kernel
theorem dX8_isStrip_7 : decode cX8_isStrip 7 = .ok (.i2l, 1) := by decide +kernel
theorem dX8_isStrip_8 : decode cX8_isStrip 8 = .ok (.lconst 1, 1) := by decide +kernel
theorem dX8_isStrip_9 : decode cX8_isStrip 9 = .ok (.lsub, 1) := by decide +kernel
theorem dX8_isStrip_10 : decode cX8_isStrip 10 = .ok (.invokestatic 86, 3) := by decide +kernel
theorem dX8_isStrip_13 : decode cX8_isStrip 13 = .ok (.ireturn, 1) := by decide +kernel
theorem dX8_isMark_0 : decode cX8_isMark 0 = .ok (.aload_n 0, 1) := by decide +kernel
theorem dX8_isMark_1 : decode cX8_isMark 1 = .ok (.getfield 116, 3) := by decide +kernel
theorem dX8_isMark_4 : decode cX8_isMark 4 = .ok (.ifCond .le 21, 3) := by decide +kernel
theorem dX8_isMark_7 : decode cX8_isMark 7 = .ok (.iload_n 1, 1) := by decide +kernel
theorem dX8_isMark_8 : decode cX8_isMark 8 = .ok (.i2l, 1) := by decide +kernel
theorem dX8_isMark_9 : decode cX8_isMark 9 = .ok (.lconst 0, 1) := by decide +kernel
theorem dX8_isMark_10 : decode cX8_isMark 10 = .ok (.aload_n 0, 1) := by decide +kernel
theorem dX8_isMark_11 : decode cX8_isMark 11 = .ok (.getfield 116, 3) := by decide +kernel
theorem dX8_isMark_14 : decode cX8_isMark 14 = .ok (.i2l, 1) := by decide +kernel
theorem dX8_isMark_15 : decode cX8_isMark 15 = .ok (.invokestatic 86, 3) := by decide +kernel
theorem dX8_isMark_18 : decode cX8_isMark 18 = .ok (.ifCond .eq 7, 3) := by decide +kernel
theorem dX8_isMark_21 : decode cX8_isMark 21 = .ok (.iconst 1, 1) := by decide +kernel
theorem dX8_isMark_22 : decode cX8_isMark 22 = .ok (.goto 4, 3) := by decide +kernel
theorem dX8_isMark_25 : decode cX8_isMark 25 = .ok (.iconst 0, 1) := by decide +kernel
theorem dX8_isMark_26 : decode cX8_isMark 26 = .ok (.ireturn, 1) := by decide +kernel
theorem dX8_strip_0 : decode cX8_strip 0 = .ok (.aload_n 0, 1) := by decide +kernel
theorem dX8_strip_1 : decode cX8_strip 1 = .ok (.iconst 0, 1) := by decide +kernel
theorem dX8_strip_2 : decode cX8_strip 2 = .ok (.putfield 78, 3) := by decide +kernel
theorem dX8_strip_5 : decode cX8_strip 5 = .ok (.iload_n 1, 1) := by decide +kernel
theorem dX8_strip_6 : decode cX8_strip 6 = .ok (.i2l, 1) := by decide +kernel
theorem dX8_strip_7 : decode cX8_strip 7 = .ok (.lconst 1, 1) := by decide +kernel
theorem dX8_strip_8 : decode cX8_strip 8 = .ok (.ldc2_w 96, 3) := by decide +kernel
theorem dX8_strip_11 : decode cX8_strip 11 = .ok (.invokestatic 86, 3) := by decide +kernel
theorem dX8_strip_14 : decode cX8_strip 14 = .ok (.ifCond .eq 27, 3) := by decide +kernel
theorem dX8_strip_17 : decode cX8_strip 17 = .ok (.iload_n 2, 1) := by decide +kernel
theorem dX8_strip_18 : decode cX8_strip 18 = .ok (.i2l, 1) := by decide +kernel
theorem dX8_strip_19 : decode cX8_strip 19 = .ok (.lconst 0, 1) := by decide +kernel
theorem dX8_strip_20 : decode cX8_strip 20 = .ok (.ldc2_w 96, 3) := by decide +kernel
theorem dX8_strip_23 : decode cX8_strip 23 = .ok (.invokestatic 86, 3) := by decide +kernel
theorem dX8_strip_26 : decode cX8_strip 26 = .ok (.ifCond .eq 15, 3) := by decide +kernel
theorem dX8_strip_29 : decode cX8_strip 29 = .ok (.iload_n 3, 1) := by decide +kernel
theorem dX8_strip_30 : decode cX8_strip 30 = .ok (.i2l, 1) := by decide +kernel
theorem dX8_strip_31 : decode cX8_strip 31 = .ok (.lconst 0, 1) := by decide +kernel
theorem dX8_strip_32 : decode cX8_strip 32 = .ok (.ldc2_w 119, 3) := by decide +kernel
theorem dX8_strip_35 : decode cX8_strip 35 = .ok (.invokestatic 86, 3) := by decide +kernel
theorem dX8_strip_38 : decode cX8_strip 38 = .ok (.ifCond .ne 9, 3) := by decide +kernel
theorem dX8_strip_41 : decode cX8_strip 41 = .ok (.aload_n 0, 1) := by decide +kernel
theorem dX8_strip_42 : decode cX8_strip 42 = .ok (.iconst (-1), 1) := by decide +kernel
theorem dX8_strip_43 : decode cX8_strip 43 = .ok (.invokevirtual 101, 3) := by decide +kernel
theorem dX8_strip_46 : decode cX8_strip 46 = .ok (.ireturn, 1) := by decide +kernel
theorem dX8_strip_47 : decode cX8_strip 47 = .ok (.aload_n 0, 1) := by decide +kernel
theorem dX8_strip_48 : decode cX8_strip 48 = .ok (.getfield 116, 3) := by decide +kernel
theorem dX8_strip_51 : decode cX8_strip 51 = .ok (.bipush 24, 2) := by decide +kernel
theorem dX8_strip_53 : decode cX8_strip 53 = .ok (.if_icmp .ne 10, 3) := by decide +kernel
theorem dX8_strip_56 : decode cX8_strip 56 = .ok (.aload_n 0, 1) := by decide +kernel
theorem dX8_strip_57 : decode cX8_strip 57 = .ok (.bipush (-5), 2) := by decide +kernel
theorem dX8_strip_59 : decode cX8_strip 59 = .ok (.invokevirtual 101, 3) := by decide +kernel
theorem dX8_strip_62 : decode cX8_strip 62 = .ok (.ireturn, 1) := by decide +kernel
theorem dX8_strip_63 : decode cX8_strip 63 = .ok (.aload_n 0, 1) := by decide +kernel
theorem dX8_strip_64 : decode cX8_strip 64 = .ok (.getfield 22, 3) := by decide +kernel
theorem dX8_strip_67 : decode cX8_strip 67 = .ok (.aload_n 0, 1) := by decide +kernel
theorem dX8_strip_68 : decode cX8_strip 68 = .ok (.getfield 116, 3) := by decide +kernel
theorem dX8_strip_71 : decode cX8_strip 71 = .ok (.iload_n 1, 1) := by decide +kernel
theorem dX8_strip_72 : decode cX8_strip 72 = .ok (.iastore, 1) := by decide +kernel
theorem dX8_strip_73 : decode cX8_strip 73 = .ok (.aload_n 0, 1) := by decide +kernel
theorem dX8_strip_74 : decode cX8_strip 74 = .ok (.getfield 25, 3) := by decide +kernel
theorem dX8_strip_77 : decode cX8_strip 77 = .ok (.aload_n 0, 1) := by decide +kernel
theorem dX8_strip_78 : decode cX8_strip 78 = .ok (.getfield 116, 3) := by decide +kernel
theorem dX8_strip_81 : decode cX8_strip 81 = .ok (.iload_n 1, 1) := by decide +kernel
theorem dX8_strip_82 : decode cX8_strip 82 = .ok (.iastore, 1) := by decide +kernel
theorem dX8_strip_83 : decode cX8_strip 83 = .ok (.aload_n 0, 1) := by decide +kernel
theorem dX8_strip_84 : decode cX8_strip 84 = .ok (.getfield 28, 3) := by decide +kernel
theorem dX8_strip_87 : decode cX8_strip 87 = .ok (.aload_n 0, 1) := by decide +kernel
theorem dX8_strip_88 : decode cX8_strip 88 = .ok (.getfield 116, 3) := by decide +kernel
theorem dX8_strip_91 : decode cX8_strip 91 = .ok (.iload_n 2, 1) := by decide +kernel
theorem dX8_strip_92 : decode cX8_strip 92 = .ok (.iastore, 1) := by decide +kernel
theorem dX8_strip_93 : decode cX8_strip 93 = .ok (.aload_n 0, 1) := by decide +kernel
theorem dX8_strip_94 : decode cX8_strip 94 = .ok (.getfield 31, 3) := by decide +kernel
theorem dX8_strip_97 : decode cX8_strip 97 = .ok (.aload_n 0, 1) := by decide +kernel
theorem dX8_strip_98 : decode cX8_strip 98 = .ok (.getfield 116, 3) := by decide +kernel
theorem dX8_strip_101 : decode cX8_strip 101 = .ok (.iload_n 3, 1) := by decide +kernel
theorem dX8_strip_102 : decode cX8_strip 102 = .ok (.iastore, 1) := by decide +kernel
theorem dX8_strip_103 : decode cX8_strip 103 = .ok (.aload_n 0, 1) := by decide +kernel
theorem dX8_strip_104 : decode cX8_strip 104 = .ok (.dup, 1) := by decide +kernel
theorem dX8_strip_105 : decode cX8_strip 105 = .ok (.getfield 116, 3) := by decide +kernel
theorem dX8_strip_108 : decode cX8_strip 108 = .ok (.iconst 1, 1) := by decide +kernel
theorem dX8_strip_109 : decode cX8_strip 109 = .ok (.iadd, 1) := by decide +kernel
theorem dX8_strip_110 : decode cX8_strip 110 = .ok (.putfield 116, 3) := by decide +kernel
theorem dX8_strip_113 : decode cX8_strip 113 = .ok (.aload_n 0, 1) := by decide +kernel
theorem dX8_strip_114 : decode cX8_strip 114 = .ok (.aload_n 0, 1) := by decide +kernel
theorem dX8_strip_115 : decode cX8_strip 115 = .ok (.getfield 116, 3) := by decide +kernel
theorem dX8_strip_118 : decode cX8_strip 118 = .ok (.iconst 1, 1) := by decide +kernel
theorem dX8_strip_119 : decode cX8_strip 119 = .ok (.isub, 1) := by decide +kernel
theorem dX8_strip_120 : decode cX8_strip 120 = .ok (.invokevirtual 101, 3) := by decide +kernel
theorem dX8_strip_123 : decode cX8_strip 123 = .ok (.ireturn, 1) := by decide +kernel
theorem dX8_of_0 : decode cX8_of 0 = .ok (.aload_n 0, 1) := by decide +kernel
theorem dX8_of_1 : decode cX8_of 1 = .ok (.iconst 0, 1) := by decide +kernel
theorem dX8_of_2 : decode cX8_of 2 = .ok (.putfield 78, 3) := by decide +kernel
theorem dX8_of_5 : decode cX8_of 5 = .ok (.aload_n 0, 1) := by decide +kernel
theorem dX8_of_6 : decode cX8_of 6 = .ok (.iload_n 1, 1) := by decide +kernel
theorem dX8_of_7 : decode cX8_of 7 = .ok (.invokevirtual 121, 3) := by decide +kernel
theorem dX8_of_10 : decode cX8_of 10 = .ok (.ifCond .ne 5, 3) := by decide +kernel
theorem dX8_of_13 : decode cX8_of 13 = .ok (.iconst (-1), 1) := by decide +kernel
theorem dX8_of_14 : decode cX8_of 14 = .ok (.ireturn, 1) := by decide +kernel
theorem dX8_of_15 : decode cX8_of 15 = .ok (.iload_n 2, 1) := by decide +kernel
theorem dX8_of_16 : decode cX8_of 16 = .ok (.ifCond .ne 12, 3) := by decide +kernel
theorem dX8_of_19 : decode cX8_of 19 = .ok (.aload_n 0, 1) := by decide +kernel
theorem dX8_of_20 : decode cX8_of 20 = .ok (.getfield 25, 3) := by decide +kernel
theorem dX8_of_23 : decode cX8_of 23 = .ok (.iload_n 1, 1) := by decide +kernel
theorem dX8_of_24 : decode cX8_of 24 = .ok (.iaload, 1) := by decide +kernel
theorem dX8_of_25 : decode cX8_of 25 = .ok (.goto 46, 3) := by decide +kernel
theorem dX8_of_28 : decode cX8_of 28 = .ok (.iload_n 2, 1) := by decide +kernel
theorem dX8_of_29 : decode cX8_of 29 = .ok (.iconst 1, 1) := by decide +kernel
theorem dX8_of_30 : decode cX8_of 30 = .ok (.if_icmp .ne 12, 3) := by decide +kernel
theorem dX8_of_33 : decode cX8_of 33 = .ok (.aload_n 0, 1) := by decide +kernel
theorem dX8_of_34 : decode cX8_of 34 = .ok (.getfield 22, 3) := by decide +kernel
theorem dX8_of_37 : decode cX8_of 37 = .ok (.iload_n 1, 1) := by decide +kernel
theorem dX8_of_38 : decode cX8_of 38 = .ok (.iaload, 1) := by decide +kernel
theorem dX8_of_39 : decode cX8_of 39 = .ok (.goto 32, 3) := by decide +kernel
theorem dX8_of_42 : decode cX8_of 42 = .ok (.iload_n 2, 1) := by decide +kernel
theorem dX8_of_43 : decode cX8_of 43 = .ok (.iconst 2, 1) := by decide +kernel
theorem dX8_of_44 : decode cX8_of 44 = .ok (.if_icmp .ne 12, 3) := by decide +kernel
theorem dX8_of_47 : decode cX8_of 47 = .ok (.aload_n 0, 1) := by decide +kernel
theorem dX8_of_48 : decode cX8_of 48 = .ok (.getfield 28, 3) := by decide +kernel
theorem dX8_of_51 : decode cX8_of 51 = .ok (.iload_n 1, 1) := by decide +kernel
theorem dX8_of_52 : decode cX8_of 52 = .ok (.iaload, 1) := by decide +kernel
theorem dX8_of_53 : decode cX8_of 53 = .ok (.goto 18, 3) := by decide +kernel
theorem dX8_of_56 : decode cX8_of 56 = .ok (.iload_n 2, 1) := by decide +kernel
theorem dX8_of_57 : decode cX8_of 57 = .ok (.iconst 3, 1) := by decide +kernel
theorem dX8_of_58 : decode cX8_of 58 = .ok (.if_icmp .ne 12, 3) := by decide +kernel
theorem dX8_of_61 : decode cX8_of 61 = .ok (.aload_n 0, 1) := by decide +kernel
theorem dX8_of_62 : decode cX8_of 62 = .ok (.getfield 31, 3) := by decide +kernel
theorem dX8_of_65 : decode cX8_of 65 = .ok (.iload_n 1, 1) := by decide +kernel
theorem dX8_of_66 : decode cX8_of 66 = .ok (.iaload, 1) := by decide +kernel
theorem dX8_of_67 : decode cX8_of 67 = .ok (.goto 4, 3) := by decide +kernel
theorem dX8_of_70 : decode cX8_of 70 = .ok (.iconst (-1), 1) := by decide +kernel
theorem dX8_of_71 : decode cX8_of 71 = .ok (.ireturn, 1) := by decide +kernel
theorem dX8_lose_0 : decode cX8_lose 0 = .ok (.aload_n 0, 1) := by decide +kernel
theorem dX8_lose_1 : decode cX8_lose 1 = .ok (.iconst 0, 1) := by decide +kernel
theorem dX8_lose_2 : decode cX8_lose 2 = .ok (.putfield 78, 3) := by decide +kernel
theorem dX8_lose_5 : decode cX8_lose 5 = .ok (.aload_n 0, 1) := by decide +kernel
theorem dX8_lose_6 : decode cX8_lose 6 = .ok (.iload_n 1, 1) := by decide +kernel
theorem dX8_lose_7 : decode cX8_lose 7 = .ok (.invokevirtual 124, 3) := by decide +kernel
theorem dX8_lose_10 : decode cX8_lose 10 = .ok (.ifCond .ne 10, 3) := by decide +kernel
theorem dX8_lose_13 : decode cX8_lose 13 = .ok (.aload_n 0, 1) := by decide +kernel
theorem dX8_lose_14 : decode cX8_lose 14 = .ok (.bipush (-2), 2) := by decide +kernel
theorem dX8_lose_16 : decode cX8_lose 16 = .ok (.invokevirtual 101, 3) := by decide +kernel
theorem dX8_lose_19 : decode cX8_lose 19 = .ok (.ireturn, 1) := by decide +kernel
theorem dX8_lose_20 : decode cX8_lose 20 = .ok (.iload_n 1, 1) := by decide +kernel
theorem dX8_lose_21 : decode cX8_lose 21 = .ok (.ifCond .eq 20, 3) := by decide +kernel
theorem dX8_lose_24 : decode cX8_lose 24 = .ok (.iload_n 1, 1) := by decide +kernel
theorem dX8_lose_25 : decode cX8_lose 25 = .ok (.aload_n 0, 1) := by decide +kernel
theorem dX8_lose_26 : decode cX8_lose 26 = .ok (.getfield 116, 3) := by decide +kernel
theorem dX8_lose_29 : decode cX8_lose 29 = .ok (.if_icmp .eq 12, 3) := by decide +kernel
theorem dX8_lose_32 : decode cX8_lose 32 = .ok (.aload_n 0, 1) := by decide +kernel
theorem dX8_lose_33 : decode cX8_lose 33 = .ok (.getfield 34, 3) := by decide +kernel
theorem dX8_lose_36 : decode cX8_lose 36 = .ok (.iload_n 1, 1) := by decide +kernel
theorem dX8_lose_37 : decode cX8_lose 37 = .ok (.baload, 1) := by decide +kernel
theorem dX8_lose_38 : decode cX8_lose 38 = .ok (.ifCond .eq 10, 3) := by decide +kernel
theorem dX8_lose_41 : decode cX8_lose 41 = .ok (.aload_n 0, 1) := by decide +kernel
theorem dX8_lose_42 : decode cX8_lose 42 = .ok (.bipush (-3), 2) := by decide +kernel
theorem dX8_lose_44 : decode cX8_lose 44 = .ok (.invokevirtual 101, 3) := by decide +kernel
theorem dX8_lose_47 : decode cX8_lose 47 = .ok (.ireturn, 1) := by decide +kernel
theorem dX8_lose_48 : decode cX8_lose 48 = .ok (.aload_n 0, 1) := by decide +kernel
theorem dX8_lose_49 : decode cX8_lose 49 = .ok (.getfield 34, 3) := by decide +kernel
theorem dX8_lose_52 : decode cX8_lose 52 = .ok (.iload_n 1, 1) := by decide +kernel
theorem dX8_lose_53 : decode cX8_lose 53 = .ok (.iconst 1, 1) := by decide +kernel
theorem dX8_lose_54 : decode cX8_lose 54 = .ok (.bastore, 1) := by decide +kernel
theorem dX8_lose_55 : decode cX8_lose 55 = .ok (.aload_n 0, 1) := by decide +kernel
theorem dX8_lose_56 : decode cX8_lose 56 = .ok (.iconst 0, 1) := by decide +kernel
theorem dX8_lose_57 : decode cX8_lose 57 = .ok (.invokevirtual 101, 3) := by decide +kernel
theorem dX8_lose_60 : decode cX8_lose 60 = .ok (.ireturn, 1) := by decide +kernel
theorem dX8_draw_0 : decode cX8_draw 0 = .ok (.aload_n 0, 1) := by decide +kernel
theorem dX8_draw_1 : decode cX8_draw 1 = .ok (.iconst 0, 1) := by decide +kernel
theorem dX8_draw_2 : decode cX8_draw 2 = .ok (.putfield 78, 3) := by decide +kernel
theorem dX8_draw_5 : decode cX8_draw 5 = .ok (.iload_n 2, 1) := by decide +kernel
theorem dX8_draw_6 : decode cX8_draw 6 = .ok (.iload_n 1, 1) := by decide +kernel
theorem dX8_draw_7 : decode cX8_draw 7 = .ok (.if_icmp .le 15, 3) := by decide +kernel
theorem dX8_draw_10 : decode cX8_draw 10 = .ok (.iload_n 3, 1) := by decide +kernel
theorem dX8_draw_11 : decode cX8_draw 11 = .ok (.i2l, 1) := by decide +kernel
theorem dX8_draw_12 : decode cX8_draw 12 = .ok (.lconst 0, 1) := by decide +kernel
theorem dX8_draw_13 : decode cX8_draw 13 = .ok (.ldc2_w 127, 3) := by decide +kernel
theorem dX8_draw_16 : decode cX8_draw 16 = .ok (.invokestatic 86, 3) := by decide +kernel
theorem dX8_draw_19 : decode cX8_draw 19 = .ok (.ifCond .ne 9, 3) := by decide +kernel
theorem dX8_draw_22 : decode cX8_draw 22 = .ok (.aload_n 0, 1) := by decide +kernel
theorem dX8_draw_23 : decode cX8_draw 23 = .ok (.iconst (-1), 1) := by decide +kernel
theorem dX8_draw_24 : decode cX8_draw 24 = .ok (.invokevirtual 101, 3) := by decide +kernel
theorem dX8_draw_27 : decode cX8_draw 27 = .ok (.ireturn, 1) := by decide +kernel
theorem dX8_draw_28 : decode cX8_draw 28 = .ok (.aload_n 0, 1) := by decide +kernel
theorem dX8_draw_29 : decode cX8_draw 29 = .ok (.iload_n 1, 1) := by decide +kernel
theorem dX8_draw_30 : decode cX8_draw 30 = .ok (.invokevirtual 124, 3) := by decide +kernel
theorem dX8_draw_33 : decode cX8_draw 33 = .ok (.ifCond .eq 11, 3) := by decide +kernel
theorem dX8_draw_36 : decode cX8_draw 36 = .ok (.aload_n 0, 1) := by decide +kernel
theorem dX8_draw_37 : decode cX8_draw 37 = .ok (.iload_n 2, 1) := by decide +kernel
theorem dX8_draw_38 : decode cX8_draw 38 = .ok (.invokevirtual 124, 3) := by decide +kernel
theorem dX8_draw_41 : decode cX8_draw 41 = .ok (.ifCond .ne 10, 3) := by decide +kernel
theorem dX8_draw_44 : decode cX8_draw 44 = .ok (.aload_n 0, 1) := by decide +kernel
theorem dX8_draw_45 : decode cX8_draw 45 = .ok (.bipush (-2), 2) := by decide +kernel
theorem dX8_draw_47 : decode cX8_draw 47 = .ok (.invokevirtual 101, 3) := by decide +kernel
theorem dX8_draw_50 : decode cX8_draw 50 = .ok (.ireturn, 1) := by decide +kernel
theorem dX8_draw_51 : decode cX8_draw 51 = .ok (.aload_n 0, 1) := by decide +kernel
theorem dX8_draw_52 : decode cX8_draw 52 = .ok (.getfield 34, 3) := by decide +kernel
theorem dX8_draw_55 : decode cX8_draw 55 = .ok (.iload_n 1, 1) := by decide +kernel
theorem dX8_draw_56 : decode cX8_draw 56 = .ok (.baload, 1) := by decide +kernel
theorem dX8_draw_57 : decode cX8_draw 57 = .ok (.ifCond .ne 16, 3) := by decide +kernel
theorem dX8_draw_60 : decode cX8_draw 60 = .ok (.aload_n 0, 1) := by decide +kernel
theorem dX8_draw_61 : decode cX8_draw 61 = .ok (.getfield 34, 3) := by decide +kernel
theorem dX8_draw_64 : decode cX8_draw 64 = .ok (.iload_n 2, 1) := by decide +kernel
theorem dX8_draw_65 : decode cX8_draw 65 = .ok (.baload, 1) := by decide +kernel
theorem dX8_draw_66 : decode cX8_draw 66 = .ok (.ifCond .ne 7, 3) := by decide +kernel
theorem dX8_draw_69 : decode cX8_draw 69 = .ok (.iconst 1, 1) := by decide +kernel
theorem dX8_draw_70 : decode cX8_draw 70 = .ok (.goto 4, 3) := by decide +kernel
theorem dX8_draw_73 : decode cX8_draw 73 = .ok (.iconst 0, 1) := by decide +kernel
theorem dX8_draw_74 : decode cX8_draw 74 = .ok (.istore 4, 2) := by decide +kernel
theorem dX8_draw_76 : decode cX8_draw 76 = .ok (.lconst 0, 1) := by decide +kernel
theorem dX8_draw_77 : decode cX8_draw 77 = .ok (.lstore 5, 2) := by decide +kernel
theorem dX8_draw_79 : decode cX8_draw 79 = .ok (.iload_n 1, 1) := by decide +kernel
theorem dX8_draw_80 : decode cX8_draw 80 = .ok (.istore 7, 2) := by decide +kernel
theorem dX8_draw_82 : decode cX8_draw 82 = .ok (.iload 7, 2) := by decide +kernel
theorem dX8_draw_84 : decode cX8_draw 84 = .ok (.iload_n 2, 1) := by decide +kernel
theorem dX8_draw_85 : decode cX8_draw 85 = .ok (.if_icmp .ge 50, 3) := by decide +kernel
theorem dX8_draw_88 : decode cX8_draw 88 = .ok (.iload 4, 2) := by decide +kernel
theorem dX8_draw_90 : decode cX8_draw 90 = .ok (.ifCond .eq 23, 3) := by decide +kernel
theorem dX8_draw_93 : decode cX8_draw 93 = .ok (.iload 7, 2) := by decide +kernel
theorem dX8_draw_95 : decode cX8_draw 95 = .ok (.iload_n 1, 1) := by decide +kernel
theorem dX8_draw_96 : decode cX8_draw 96 = .ok (.if_icmp .eq 13, 3) := by decide +kernel
theorem dX8_draw_99 : decode cX8_draw 99 = .ok (.aload_n 0, 1) := by decide +kernel
theorem dX8_draw_100 : decode cX8_draw 100 = .ok (.getfield 34, 3) := by decide +kernel
theorem dX8_draw_103 : decode cX8_draw 103 = .ok (.iload 7, 2) := by decide +kernel
theorem dX8_draw_105 : decode cX8_draw 105 = .ok (.baload, 1) := by decide +kernel
theorem dX8_draw_106 : decode cX8_draw 106 = .ok (.ifCond .eq 7, 3) := by decide +kernel
theorem dX8_draw_109 : decode cX8_draw 109 = .ok (.iconst 1, 1) := by decide +kernel
theorem dX8_draw_110 : decode cX8_draw 110 = .ok (.goto 4, 3) := by decide +kernel
theorem dX8_draw_113 : decode cX8_draw 113 = .ok (.iconst 0, 1) := by decide +kernel
theorem dX8_draw_114 : decode cX8_draw 114 = .ok (.istore 4, 2) := by decide +kernel
theorem dX8_draw_116 : decode cX8_draw 116 = .ok (.lload 5, 2) := by decide +kernel
theorem dX8_draw_118 : decode cX8_draw 118 = .ok (.aload_n 0, 1) := by decide +kernel
theorem dX8_draw_119 : decode cX8_draw 119 = .ok (.getfield 22, 3) := by decide +kernel
theorem dX8_draw_122 : decode cX8_draw 122 = .ok (.iload 7, 2) := by decide +kernel
theorem dX8_draw_124 : decode cX8_draw 124 = .ok (.iaload, 1) := by decide +kernel
theorem dX8_draw_125 : decode cX8_draw 125 = .ok (.i2l, 1) := by decide +kernel
theorem dX8_draw_126 : decode cX8_draw 126 = .ok (.ladd, 1) := by decide +kernel
theorem dX8_draw_127 : decode cX8_draw 127 = .ok (.lstore 5, 2) := by decide +kernel
theorem dX8_draw_129 : decode cX8_draw 129 = .ok (.iinc 7 1, 3) := by decide +kernel
theorem dX8_draw_132 : decode cX8_draw 132 = .ok (.goto (-50), 3) := by decide +kernel
theorem dX8_draw_135 : decode cX8_draw 135 = .ok (.iload 4, 2) := by decide +kernel
theorem dX8_draw_137 : decode cX8_draw 137 = .ok (.ifCond .ne 10, 3) := by decide +kernel
theorem dX8_draw_140 : decode cX8_draw 140 = .ok (.aload_n 0, 1) := by decide +kernel
theorem dX8_draw_141 : decode cX8_draw 141 = .ok (.bipush (-3), 2) := by decide +kernel
theorem dX8_draw_143 : decode cX8_draw 143 = .ok (.invokevirtual 101, 3) := by decide +kernel
theorem dX8_draw_146 : decode cX8_draw 146 = .ok (.ireturn, 1) := by decide +kernel
theorem dX8_draw_147 : decode cX8_draw 147 = .ok (.iload_n 3, 1) := by decide +kernel
theorem dX8_draw_148 : decode cX8_draw 148 = .ok (.i2l, 1) := by decide +kernel
theorem dX8_draw_149 : decode cX8_draw 149 = .ok (.lstore 7, 2) := by decide +kernel
theorem dX8_draw_151 : decode cX8_draw 151 = .ok (.iload_n 1, 1) := by decide +kernel
theorem dX8_draw_152 : decode cX8_draw 152 = .ok (.istore 9, 2) := by decide +kernel
theorem dX8_draw_154 : decode cX8_draw 154 = .ok (.iload 9, 2) := by decide +kernel
theorem dX8_draw_156 : decode cX8_draw 156 = .ok (.iload_n 2, 1) := by decide +kernel
theorem dX8_draw_157 : decode cX8_draw 157 = .ok (.if_icmp .ge 44, 3) := by decide +kernel
theorem dX8_draw_160 : decode cX8_draw 160 = .ok (.aload_n 0, 1) := by decide +kernel
theorem dX8_draw_161 : decode cX8_draw 161 = .ok (.getfield 25, 3) := by decide +kernel
theorem dX8_draw_164 : decode cX8_draw 164 = .ok (.iload 9, 2) := by decide +kernel
theorem dX8_draw_166 : decode cX8_draw 166 = .ok (.iload_n 3, 1) := by decide +kernel
theorem dX8_draw_167 : decode cX8_draw 167 = .ok (.i2l, 1) := by decide +kernel
theorem dX8_draw_168 : decode cX8_draw 168 = .ok (.aload_n 0, 1) := by decide +kernel
theorem dX8_draw_169 : decode cX8_draw 169 = .ok (.getfield 22, 3) := by decide +kernel
theorem dX8_draw_172 : decode cX8_draw 172 = .ok (.iload 9, 2) := by decide +kernel
theorem dX8_draw_174 : decode cX8_draw 174 = .ok (.iaload, 1) := by decide +kernel
theorem dX8_draw_175 : decode cX8_draw 175 = .ok (.i2l, 1) := by decide +kernel
theorem dX8_draw_176 : decode cX8_draw 176 = .ok (.lmul, 1) := by decide +kernel
theorem dX8_draw_177 : decode cX8_draw 177 = .ok (.lload 5, 2) := by decide +kernel
theorem dX8_draw_179 : decode cX8_draw 179 = .ok (.ldiv, 1) := by decide +kernel
theorem dX8_draw_180 : decode cX8_draw 180 = .ok (.l2i, 1) := by decide +kernel
theorem dX8_draw_181 : decode cX8_draw 181 = .ok (.iastore, 1) := by decide +kernel
theorem dX8_draw_182 : decode cX8_draw 182 = .ok (.lload 7, 2) := by decide +kernel
theorem dX8_draw_184 : decode cX8_draw 184 = .ok (.aload_n 0, 1) := by decide +kernel
theorem dX8_draw_185 : decode cX8_draw 185 = .ok (.getfield 25, 3) := by decide +kernel
theorem dX8_draw_188 : decode cX8_draw 188 = .ok (.iload 9, 2) := by decide +kernel
theorem dX8_draw_190 : decode cX8_draw 190 = .ok (.iaload, 1) := by decide +kernel
theorem dX8_draw_191 : decode cX8_draw 191 = .ok (.i2l, 1) := by decide +kernel
theorem dX8_draw_192 : decode cX8_draw 192 = .ok (.lsub, 1) := by decide +kernel
theorem dX8_draw_193 : decode cX8_draw 193 = .ok (.lstore 7, 2) := by decide +kernel
theorem dX8_draw_195 : decode cX8_draw 195 = .ok (.iinc 9 1, 3) := by decide +kernel
theorem dX8_draw_198 : decode cX8_draw 198 = .ok (.goto (-44), 3) := by decide +kernel
theorem dX8_draw_201 : decode cX8_draw 201 = .ok (.iload_n 1, 1) := by decide +kernel
theorem dX8_draw_202 : decode cX8_draw 202 = .ok (.istore 9, 2) := by decide +kernel
theorem dX8_draw_204 : decode cX8_draw 204 = .ok (.iload 9, 2) := by decide +kernel
theorem dX8_draw_206 : decode cX8_draw 206 = .ok (.iload_n 2, 1) := by decide +kernel
theorem dX8_draw_207 : decode cX8_draw 207 = .ok (.if_icmp .ge 124, 3) := by decide +kernel
theorem dX8_draw_210 : decode cX8_draw 210 = .ok (.iload_n 3, 1) := by decide +kernel
theorem dX8_draw_211 : decode cX8_draw 211 = .ok (.i2l, 1) := by decide +kernel
theorem dX8_draw_212 : decode cX8_draw 212 = .ok (.aload_n 0, 1) := by decide +kernel
theorem dX8_draw_213 : decode cX8_draw 213 = .ok (.getfield 22, 3) := by decide +kernel
theorem dX8_draw_216 : decode cX8_draw 216 = .ok (.iload 9, 2) := by decide +kernel
theorem dX8_draw_218 : decode cX8_draw 218 = .ok (.iaload, 1) := by decide +kernel
theorem dX8_draw_219 : decode cX8_draw 219 = .ok (.i2l, 1) := by decide +kernel
theorem dX8_draw_220 : decode cX8_draw 220 = .ok (.lmul, 1) := by decide +kernel
theorem dX8_draw_221 : decode cX8_draw 221 = .ok (.lload 5, 2) := by decide +kernel
theorem dX8_draw_223 : decode cX8_draw 223 = .ok (.lrem, 1) := by decide +kernel
theorem dX8_draw_224 : decode cX8_draw 224 = .ok (.lstore 10, 2) := by decide +kernel
theorem dX8_draw_226 : decode cX8_draw 226 = .ok (.iconst 0, 1) := by decide +kernel
theorem dX8_draw_227 : decode cX8_draw 227 = .ok (.istore 12, 2) := by decide +kernel
theorem dX8_draw_229 : decode cX8_draw 229 = .ok (.iload_n 1, 1) := by decide +kernel
theorem dX8_draw_230 : decode cX8_draw 230 = .ok (.istore 13, 2) := by decide +kernel
theorem dX8_draw_232 : decode cX8_draw 232 = .ok (.iload 13, 2) := by decide +kernel
theorem dX8_draw_234 : decode cX8_draw 234 = .ok (.iload_n 2, 1) := by decide +kernel
theorem dX8_draw_235 : decode cX8_draw 235 = .ok (.if_icmp .ge 58, 3) := by decide +kernel
theorem dX8_draw_238 : decode cX8_draw 238 = .ok (.iload_n 3, 1) := by decide +kernel
theorem dX8_draw_239 : decode cX8_draw 239 = .ok (.i2l, 1) := by decide +kernel
theorem dX8_draw_240 : decode cX8_draw 240 = .ok (.aload_n 0, 1) := by decide +kernel
theorem dX8_draw_241 : decode cX8_draw 241 = .ok (.getfield 22, 3) := by decide +kernel
theorem dX8_draw_244 : decode cX8_draw 244 = .ok (.iload 13, 2) := by decide +kernel
theorem dX8_draw_246 : decode cX8_draw 246 = .ok (.iaload, 1) := by decide +kernel
theorem dX8_draw_247 : decode cX8_draw 247 = .ok (.i2l, 1) := by decide +kernel
theorem dX8_draw_248 : decode cX8_draw 248 = .ok (.lmul, 1) := by decide +kernel
theorem dX8_draw_249 : decode cX8_draw 249 = .ok (.lload 5, 2) := by decide +kernel
theorem dX8_draw_251 : decode cX8_draw 251 = .ok (.lrem, 1) := by decide +kernel
theorem dX8_draw_252 : decode cX8_draw 252 = .ok (.lstore 14, 2) := by decide +kernel
theorem dX8_draw_254 : decode cX8_draw 254 = .ok (.iload 12, 2) := by decide +kernel
theorem dX8_draw_256 : decode cX8_draw 256 = .ok (.lload 14, 2) := by decide +kernel
theorem dX8_draw_258 : decode cX8_draw 258 = .ok (.lload 10, 2) := by decide +kernel
theorem dX8_draw_260 : decode cX8_draw 260 = .ok (.lcmp, 1) := by decide +kernel
theorem dX8_draw_261 : decode cX8_draw 261 = .ok (.ifCond .gt 18, 3) := by decide +kernel
theorem dX8_draw_264 : decode cX8_draw 264 = .ok (.lload 14, 2) := by decide +kernel
theorem dX8_draw_266 : decode cX8_draw 266 = .ok (.lload 10, 2) := by decide +kernel
theorem dX8_draw_268 : decode cX8_draw 268 = .ok (.lcmp, 1) := by decide +kernel
theorem dX8_draw_269 : decode cX8_draw 269 = .ok (.ifCond .ne 14, 3) := by decide +kernel
theorem dX8_draw_272 : decode cX8_draw 272 = .ok (.iload 13, 2) := by decide +kernel
theorem dX8_draw_274 : decode cX8_draw 274 = .ok (.iload 9, 2) := by decide +kernel
theorem dX8_draw_276 : decode cX8_draw 276 = .ok (.if_icmp .ge 7, 3) := by decide +kernel
theorem dX8_draw_279 : decode cX8_draw 279 = .ok (.iconst 1, 1) := by decide +kernel
theorem dX8_draw_280 : decode cX8_draw 280 = .ok (.goto 4, 3) := by decide +kernel
theorem dX8_draw_283 : decode cX8_draw 283 = .ok (.iconst 0, 1) := by decide +kernel
theorem dX8_draw_284 : decode cX8_draw 284 = .ok (.iadd, 1) := by decide +kernel
theorem dX8_draw_285 : decode cX8_draw 285 = .ok (.istore 12, 2) := by decide +kernel
theorem dX8_draw_287 : decode cX8_draw 287 = .ok (.iinc 13 1, 3) := by decide +kernel
theorem dX8_draw_290 : decode cX8_draw 290 = .ok (.goto (-58), 3) := by decide +kernel
theorem dX8_draw_293 : decode cX8_draw 293 = .ok (.aload_n 0, 1) := by decide +kernel
theorem dX8_draw_294 : decode cX8_draw 294 = .ok (.getfield 25, 3) := by decide +kernel
theorem dX8_draw_297 : decode cX8_draw 297 = .ok (.iload 9, 2) := by decide +kernel
theorem dX8_draw_299 : decode cX8_draw 299 = .ok (.dup2, 1) := by decide +kernel
theorem dX8_draw_300 : decode cX8_draw 300 = .ok (.iaload, 1) := by decide +kernel
theorem dX8_draw_301 : decode cX8_draw 301 = .ok (.iload 12, 2) := by decide +kernel
theorem dX8_draw_303 : decode cX8_draw 303 = .ok (.i2l, 1) := by decide +kernel
theorem dX8_draw_304 : decode cX8_draw 304 = .ok (.lload 7, 2) := by decide +kernel
theorem dX8_draw_306 : decode cX8_draw 306 = .ok (.lcmp, 1) := by decide +kernel
theorem dX8_draw_307 : decode cX8_draw 307 = .ok (.ifCond .ge 7, 3) := by decide +kernel
theorem dX8_draw_310 : decode cX8_draw 310 = .ok (.iconst 1, 1) := by decide +kernel
theorem dX8_draw_311 : decode cX8_draw 311 = .ok (.goto 4, 3) := by decide +kernel
theorem dX8_draw_314 : decode cX8_draw 314 = .ok (.iconst 0, 1) := by decide +kernel
theorem dX8_draw_315 : decode cX8_draw 315 = .ok (.iadd, 1) := by decide +kernel
theorem dX8_draw_316 : decode cX8_draw 316 = .ok (.iastore, 1) := by decide +kernel
theorem dX8_draw_317 : decode cX8_draw 317 = .ok (.aload_n 0, 1) := by decide +kernel
theorem dX8_draw_318 : decode cX8_draw 318 = .ok (.getfield 34, 3) := by decide +kernel
theorem dX8_draw_321 : decode cX8_draw 321 = .ok (.iload 9, 2) := by decide +kernel
theorem dX8_draw_323 : decode cX8_draw 323 = .ok (.iconst 0, 1) := by decide +kernel
theorem dX8_draw_324 : decode cX8_draw 324 = .ok (.bastore, 1) := by decide +kernel
theorem dX8_draw_325 : decode cX8_draw 325 = .ok (.iinc 9 1, 3) := by decide +kernel
theorem dX8_draw_328 : decode cX8_draw 328 = .ok (.goto (-124), 3) := by decide +kernel
theorem dX8_draw_331 : decode cX8_draw 331 = .ok (.aload_n 0, 1) := by decide +kernel
theorem dX8_draw_332 : decode cX8_draw 332 = .ok (.iload_n 2, 1) := by decide +kernel
theorem dX8_draw_333 : decode cX8_draw 333 = .ok (.iload_n 1, 1) := by decide +kernel
theorem dX8_draw_334 : decode cX8_draw 334 = .ok (.isub, 1) := by decide +kernel
theorem dX8_draw_335 : decode cX8_draw 335 = .ok (.iconst 1, 1) := by decide +kernel
theorem dX8_draw_336 : decode cX8_draw 336 = .ok (.isub, 1) := by decide +kernel
theorem dX8_draw_337 : decode cX8_draw 337 = .ok (.invokevirtual 101, 3) := by decide +kernel
theorem dX8_draw_340 : decode cX8_draw 340 = .ok (.ireturn, 1) := by decide +kernel
theorem dX8_stands_0 : decode cX8_stands 0 = .ok (.aload_n 0, 1) := by decide +kernel
theorem dX8_stands_1 : decode cX8_stands 1 = .ok (.iconst 0, 1) := by decide +kernel
theorem dX8_stands_2 : decode cX8_stands 2 = .ok (.putfield 78, 3) := by decide +kernel
theorem dX8_stands_5 : decode cX8_stands 5 = .ok (.aload_n 0, 1) := by decide +kernel
theorem dX8_stands_6 : decode cX8_stands 6 = .ok (.iload_n 1, 1) := by decide +kernel
theorem dX8_stands_7 : decode cX8_stands 7 = .ok (.invokevirtual 124, 3) := by decide +kernel
theorem dX8_stands_10 : decode cX8_stands 10 = .ok (.ifCond .eq 20, 3) := by decide +kernel
theorem dX8_stands_13 : decode cX8_stands 13 = .ok (.aload_n 0, 1) := by decide +kernel
theorem dX8_stands_14 : decode cX8_stands 14 = .ok (.getfield 34, 3) := by decide +kernel
theorem dX8_stands_17 : decode cX8_stands 17 = .ok (.iload_n 1, 1) := by decide +kernel
theorem dX8_stands_18 : decode cX8_stands 18 = .ok (.baload, 1) := by decide +kernel
theorem dX8_stands_19 : decode cX8_stands 19 = .ok (.ifCond .eq 7, 3) := by decide +kernel
theorem dX8_stands_22 : decode cX8_stands 22 = .ok (.iconst 0, 1) := by decide +kernel
theorem dX8_stands_23 : decode cX8_stands 23 = .ok (.goto 8, 3) := by decide +kernel
theorem dX8_stands_26 : decode cX8_stands 26 = .ok (.iconst 1, 1) := by decide +kernel
theorem dX8_stands_27 : decode cX8_stands 27 = .ok (.goto 4, 3) := by decide +kernel
theorem dX8_stands_30 : decode cX8_stands 30 = .ok (.iconst (-1), 1) := by decide +kernel
theorem dX8_stands_31 : decode cX8_stands 31 = .ok (.ireturn, 1) := by decide +kernel
theorem dX8_table_0 : decode cX8_table 0 = .ok (.aload_n 0, 1) := by decide +kernel
theorem dX8_table_1 : decode cX8_table 1 = .ok (.iconst 0, 1) := by decide +kernel
theorem dX8_table_2 : decode cX8_table 2 = .ok (.putfield 78, 3) := by decide +kernel
theorem dX8_table_5 : decode cX8_table 5 = .ok (.iload_n 1, 1) := by decide +kernel
theorem dX8_table_6 : decode cX8_table 6 = .ok (.i2l, 1) := by decide +kernel
theorem dX8_table_7 : decode cX8_table 7 = .ok (.lconst 0, 1) := by decide +kernel
theorem dX8_table_8 : decode cX8_table 8 = .ok (.ldc2_w 129, 3) := by decide +kernel
theorem dX8_table_11 : decode cX8_table 11 = .ok (.invokestatic 86, 3) := by decide +kernel
theorem dX8_table_14 : decode cX8_table 14 = .ok (.ifCond .eq 27, 3) := by decide +kernel
theorem dX8_table_17 : decode cX8_table 17 = .ok (.iload_n 2, 1) := by decide +kernel
theorem dX8_table_18 : decode cX8_table 18 = .ok (.i2l, 1) := by decide +kernel
theorem dX8_table_19 : decode cX8_table 19 = .ok (.lconst 0, 1) := by decide +kernel
theorem dX8_table_20 : decode cX8_table 20 = .ok (.ldc2_w 131, 3) := by decide +kernel
theorem dX8_table_23 : decode cX8_table 23 = .ok (.invokestatic 86, 3) := by decide +kernel
theorem dX8_table_26 : decode cX8_table 26 = .ok (.ifCond .eq 15, 3) := by decide +kernel
theorem dX8_table_29 : decode cX8_table 29 = .ok (.iload_n 3, 1) := by decide +kernel
theorem dX8_table_30 : decode cX8_table 30 = .ok (.i2l, 1) := by decide +kernel
theorem dX8_table_31 : decode cX8_table 31 = .ok (.lconst 0, 1) := by decide +kernel
theorem dX8_table_32 : decode cX8_table 32 = .ok (.ldc2_w 133, 3) := by decide +kernel
theorem dX8_table_35 : decode cX8_table 35 = .ok (.invokestatic 86, 3) := by decide +kernel
theorem dX8_table_38 : decode cX8_table 38 = .ok (.ifCond .ne 9, 3) := by decide +kernel
theorem dX8_table_41 : decode cX8_table 41 = .ok (.aload_n 0, 1) := by decide +kernel
theorem dX8_table_42 : decode cX8_table 42 = .ok (.iconst (-1), 1) := by decide +kernel
theorem dX8_table_43 : decode cX8_table 43 = .ok (.invokevirtual 101, 3) := by decide +kernel
theorem dX8_table_46 : decode cX8_table 46 = .ok (.ireturn, 1) := by decide +kernel
theorem dX8_table_47 : decode cX8_table 47 = .ok (.aload_n 0, 1) := by decide +kernel
theorem dX8_table_48 : decode cX8_table 48 = .ok (.getfield 38, 3) := by decide +kernel
theorem dX8_table_51 : decode cX8_table 51 = .ok (.iload_n 1, 1) := by decide +kernel
theorem dX8_table_52 : decode cX8_table 52 = .ok (.iload_n 2, 1) := by decide +kernel
theorem dX8_table_53 : decode cX8_table 53 = .ok (.iastore, 1) := by decide +kernel
theorem dX8_table_54 : decode cX8_table 54 = .ok (.aload_n 0, 1) := by decide +kernel
theorem dX8_table_55 : decode cX8_table 55 = .ok (.getfield 41, 3) := by decide +kernel
theorem dX8_table_58 : decode cX8_table 58 = .ok (.iload_n 1, 1) := by decide +kernel
theorem dX8_table_59 : decode cX8_table 59 = .ok (.iload_n 3, 1) := by decide +kernel
theorem dX8_table_60 : decode cX8_table 60 = .ok (.iastore, 1) := by decide +kernel
theorem dX8_table_61 : decode cX8_table 61 = .ok (.aload_n 0, 1) := by decide +kernel
theorem dX8_table_62 : decode cX8_table 62 = .ok (.iconst 0, 1) := by decide +kernel
theorem dX8_table_63 : decode cX8_table 63 = .ok (.invokevirtual 101, 3) := by decide +kernel
theorem dX8_table_66 : decode cX8_table 66 = .ok (.ireturn, 1) := by decide +kernel
theorem dX8_wetOf_0 : decode cX8_wetOf 0 = .ok (.iconst 0, 1) := by decide +kernel
theorem dX8_wetOf_1 : decode cX8_wetOf 1 = .ok (.istore_n 2, 1) := by decide +kernel
theorem dX8_wetOf_2 : decode cX8_wetOf 2 = .ok (.iconst 0, 1) := by decide +kernel
theorem dX8_wetOf_3 : decode cX8_wetOf 3 = .ok (.istore_n 3, 1) := by decide +kernel
theorem dX8_wetOf_4 : decode cX8_wetOf 4 = .ok (.iload_n 3, 1) := by decide +kernel
theorem dX8_wetOf_5 : decode cX8_wetOf 5 = .ok (.bipush 120, 2) := by decide +kernel
theorem dX8_wetOf_7 : decode cX8_wetOf 7 = .ok (.if_icmp .ge 32, 3) := by decide +kernel
theorem dX8_wetOf_10 : decode cX8_wetOf 10 = .ok (.iload_n 2, 1) := by decide +kernel
theorem dX8_wetOf_11 : decode cX8_wetOf 11 = .ok (.aload_n 0, 1) := by decide +kernel
theorem dX8_wetOf_12 : decode cX8_wetOf 12 = .ok (.getfield 19, 3) := by decide +kernel
theorem dX8_wetOf_15 : decode cX8_wetOf 15 = .ok (.iload_n 3, 1) := by decide +kernel
theorem dX8_wetOf_16 : decode cX8_wetOf 16 = .ok (.iaload, 1) := by decide +kernel
theorem dX8_wetOf_17 : decode cX8_wetOf 17 = .ok (.aload_n 0, 1) := by decide +kernel
theorem dX8_wetOf_18 : decode cX8_wetOf 18 = .ok (.getfield 28, 3) := by decide +kernel
theorem dX8_wetOf_21 : decode cX8_wetOf 21 = .ok (.iload_n 1, 1) := by decide +kernel
theorem dX8_wetOf_22 : decode cX8_wetOf 22 = .ok (.iaload, 1) := by decide +kernel
theorem dX8_wetOf_23 : decode cX8_wetOf 23 = .ok (.if_icmp .lt 7, 3) := by decide +kernel
theorem dX8_wetOf_26 : decode cX8_wetOf 26 = .ok (.iconst 1, 1) := by decide +kernel
theorem dX8_wetOf_27 : decode cX8_wetOf 27 = .ok (.goto 4, 3) := by decide +kernel
theorem dX8_wetOf_30 : decode cX8_wetOf 30 = .ok (.iconst 0, 1) := by decide +kernel
theorem dX8_wetOf_31 : decode cX8_wetOf 31 = .ok (.iadd, 1) := by decide +kernel
theorem dX8_wetOf_32 : decode cX8_wetOf 32 = .ok (.istore_n 2, 1) := by decide +kernel
theorem dX8_wetOf_33 : decode cX8_wetOf 33 = .ok (.iinc 3 1, 3) := by decide +kernel
theorem dX8_wetOf_36 : decode cX8_wetOf 36 = .ok (.goto (-32), 3) := by decide +kernel
theorem dX8_wetOf_39 : decode cX8_wetOf 39 = .ok (.iload_n 2, 1) := by decide +kernel
theorem dX8_wetOf_40 : decode cX8_wetOf 40 = .ok (.ireturn, 1) := by decide +kernel
theorem dX8_harvestOf_0 : decode cX8_harvestOf 0 = .ok (.aload_n 0, 1) := by decide +kernel
theorem dX8_harvestOf_1 : decode cX8_harvestOf 1 = .ok (.iload_n 1, 1) := by decide +kernel
theorem dX8_harvestOf_2 : decode cX8_harvestOf 2 = .ok (.invokevirtual 135, 3) := by decide +kernel
theorem dX8_harvestOf_5 : decode cX8_harvestOf 5 = .ok (.istore_n 2, 1) := by decide +kernel
theorem dX8_harvestOf_6 : decode cX8_harvestOf 6 = .ok (.iconst (-1), 1) := by decide +kernel
theorem dX8_harvestOf_7 : decode cX8_harvestOf 7 = .ok (.istore_n 3, 1) := by decide +kernel
theorem dX8_harvestOf_8 : decode cX8_harvestOf 8 = .ok (.iconst 0, 1) := by decide +kernel
theorem dX8_harvestOf_9 : decode cX8_harvestOf 9 = .ok (.istore 4, 2) := by decide +kernel
theorem dX8_harvestOf_11 : decode cX8_harvestOf 11 = .ok (.iload 4, 2) := by decide +kernel
theorem dX8_harvestOf_13 : decode cX8_harvestOf 13 = .ok (.bipush 8, 2) := by decide +kernel
theorem dX8_harvestOf_15 : decode cX8_harvestOf 15 = .ok (.if_icmp .ge 47, 3) := by decide +kernel
theorem dX8_harvestOf_18 : decode cX8_harvestOf 18 = .ok (.aload_n 0, 1) := by decide +kernel
theorem dX8_harvestOf_19 : decode cX8_harvestOf 19 = .ok (.getfield 38, 3) := by decide +kernel
theorem dX8_harvestOf_22 : decode cX8_harvestOf 22 = .ok (.iload 4, 2) := by decide +kernel
theorem dX8_harvestOf_24 : decode cX8_harvestOf 24 = .ok (.iaload, 1) := by decide +kernel
theorem dX8_harvestOf_25 : decode cX8_harvestOf 25 = .ok (.iload_n 2, 1) := by decide +kernel
theorem dX8_harvestOf_26 : decode cX8_harvestOf 26 = .ok (.if_icmp .gt 28, 3) := by decide +kernel
theorem dX8_harvestOf_29 : decode cX8_harvestOf 29 = .ok (.iload_n 3, 1) := by decide +kernel
theorem dX8_harvestOf_30 : decode cX8_harvestOf 30 = .ok (.ifCond .lt 19, 3) := by decide +kernel
theorem dX8_harvestOf_33 : decode cX8_harvestOf 33 = .ok (.aload_n 0, 1) := by decide +kernel
theorem dX8_harvestOf_34 : decode cX8_harvestOf 34 = .ok (.getfield 38, 3) := by decide +kernel
theorem dX8_harvestOf_37 : decode cX8_harvestOf 37 = .ok (.iload 4, 2) := by decide +kernel
theorem dX8_harvestOf_39 : decode cX8_harvestOf 39 = .ok (.iaload, 1) := by decide +kernel
theorem dX8_harvestOf_40 : decode cX8_harvestOf 40 = .ok (.aload_n 0, 1) := by decide +kernel
theorem dX8_harvestOf_41 : decode cX8_harvestOf 41 = .ok (.getfield 38, 3) := by decide +kernel
theorem dX8_harvestOf_44 : decode cX8_harvestOf 44 = .ok (.iload_n 3, 1) := by decide +kernel
theorem dX8_harvestOf_45 : decode cX8_harvestOf 45 = .ok (.iaload, 1) := by decide +kernel
theorem dX8_harvestOf_46 : decode cX8_harvestOf 46 = .ok (.if_icmp .lt 8, 3) := by decide +kernel
theorem dX8_harvestOf_49 : decode cX8_harvestOf 49 = .ok (.iload 4, 2) := by decide +kernel
theorem dX8_harvestOf_51 : decode cX8_harvestOf 51 = .ok (.goto 4, 3) := by decide +kernel
theorem dX8_harvestOf_54 : decode cX8_harvestOf 54 = .ok (.iload_n 3, 1) := by decide +kernel
theorem dX8_harvestOf_55 : decode cX8_harvestOf 55 = .ok (.istore_n 3, 1) := by decide +kernel
theorem dX8_harvestOf_56 : decode cX8_harvestOf 56 = .ok (.iinc 4 1, 3) := by decide +kernel
theorem dX8_harvestOf_59 : decode cX8_harvestOf 59 = .ok (.goto (-48), 3) := by decide +kernel
theorem dX8_harvestOf_62 : decode cX8_harvestOf 62 = .ok (.iload_n 3, 1) := by decide +kernel
theorem dX8_harvestOf_63 : decode cX8_harvestOf 63 = .ok (.ifCond .ge 7, 3) := by decide +kernel
theorem dX8_harvestOf_66 : decode cX8_harvestOf 66 = .ok (.iconst 0, 1) := by decide +kernel
theorem dX8_harvestOf_67 : decode cX8_harvestOf 67 = .ok (.goto 16, 3) := by decide +kernel
theorem dX8_harvestOf_70 : decode cX8_harvestOf 70 = .ok (.aload_n 0, 1) := by decide +kernel
theorem dX8_harvestOf_71 : decode cX8_harvestOf 71 = .ok (.getfield 25, 3) := by decide +kernel
theorem dX8_harvestOf_74 : decode cX8_harvestOf 74 = .ok (.iload_n 1, 1) := by decide +kernel
theorem dX8_harvestOf_75 : decode cX8_harvestOf 75 = .ok (.iaload, 1) := by decide +kernel
theorem dX8_harvestOf_76 : decode cX8_harvestOf 76 = .ok (.aload_n 0, 1) := by decide +kernel
theorem dX8_harvestOf_77 : decode cX8_harvestOf 77 = .ok (.getfield 41, 3) := by decide +kernel
theorem dX8_harvestOf_80 : decode cX8_harvestOf 80 = .ok (.iload_n 3, 1) := by decide +kernel
theorem dX8_harvestOf_81 : decode cX8_harvestOf 81 = .ok (.iaload, 1) := by decide +kernel
theorem dX8_harvestOf_82 : decode cX8_harvestOf 82 = .ok (.imul, 1) := by decide +kernel
theorem dX8_harvestOf_83 : decode cX8_harvestOf 83 = .ok (.ireturn, 1) := by decide +kernel
theorem dX8_wet_0 : decode cX8_wet 0 = .ok (.aload_n 0, 1) := by decide +kernel
theorem dX8_wet_1 : decode cX8_wet 1 = .ok (.iconst 0, 1) := by decide +kernel
theorem dX8_wet_2 : decode cX8_wet 2 = .ok (.putfield 78, 3) := by decide +kernel
theorem dX8_wet_5 : decode cX8_wet 5 = .ok (.aload_n 0, 1) := by decide +kernel
theorem dX8_wet_6 : decode cX8_wet 6 = .ok (.iload_n 1, 1) := by decide +kernel
theorem dX8_wet_7 : decode cX8_wet 7 = .ok (.invokevirtual 121, 3) := by decide +kernel
theorem dX8_wet_10 : decode cX8_wet 10 = .ok (.ifCond .eq 10, 3) := by decide +kernel
theorem dX8_wet_13 : decode cX8_wet 13 = .ok (.iload_n 2, 1) := by decide +kernel
theorem dX8_wet_14 : decode cX8_wet 14 = .ok (.invokestatic 98, 3) := by decide +kernel
theorem dX8_wet_17 : decode cX8_wet 17 = .ok (.ifCond .ne 5, 3) := by decide +kernel
theorem dX8_wet_20 : decode cX8_wet 20 = .ok (.iconst (-1), 1) := by decide +kernel
theorem dX8_wet_21 : decode cX8_wet 21 = .ok (.ireturn, 1) := by decide +kernel
theorem dX8_wet_22 : decode cX8_wet 22 = .ok (.aload_n 0, 1) := by decide +kernel
theorem dX8_wet_23 : decode cX8_wet 23 = .ok (.iload_n 2, 1) := by decide +kernel
theorem dX8_wet_24 : decode cX8_wet 24 = .ok (.bipush 119, 2) := by decide +kernel
theorem dX8_wet_26 : decode cX8_wet 26 = .ok (.invokevirtual 108, 3) := by decide +kernel
theorem dX8_wet_29 : decode cX8_wet 29 = .ok (.aload_n 0, 1) := by decide +kernel
theorem dX8_wet_30 : decode cX8_wet 30 = .ok (.iload_n 1, 1) := by decide +kernel
theorem dX8_wet_31 : decode cX8_wet 31 = .ok (.invokevirtual 135, 3) := by decide +kernel
theorem dX8_wet_34 : decode cX8_wet 34 = .ok (.ireturn, 1) := by decide +kernel
theorem dX8_harvest_0 : decode cX8_harvest 0 = .ok (.aload_n 0, 1) := by decide +kernel
theorem dX8_harvest_1 : decode cX8_harvest 1 = .ok (.iconst 0, 1) := by decide +kernel
theorem dX8_harvest_2 : decode cX8_harvest 2 = .ok (.putfield 78, 3) := by decide +kernel
theorem dX8_harvest_5 : decode cX8_harvest 5 = .ok (.aload_n 0, 1) := by decide +kernel
theorem dX8_harvest_6 : decode cX8_harvest 6 = .ok (.iload_n 1, 1) := by decide +kernel
theorem dX8_harvest_7 : decode cX8_harvest 7 = .ok (.invokevirtual 121, 3) := by decide +kernel
theorem dX8_harvest_10 : decode cX8_harvest 10 = .ok (.ifCond .eq 10, 3) := by decide +kernel
theorem dX8_harvest_13 : decode cX8_harvest 13 = .ok (.iload_n 2, 1) := by decide +kernel
theorem dX8_harvest_14 : decode cX8_harvest 14 = .ok (.invokestatic 98, 3) := by decide +kernel
theorem dX8_harvest_17 : decode cX8_harvest 17 = .ok (.ifCond .ne 5, 3) := by decide +kernel
theorem dX8_harvest_20 : decode cX8_harvest 20 = .ok (.iconst (-1), 1) := by decide +kernel
theorem dX8_harvest_21 : decode cX8_harvest 21 = .ok (.ireturn, 1) := by decide +kernel
theorem dX8_harvest_22 : decode cX8_harvest 22 = .ok (.aload_n 0, 1) := by decide +kernel
theorem dX8_harvest_23 : decode cX8_harvest 23 = .ok (.iload_n 2, 1) := by decide +kernel
theorem dX8_harvest_24 : decode cX8_harvest 24 = .ok (.bipush 119, 2) := by decide +kernel
theorem dX8_harvest_26 : decode cX8_harvest 26 = .ok (.invokevirtual 108, 3) := by decide +kernel
theorem dX8_harvest_29 : decode cX8_harvest 29 = .ok (.aload_n 0, 1) := by decide +kernel
theorem dX8_harvest_30 : decode cX8_harvest 30 = .ok (.iload_n 1, 1) := by decide +kernel
theorem dX8_harvest_31 : decode cX8_harvest 31 = .ok (.invokevirtual 138, 3) := by decide +kernel
theorem dX8_harvest_34 : decode cX8_harvest 34 = .ok (.ireturn, 1) := by decide +kernel
theorem dX8_foretold_0 : decode cX8_foretold 0 = .ok (.aload_n 0, 1) := by decide +kernel
theorem dX8_foretold_1 : decode cX8_foretold 1 = .ok (.iconst 0, 1) := by decide +kernel
theorem dX8_foretold_2 : decode cX8_foretold 2 = .ok (.putfield 78, 3) := by decide +kernel
theorem dX8_foretold_5 : decode cX8_foretold 5 = .ok (.aload_n 0, 1) := by decide +kernel
theorem dX8_foretold_6 : decode cX8_foretold 6 = .ok (.iload_n 1, 1) := by decide +kernel
theorem dX8_foretold_7 : decode cX8_foretold 7 = .ok (.invokevirtual 121, 3) := by decide +kernel
theorem dX8_foretold_10 : decode cX8_foretold 10 = .ok (.ifCond .eq 10, 3) := by decide +kernel
theorem dX8_foretold_13 : decode cX8_foretold 13 = .ok (.iload_n 2, 1) := by decide +kernel
theorem dX8_foretold_14 : decode cX8_foretold 14 = .ok (.invokestatic 92, 3) := by decide +kernel
theorem dX8_foretold_17 : decode cX8_foretold 17 = .ok (.ifCond .ne 5, 3) := by decide +kernel
theorem dX8_foretold_20 : decode cX8_foretold 20 = .ok (.iconst (-1), 1) := by decide +kernel
theorem dX8_foretold_21 : decode cX8_foretold 21 = .ok (.ireturn, 1) := by decide +kernel
theorem dX8_foretold_22 : decode cX8_foretold 22 = .ok (.aload_n 0, 1) := by decide +kernel
theorem dX8_foretold_23 : decode cX8_foretold 23 = .ok (.iload_n 2, 1) := by decide +kernel
theorem dX8_foretold_24 : decode cX8_foretold 24 = .ok (.iload_n 2, 1) := by decide +kernel
theorem dX8_foretold_25 : decode cX8_foretold 25 = .ok (.invokevirtual 108, 3) := by decide +kernel
theorem dX8_foretold_28 : decode cX8_foretold 28 = .ok (.aload_n 0, 1) := by decide +kernel
theorem dX8_foretold_29 : decode cX8_foretold 29 = .ok (.iload_n 1, 1) := by decide +kernel
theorem dX8_foretold_30 : decode cX8_foretold 30 = .ok (.invokevirtual 138, 3) := by decide +kernel
theorem dX8_foretold_33 : decode cX8_foretold 33 = .ok (.ireturn, 1) := by decide +kernel
theorem dX8_four_0 : decode cX8_four 0 = .ok (.bipush 24, 2) := by decide +kernel
theorem dX8_four_2 : decode cX8_four 2 = .ok (.istore_n 2, 1) := by decide +kernel
theorem dX8_four_3 : decode cX8_four 3 = .ok (.iload_n 2, 1) := by decide +kernel
theorem dX8_four_4 : decode cX8_four 4 = .ok (.ifCond .lt 35, 3) := by decide +kernel
theorem dX8_four_7 : decode cX8_four 7 = .ok (.aload_n 0, 1) := by decide +kernel
theorem dX8_four_8 : decode cX8_four 8 = .ok (.getfield 59, 3) := by decide +kernel
theorem dX8_four_11 : decode cX8_four 11 = .ok (.aload_n 0, 1) := by decide +kernel
theorem dX8_four_12 : decode cX8_four 12 = .ok (.getfield 141, 3) := by decide +kernel
theorem dX8_four_15 : decode cX8_four 15 = .ok (.iload_n 1, 1) := by decide +kernel
theorem dX8_four_16 : decode cX8_four 16 = .ok (.iload_n 2, 1) := by decide +kernel
theorem dX8_four_17 : decode cX8_four 17 = .ok (.ishr, 1) := by decide +kernel
theorem dX8_four_18 : decode cX8_four 18 = .ok (.sipush 255, 3) := by decide +kernel
theorem dX8_four_21 : decode cX8_four 21 = .ok (.iand, 1) := by decide +kernel
theorem dX8_four_22 : decode cX8_four 22 = .ok (.iastore, 1) := by decide +kernel
theorem dX8_four_23 : decode cX8_four 23 = .ok (.aload_n 0, 1) := by decide +kernel
theorem dX8_four_24 : decode cX8_four 24 = .ok (.dup, 1) := by decide +kernel
theorem dX8_four_25 : decode cX8_four 25 = .ok (.getfield 141, 3) := by decide +kernel
theorem dX8_four_28 : decode cX8_four 28 = .ok (.iconst 1, 1) := by decide +kernel
theorem dX8_four_29 : decode cX8_four 29 = .ok (.iadd, 1) := by decide +kernel
theorem dX8_four_30 : decode cX8_four 30 = .ok (.putfield 141, 3) := by decide +kernel
theorem dX8_four_33 : decode cX8_four 33 = .ok (.iinc 2 (-8), 3) := by decide +kernel
theorem dX8_four_36 : decode cX8_four 36 = .ok (.goto (-33), 3) := by decide +kernel
theorem dX8_four_39 : decode cX8_four 39 = .ok (.return_, 1) := by decide +kernel
theorem dX8_feed_0 : decode cX8_feed 0 = .ok (.aload_n 0, 1) := by decide +kernel
theorem dX8_feed_1 : decode cX8_feed 1 = .ok (.iconst 0, 1) := by decide +kernel
theorem dX8_feed_2 : decode cX8_feed 2 = .ok (.putfield 78, 3) := by decide +kernel
theorem dX8_feed_5 : decode cX8_feed 5 = .ok (.aload_n 0, 1) := by decide +kernel
theorem dX8_feed_6 : decode cX8_feed 6 = .ok (.getfield 141, 3) := by decide +kernel
theorem dX8_feed_9 : decode cX8_feed 9 = .ok (.bipush 20, 2) := by decide +kernel
theorem dX8_feed_11 : decode cX8_feed 11 = .ok (.iadd, 1) := by decide +kernel
theorem dX8_feed_12 : decode cX8_feed 12 = .ok (.sipush 200, 3) := by decide +kernel
theorem dX8_feed_15 : decode cX8_feed 15 = .ok (.if_icmp .le 5, 3) := by decide +kernel
theorem dX8_feed_18 : decode cX8_feed 18 = .ok (.iconst (-1), 1) := by decide +kernel
theorem dX8_feed_19 : decode cX8_feed 19 = .ok (.ireturn, 1) := by decide +kernel
theorem dX8_feed_20 : decode cX8_feed 20 = .ok (.aload_n 0, 1) := by decide +kernel
theorem dX8_feed_21 : decode cX8_feed 21 = .ok (.iload_n 1, 1) := by decide +kernel
theorem dX8_feed_22 : decode cX8_feed 22 = .ok (.invokevirtual 144, 3) := by decide +kernel
theorem dX8_feed_25 : decode cX8_feed 25 = .ok (.aload_n 0, 1) := by decide +kernel
theorem dX8_feed_26 : decode cX8_feed 26 = .ok (.iload_n 2, 1) := by decide +kernel
theorem dX8_feed_27 : decode cX8_feed 27 = .ok (.invokevirtual 144, 3) := by decide +kernel
theorem dX8_feed_30 : decode cX8_feed 30 = .ok (.aload_n 0, 1) := by decide +kernel
theorem dX8_feed_31 : decode cX8_feed 31 = .ok (.iload_n 3, 1) := by decide +kernel
theorem dX8_feed_32 : decode cX8_feed 32 = .ok (.invokevirtual 144, 3) := by decide +kernel
theorem dX8_feed_35 : decode cX8_feed 35 = .ok (.aload_n 0, 1) := by decide +kernel
theorem dX8_feed_36 : decode cX8_feed 36 = .ok (.iload 4, 2) := by decide +kernel
theorem dX8_feed_38 : decode cX8_feed 38 = .ok (.invokevirtual 144, 3) := by decide +kernel
theorem dX8_feed_41 : decode cX8_feed 41 = .ok (.aload_n 0, 1) := by decide +kernel
theorem dX8_feed_42 : decode cX8_feed 42 = .ok (.iload 5, 2) := by decide +kernel
theorem dX8_feed_44 : decode cX8_feed 44 = .ok (.invokevirtual 144, 3) := by decide +kernel
theorem dX8_feed_47 : decode cX8_feed 47 = .ok (.aload_n 0, 1) := by decide +kernel
theorem dX8_feed_48 : decode cX8_feed 48 = .ok (.getfield 141, 3) := by decide +kernel
theorem dX8_feed_51 : decode cX8_feed 51 = .ok (.ireturn, 1) := by decide +kernel
theorem dX8_end_0 : decode cX8_end 0 = .ok (.aload_n 0, 1) := by decide +kernel
theorem dX8_end_1 : decode cX8_end 1 = .ok (.iconst 0, 1) := by decide +kernel
theorem dX8_end_2 : decode cX8_end 2 = .ok (.putfield 78, 3) := by decide +kernel
theorem dX8_end_5 : decode cX8_end 5 = .ok (.iload_n 1, 1) := by decide +kernel
theorem dX8_end_6 : decode cX8_end 6 = .ok (.ifCond .lt 11, 3) := by decide +kernel
theorem dX8_end_9 : decode cX8_end 9 = .ok (.iload_n 1, 1) := by decide +kernel
theorem dX8_end_10 : decode cX8_end 10 = .ok (.aload_n 0, 1) := by decide +kernel
theorem dX8_end_11 : decode cX8_end 11 = .ok (.getfield 141, 3) := by decide +kernel
theorem dX8_end_14 : decode cX8_end 14 = .ok (.if_icmp .le 5, 3) := by decide +kernel
theorem dX8_end_17 : decode cX8_end 17 = .ok (.iconst (-1), 1) := by decide +kernel
theorem dX8_end_18 : decode cX8_end 18 = .ok (.ireturn, 1) := by decide +kernel
theorem dX8_end_19 : decode cX8_end 19 = .ok (.aload_n 0, 1) := by decide +kernel
theorem dX8_end_20 : decode cX8_end 20 = .ok (.iload_n 1, 1) := by decide +kernel
theorem dX8_end_21 : decode cX8_end 21 = .ok (.putfield 141, 3) := by decide +kernel
theorem dX8_end_24 : decode cX8_end 24 = .ok (.iload_n 1, 1) := by decide +kernel
theorem dX8_end_25 : decode cX8_end 25 = .ok (.ireturn, 1) := by decide +kernel
theorem dX8_isSmall_0 : decode cX8_isSmall 0 = .ok (.iload_n 0, 1) := by decide +kernel
theorem dX8_isSmall_1 : decode cX8_isSmall 1 = .ok (.bipush 97, 2) := by decide +kernel
theorem dX8_isSmall_3 : decode cX8_isSmall 3 = .ok (.if_icmp .lt 13, 3) := by decide +kernel
theorem dX8_isSmall_6 : decode cX8_isSmall 6 = .ok (.iload_n 0, 1) := by decide +kernel
theorem dX8_isSmall_7 : decode cX8_isSmall 7 = .ok (.bipush 122, 2) := by decide +kernel
theorem dX8_isSmall_9 : decode cX8_isSmall 9 = .ok (.if_icmp .gt 7, 3) := by decide +kernel
theorem dX8_isSmall_12 : decode cX8_isSmall 12 = .ok (.iconst 1, 1) := by decide +kernel
theorem dX8_isSmall_13 : decode cX8_isSmall 13 = .ok (.goto 4, 3) := by decide +kernel
theorem dX8_isSmall_16 : decode cX8_isSmall 16 = .ok (.iconst 0, 1) := by decide +kernel
theorem dX8_isSmall_17 : decode cX8_isSmall 17 = .ok (.ireturn, 1) := by decide +kernel
theorem dX8_isDigit_0 : decode cX8_isDigit 0 = .ok (.iload_n 0, 1) := by decide +kernel
theorem dX8_isDigit_1 : decode cX8_isDigit 1 = .ok (.bipush 48, 2) := by decide +kernel
theorem dX8_isDigit_3 : decode cX8_isDigit 3 = .ok (.if_icmp .lt 13, 3) := by decide +kernel
theorem dX8_isDigit_6 : decode cX8_isDigit 6 = .ok (.iload_n 0, 1) := by decide +kernel
theorem dX8_isDigit_7 : decode cX8_isDigit 7 = .ok (.bipush 57, 2) := by decide +kernel
theorem dX8_isDigit_9 : decode cX8_isDigit 9 = .ok (.if_icmp .gt 7, 3) := by decide +kernel
theorem dX8_isDigit_12 : decode cX8_isDigit 12 = .ok (.iconst 1, 1) := by decide +kernel
theorem dX8_isDigit_13 : decode cX8_isDigit 13 = .ok (.goto 4, 3) := by decide +kernel
theorem dX8_isDigit_16 : decode cX8_isDigit 16 = .ok (.iconst 0, 1) := by decide +kernel
theorem dX8_isDigit_17 : decode cX8_isDigit 17 = .ok (.ireturn, 1) := by decide +kernel
theorem dX8_next_0 : decode cX8_next 0 = .ok (.aload_n 0, 1) := by decide +kernel
theorem dX8_next_1 : decode cX8_next 1 = .ok (.aload_n 0, 1) := by decide +kernel
theorem dX8_next_2 : decode cX8_next 2 = .ok (.getfield 148, 3) := by decide +kernel
theorem dX8_next_5 : decode cX8_next 5 = .ok (.putfield 151, 3) := by decide +kernel
theorem dX8_next_8 : decode cX8_next 8 = .ok (.aload_n 0, 1) := by decide +kernel
theorem dX8_next_9 : decode cX8_next 9 = .ok (.getfield 151, 3) := by decide +kernel
theorem dX8_next_12 : decode cX8_next 12 = .ok (.aload_n 0, 1) := by decide +kernel
theorem dX8_next_13 : decode cX8_next 13 = .ok (.getfield 141, 3) := by decide +kernel
theorem dX8_next_16 : decode cX8_next 16 = .ok (.if_icmp .ge 30, 3) := by decide +kernel
theorem dX8_next_19 : decode cX8_next 19 = .ok (.aload_n 0, 1) := by decide +kernel
theorem dX8_next_20 : decode cX8_next 20 = .ok (.getfield 59, 3) := by decide +kernel
theorem dX8_next_23 : decode cX8_next 23 = .ok (.aload_n 0, 1) := by decide +kernel
theorem dX8_next_24 : decode cX8_next 24 = .ok (.getfield 151, 3) := by decide +kernel
theorem dX8_next_27 : decode cX8_next 27 = .ok (.iaload, 1) := by decide +kernel
theorem dX8_next_28 : decode cX8_next 28 = .ok (.bipush 32, 2) := by decide +kernel
theorem dX8_next_30 : decode cX8_next 30 = .ok (.if_icmp .ne 16, 3) := by decide +kernel
theorem dX8_next_33 : decode cX8_next 33 = .ok (.aload_n 0, 1) := by decide +kernel
theorem dX8_next_34 : decode cX8_next 34 = .ok (.dup, 1) := by decide +kernel
theorem dX8_next_35 : decode cX8_next 35 = .ok (.getfield 151, 3) := by decide +kernel
theorem dX8_next_38 : decode cX8_next 38 = .ok (.iconst 1, 1) := by decide +kernel
theorem dX8_next_39 : decode cX8_next 39 = .ok (.iadd, 1) := by decide +kernel
theorem dX8_next_40 : decode cX8_next 40 = .ok (.putfield 151, 3) := by decide +kernel
theorem dX8_next_43 : decode cX8_next 43 = .ok (.goto (-35), 3) := by decide +kernel
theorem dX8_next_46 : decode cX8_next 46 = .ok (.aload_n 0, 1) := by decide +kernel
theorem dX8_next_47 : decode cX8_next 47 = .ok (.aload_n 0, 1) := by decide +kernel
theorem dX8_next_48 : decode cX8_next 48 = .ok (.getfield 151, 3) := by decide +kernel
theorem dX8_next_51 : decode cX8_next 51 = .ok (.putfield 148, 3) := by decide +kernel
theorem dX8_next_54 : decode cX8_next 54 = .ok (.aload_n 0, 1) := by decide +kernel
theorem dX8_next_55 : decode cX8_next 55 = .ok (.lconst 0, 1) := by decide +kernel
theorem dX8_next_56 : decode cX8_next 56 = .ok (.putfield 154, 3) := by decide +kernel
theorem dX8_next_59 : decode cX8_next 59 = .ok (.aload_n 0, 1) := by decide +kernel
theorem dX8_next_60 : decode cX8_next 60 = .ok (.aload_n 0, 1) := by decide +kernel
theorem dX8_next_61 : decode cX8_next 61 = .ok (.getfield 151, 3) := by decide +kernel
theorem dX8_next_64 : decode cX8_next 64 = .ok (.aload_n 0, 1) := by decide +kernel
theorem dX8_next_65 : decode cX8_next 65 = .ok (.getfield 141, 3) := by decide +kernel
theorem dX8_next_68 : decode cX8_next 68 = .ok (.if_icmp .ne 7, 3) := by decide +kernel
theorem dX8_next_71 : decode cX8_next 71 = .ok (.iconst 0, 1) := by decide +kernel
theorem dX8_next_72 : decode cX8_next 72 = .ok (.goto 42, 3) := by decide +kernel
theorem dX8_next_75 : decode cX8_next 75 = .ok (.aload_n 0, 1) := by decide +kernel
theorem dX8_next_76 : decode cX8_next 76 = .ok (.getfield 59, 3) := by decide +kernel
theorem dX8_next_79 : decode cX8_next 79 = .ok (.aload_n 0, 1) := by decide +kernel
theorem dX8_next_80 : decode cX8_next 80 = .ok (.getfield 151, 3) := by decide +kernel
theorem dX8_next_83 : decode cX8_next 83 = .ok (.iaload, 1) := by decide +kernel
theorem dX8_next_84 : decode cX8_next 84 = .ok (.invokestatic 158, 3) := by decide +kernel
theorem dX8_next_87 : decode cX8_next 87 = .ok (.ifCond .eq 7, 3) := by decide +kernel
theorem dX8_next_90 : decode cX8_next 90 = .ok (.iconst 1, 1) := by decide +kernel
theorem dX8_next_91 : decode cX8_next 91 = .ok (.goto 23, 3) := by decide +kernel
theorem dX8_next_94 : decode cX8_next 94 = .ok (.aload_n 0, 1) := by decide +kernel
theorem dX8_next_95 : decode cX8_next 95 = .ok (.getfield 59, 3) := by decide +kernel
theorem dX8_next_98 : decode cX8_next 98 = .ok (.aload_n 0, 1) := by decide +kernel
theorem dX8_next_99 : decode cX8_next 99 = .ok (.getfield 151, 3) := by decide +kernel
theorem dX8_next_102 : decode cX8_next 102 = .ok (.iaload, 1) := by decide +kernel
theorem dX8_next_103 : decode cX8_next 103 = .ok (.invokestatic 161, 3) := by decide +kernel
theorem dX8_next_106 : decode cX8_next 106 = .ok (.ifCond .eq 7, 3) := by decide +kernel
theorem dX8_next_109 : decode cX8_next 109 = .ok (.iconst 2, 1) := by decide +kernel
theorem dX8_next_110 : decode cX8_next 110 = .ok (.goto 4, 3) := by decide +kernel
theorem dX8_next_113 : decode cX8_next 113 = .ok (.iconst 3, 1) := by decide +kernel
theorem dX8_next_114 : decode cX8_next 114 = .ok (.putfield 164, 3) := by decide +kernel
theorem dX8_next_117 : decode cX8_next 117 = .ok (.aload_n 0, 1) := by decide +kernel
theorem dX8_next_118 : decode cX8_next 118 = .ok (.getfield 164, 3) := by decide +kernel
theorem dX8_next_121 : decode cX8_next 121 = .ok (.iconst 3, 1) := by decide +kernel
theorem dX8_next_122 : decode cX8_next 122 = .ok (.if_icmp .ne 27, 3) := by decide +kernel
theorem dX8_next_125 : decode cX8_next 125 = .ok (.aload_n 0, 1) := by decide +kernel
theorem dX8_next_126 : decode cX8_next 126 = .ok (.aload_n 0, 1) := by decide +kernel
theorem dX8_next_127 : decode cX8_next 127 = .ok (.getfield 59, 3) := by decide +kernel
theorem dX8_next_130 : decode cX8_next 130 = .ok (.aload_n 0, 1) := by decide +kernel
theorem dX8_next_131 : decode cX8_next 131 = .ok (.getfield 151, 3) := by decide +kernel
theorem dX8_next_134 : decode cX8_next 134 = .ok (.iaload, 1) := by decide +kernel
theorem dX8_next_135 : decode cX8_next 135 = .ok (.i2l, 1) := by decide +kernel
theorem dX8_next_136 : decode cX8_next 136 = .ok (.putfield 154, 3) := by decide +kernel
theorem dX8_next_139 : decode cX8_next 139 = .ok (.aload_n 0, 1) := by decide +kernel
theorem dX8_next_140 : decode cX8_next 140 = .ok (.dup, 1) := by decide +kernel
theorem dX8_next_141 : decode cX8_next 141 = .ok (.getfield 148, 3) := by decide +kernel
theorem dX8_next_144 : decode cX8_next 144 = .ok (.iconst 1, 1) := by decide +kernel
theorem dX8_next_145 : decode cX8_next 145 = .ok (.iadd, 1) := by decide +kernel
theorem dX8_next_146 : decode cX8_next 146 = .ok (.putfield 148, 3) := by decide +kernel
theorem dX8_next_149 : decode cX8_next 149 = .ok (.aload_n 0, 1) := by decide +kernel
theorem dX8_next_150 : decode cX8_next 150 = .ok (.getfield 164, 3) := by decide +kernel
theorem dX8_next_153 : decode cX8_next 153 = .ok (.iconst 1, 1) := by decide +kernel
theorem dX8_next_154 : decode cX8_next 154 = .ok (.if_icmp .ne 89, 3) := by decide +kernel
theorem dX8_next_157 : decode cX8_next 157 = .ok (.aload_n 0, 1) := by decide +kernel
theorem dX8_next_158 : decode cX8_next 158 = .ok (.getfield 148, 3) := by decide +kernel
theorem dX8_next_161 : decode cX8_next 161 = .ok (.aload_n 0, 1) := by decide +kernel
theorem dX8_next_162 : decode cX8_next 162 = .ok (.getfield 141, 3) := by decide +kernel
theorem dX8_next_165 : decode cX8_next 165 = .ok (.if_icmp .ge 78, 3) := by decide +kernel
theorem dX8_next_168 : decode cX8_next 168 = .ok (.aload_n 0, 1) := by decide +kernel
theorem dX8_next_169 : decode cX8_next 169 = .ok (.getfield 59, 3) := by decide +kernel
theorem dX8_next_172 : decode cX8_next 172 = .ok (.aload_n 0, 1) := by decide +kernel
theorem dX8_next_173 : decode cX8_next 173 = .ok (.getfield 148, 3) := by decide +kernel
theorem dX8_next_176 : decode cX8_next 176 = .ok (.iaload, 1) := by decide +kernel
theorem dX8_next_177 : decode cX8_next 177 = .ok (.invokestatic 158, 3) := by decide +kernel
theorem dX8_next_180 : decode cX8_next 180 = .ok (.ifCond .eq 63, 3) := by decide +kernel
theorem dX8_next_183 : decode cX8_next 183 = .ok (.aload_n 0, 1) := by decide +kernel
theorem dX8_next_184 : decode cX8_next 184 = .ok (.aload_n 0, 1) := by decide +kernel
theorem dX8_next_185 : decode cX8_next 185 = .ok (.getfield 148, 3) := by decide +kernel
theorem dX8_next_188 : decode cX8_next 188 = .ok (.aload_n 0, 1) := by decide +kernel
theorem dX8_next_189 : decode cX8_next 189 = .ok (.getfield 151, 3) := by decide +kernel
theorem dX8_next_192 : decode cX8_next 192 = .ok (.isub, 1) := by decide +kernel
theorem dX8_next_193 : decode cX8_next 193 = .ok (.bipush 8, 2) := by decide +kernel
theorem dX8_next_195 : decode cX8_next 195 = .ok (.if_icmp .ge 29, 3) := by decide +kernel
theorem dX8_next_198 : decode cX8_next 198 = .ok (.aload_n 0, 1) := by decide +kernel
theorem dX8_next_199 : decode cX8_next 199 = .ok (.getfield 154, 3) := by decide +kernel
theorem dX8_next_202 : decode cX8_next 202 = .ok (.ldc2_w 167, 3) := by decide +kernel
theorem dX8_next_205 : decode cX8_next 205 = .ok (.lmul, 1) := by decide +kernel
theorem dX8_next_206 : decode cX8_next 206 = .ok (.aload_n 0, 1) := by decide +kernel
theorem dX8_next_207 : decode cX8_next 207 = .ok (.getfield 59, 3) := by decide +kernel
theorem dX8_next_210 : decode cX8_next 210 = .ok (.aload_n 0, 1) := by decide +kernel
theorem dX8_next_211 : decode cX8_next 211 = .ok (.getfield 148, 3) := by decide +kernel
theorem dX8_next_214 : decode cX8_next 214 = .ok (.iaload, 1) := by decide +kernel
theorem dX8_next_215 : decode cX8_next 215 = .ok (.i2l, 1) := by decide +kernel
theorem dX8_next_216 : decode cX8_next 216 = .ok (.ladd, 1) := by decide +kernel
theorem dX8_next_217 : decode cX8_next 217 = .ok (.ldc2_w 169, 3) := by decide +kernel
theorem dX8_next_220 : decode cX8_next 220 = .ok (.lsub, 1) := by decide +kernel
theorem dX8_next_221 : decode cX8_next 221 = .ok (.goto 6, 3) := by decide +kernel
theorem dX8_next_224 : decode cX8_next 224 = .ok (.ldc2_w 171, 3) := by decide +kernel
theorem dX8_next_227 : decode cX8_next 227 = .ok (.putfield 154, 3) := by decide +kernel
theorem dX8_next_230 : decode cX8_next 230 = .ok (.aload_n 0, 1) := by decide +kernel
theorem dX8_next_231 : decode cX8_next 231 = .ok (.dup, 1) := by decide +kernel
theorem dX8_next_232 : decode cX8_next 232 = .ok (.getfield 148, 3) := by decide +kernel
theorem dX8_next_235 : decode cX8_next 235 = .ok (.iconst 1, 1) := by decide +kernel
theorem dX8_next_236 : decode cX8_next 236 = .ok (.iadd, 1) := by decide +kernel
theorem dX8_next_237 : decode cX8_next 237 = .ok (.putfield 148, 3) := by decide +kernel
theorem dX8_next_240 : decode cX8_next 240 = .ok (.goto (-91), 3) := by decide +kernel
theorem dX8_next_243 : decode cX8_next 243 = .ok (.aload_n 0, 1) := by decide +kernel
theorem dX8_next_244 : decode cX8_next 244 = .ok (.getfield 164, 3) := by decide +kernel
theorem dX8_next_247 : decode cX8_next 247 = .ok (.iconst 2, 1) := by decide +kernel
theorem dX8_next_248 : decode cX8_next 248 = .ok (.if_icmp .ne 87, 3) := by decide +kernel
theorem dX8_next_251 : decode cX8_next 251 = .ok (.aload_n 0, 1) := by decide +kernel
theorem dX8_next_252 : decode cX8_next 252 = .ok (.getfield 148, 3) := by decide +kernel
theorem dX8_next_255 : decode cX8_next 255 = .ok (.aload_n 0, 1) := by decide +kernel
theorem dX8_next_256 : decode cX8_next 256 = .ok (.getfield 141, 3) := by decide +kernel
theorem dX8_next_259 : decode cX8_next 259 = .ok (.if_icmp .ge 76, 3) := by decide +kernel
theorem dX8_next_262 : decode cX8_next 262 = .ok (.aload_n 0, 1) := by decide +kernel
theorem dX8_next_263 : decode cX8_next 263 = .ok (.getfield 59, 3) := by decide +kernel
theorem dX8_next_266 : decode cX8_next 266 = .ok (.aload_n 0, 1) := by decide +kernel
theorem dX8_next_267 : decode cX8_next 267 = .ok (.getfield 148, 3) := by decide +kernel
theorem dX8_next_270 : decode cX8_next 270 = .ok (.iaload, 1) := by decide +kernel
theorem dX8_next_271 : decode cX8_next 271 = .ok (.invokestatic 161, 3) := by decide +kernel
theorem dX8_next_274 : decode cX8_next 274 = .ok (.ifCond .eq 61, 3) := by decide +kernel
theorem dX8_next_277 : decode cX8_next 277 = .ok (.aload_n 0, 1) := by decide +kernel
theorem dX8_next_278 : decode cX8_next 278 = .ok (.aload_n 0, 1) := by decide +kernel
theorem dX8_next_279 : decode cX8_next 279 = .ok (.getfield 154, 3) := by decide +kernel
theorem dX8_next_282 : decode cX8_next 282 = .ok (.ldc2_w 127, 3) := by decide +kernel
theorem dX8_next_285 : decode cX8_next 285 = .ok (.lcmp, 1) := by decide +kernel
theorem dX8_next_286 : decode cX8_next 286 = .ok (.ifCond .le 10, 3) := by decide +kernel
theorem dX8_next_289 : decode cX8_next 289 = .ok (.aload_n 0, 1) := by decide +kernel
theorem dX8_next_290 : decode cX8_next 290 = .ok (.getfield 154, 3) := by decide +kernel
theorem dX8_next_293 : decode cX8_next 293 = .ok (.goto 26, 3) := by decide +kernel
theorem dX8_next_296 : decode cX8_next 296 = .ok (.aload_n 0, 1) := by decide +kernel
theorem dX8_next_297 : decode cX8_next 297 = .ok (.getfield 154, 3) := by decide +kernel
theorem dX8_next_300 : decode cX8_next 300 = .ok (.ldc2_w 173, 3) := by decide +kernel
theorem dX8_next_303 : decode cX8_next 303 = .ok (.lmul, 1) := by decide +kernel
theorem dX8_next_304 : decode cX8_next 304 = .ok (.aload_n 0, 1) := by decide +kernel
theorem dX8_next_305 : decode cX8_next 305 = .ok (.getfield 59, 3) := by decide +kernel
theorem dX8_next_308 : decode cX8_next 308 = .ok (.aload_n 0, 1) := by decide +kernel
theorem dX8_next_309 : decode cX8_next 309 = .ok (.getfield 148, 3) := by decide +kernel
theorem dX8_next_312 : decode cX8_next 312 = .ok (.iaload, 1) := by decide +kernel
theorem dX8_next_313 : decode cX8_next 313 = .ok (.i2l, 1) := by decide +kernel
theorem dX8_next_314 : decode cX8_next 314 = .ok (.ladd, 1) := by decide +kernel
theorem dX8_next_315 : decode cX8_next 315 = .ok (.ldc2_w 175, 3) := by decide +kernel
theorem dX8_next_318 : decode cX8_next 318 = .ok (.lsub, 1) := by decide +kernel
theorem dX8_next_319 : decode cX8_next 319 = .ok (.putfield 154, 3) := by decide +kernel
theorem dX8_next_322 : decode cX8_next 322 = .ok (.aload_n 0, 1) := by decide +kernel
theorem dX8_next_323 : decode cX8_next 323 = .ok (.dup, 1) := by decide +kernel
theorem dX8_next_324 : decode cX8_next 324 = .ok (.getfield 148, 3) := by decide +kernel
theorem dX8_next_327 : decode cX8_next 327 = .ok (.iconst 1, 1) := by decide +kernel
theorem dX8_next_328 : decode cX8_next 328 = .ok (.iadd, 1) := by decide +kernel
theorem dX8_next_329 : decode cX8_next 329 = .ok (.putfield 148, 3) := by decide +kernel
theorem dX8_next_332 : decode cX8_next 332 = .ok (.goto (-89), 3) := by decide +kernel
theorem dX8_next_335 : decode cX8_next 335 = .ok (.return_, 1) := by decide +kernel
theorem dX8_isWord_0 : decode cX8_isWord 0 = .ok (.iload_n 1, 1) := by decide +kernel
theorem dX8_isWord_1 : decode cX8_isWord 1 = .ok (.i2l, 1) := by decide +kernel
theorem dX8_isWord_2 : decode cX8_isWord 2 = .ok (.ldc2_w 169, 3) := by decide +kernel
theorem dX8_isWord_5 : decode cX8_isWord 5 = .ok (.lsub, 1) := by decide +kernel
theorem dX8_isWord_6 : decode cX8_isWord 6 = .ok (.ldc2_w 167, 3) := by decide +kernel
theorem dX8_isWord_9 : decode cX8_isWord 9 = .ok (.lmul, 1) := by decide +kernel
theorem dX8_isWord_10 : decode cX8_isWord 10 = .ok (.iload_n 2, 1) := by decide +kernel
theorem dX8_isWord_11 : decode cX8_isWord 11 = .ok (.i2l, 1) := by decide +kernel
theorem dX8_isWord_12 : decode cX8_isWord 12 = .ok (.ladd, 1) := by decide +kernel
theorem dX8_isWord_13 : decode cX8_isWord 13 = .ok (.ldc2_w 169, 3) := by decide +kernel
theorem dX8_isWord_16 : decode cX8_isWord 16 = .ok (.lsub, 1) := by decide +kernel
theorem dX8_isWord_17 : decode cX8_isWord 17 = .ok (.lstore 8, 2) := by decide +kernel
theorem dX8_isWord_19 : decode cX8_isWord 19 = .ok (.iload_n 3, 1) := by decide +kernel
theorem dX8_isWord_20 : decode cX8_isWord 20 = .ok (.ifCond .ne 8, 3) := by decide +kernel
theorem dX8_isWord_23 : decode cX8_isWord 23 = .ok (.lload 8, 2) := by decide +kernel
theorem dX8_isWord_25 : decode cX8_isWord 25 = .ok (.goto 16, 3) := by decide +kernel
theorem dX8_isWord_28 : decode cX8_isWord 28 = .ok (.lload 8, 2) := by decide +kernel
theorem dX8_isWord_30 : decode cX8_isWord 30 = .ok (.ldc2_w 167, 3) := by decide +kernel
theorem dX8_isWord_33 : decode cX8_isWord 33 = .ok (.lmul, 1) := by decide +kernel
theorem dX8_isWord_34 : decode cX8_isWord 34 = .ok (.iload_n 3, 1) := by decide +kernel
theorem dX8_isWord_35 : decode cX8_isWord 35 = .ok (.i2l, 1) := by decide +kernel
theorem dX8_isWord_36 : decode cX8_isWord 36 = .ok (.ladd, 1) := by decide +kernel
theorem dX8_isWord_37 : decode cX8_isWord 37 = .ok (.ldc2_w 169, 3) := by decide +kernel
theorem dX8_isWord_40 : decode cX8_isWord 40 = .ok (.lsub, 1) := by decide +kernel
theorem dX8_isWord_41 : decode cX8_isWord 41 = .ok (.lstore 8, 2) := by decide +kernel
theorem dX8_isWord_43 : decode cX8_isWord 43 = .ok (.iload 4, 2) := by decide +kernel
theorem dX8_isWord_45 : decode cX8_isWord 45 = .ok (.ifCond .ne 8, 3) := by decide +kernel
theorem dX8_isWord_48 : decode cX8_isWord 48 = .ok (.lload 8, 2) := by decide +kernel
theorem dX8_isWord_50 : decode cX8_isWord 50 = .ok (.goto 17, 3) := by decide +kernel
theorem dX8_isWord_53 : decode cX8_isWord 53 = .ok (.lload 8, 2) := by decide +kernel
theorem dX8_isWord_55 : decode cX8_isWord 55 = .ok (.ldc2_w 167, 3) := by decide +kernel
theorem dX8_isWord_58 : decode cX8_isWord 58 = .ok (.lmul, 1) := by decide +kernel
theorem dX8_isWord_59 : decode cX8_isWord 59 = .ok (.iload 4, 2) := by decide +kernel
theorem dX8_isWord_61 : decode cX8_isWord 61 = .ok (.i2l, 1) := by decide +kernel
theorem dX8_isWord_62 : decode cX8_isWord 62 = .ok (.ladd, 1) := by decide +kernel
theorem dX8_isWord_63 : decode cX8_isWord 63 = .ok (.ldc2_w 169, 3) := by decide +kernel
theorem dX8_isWord_66 : decode cX8_isWord 66 = .ok (.lsub, 1) := by decide +kernel
theorem dX8_isWord_67 : decode cX8_isWord 67 = .ok (.lstore 8, 2) := by decide +kernel
theorem dX8_isWord_69 : decode cX8_isWord 69 = .ok (.iload 5, 2) := by decide +kernel
theorem dX8_isWord_71 : decode cX8_isWord 71 = .ok (.ifCond .ne 8, 3) := by decide +kernel
theorem dX8_isWord_74 : decode cX8_isWord 74 = .ok (.lload 8, 2) := by decide +kernel
theorem dX8_isWord_76 : decode cX8_isWord 76 = .ok (.goto 17, 3) := by decide +kernel
theorem dX8_isWord_79 : decode cX8_isWord 79 = .ok (.lload 8, 2) := by decide +kernel
theorem dX8_isWord_81 : decode cX8_isWord 81 = .ok (.ldc2_w 167, 3) := by decide +kernel
theorem dX8_isWord_84 : decode cX8_isWord 84 = .ok (.lmul, 1) := by decide +kernel
theorem dX8_isWord_85 : decode cX8_isWord 85 = .ok (.iload 5, 2) := by decide +kernel
theorem dX8_isWord_87 : decode cX8_isWord 87 = .ok (.i2l, 1) := by decide +kernel
theorem dX8_isWord_88 : decode cX8_isWord 88 = .ok (.ladd, 1) := by decide +kernel
theorem dX8_isWord_89 : decode cX8_isWord 89 = .ok (.ldc2_w 169, 3) := by decide +kernel
theorem dX8_isWord_92 : decode cX8_isWord 92 = .ok (.lsub, 1) := by decide +kernel
theorem dX8_isWord_93 : decode cX8_isWord 93 = .ok (.lstore 8, 2) := by decide +kernel
theorem dX8_isWord_95 : decode cX8_isWord 95 = .ok (.iload 6, 2) := by decide +kernel
theorem dX8_isWord_97 : decode cX8_isWord 97 = .ok (.ifCond .ne 8, 3) := by decide +kernel
theorem dX8_isWord_100 : decode cX8_isWord 100 = .ok (.lload 8, 2) := by decide +kernel
theorem dX8_isWord_102 : decode cX8_isWord 102 = .ok (.goto 17, 3) := by decide +kernel
theorem dX8_isWord_105 : decode cX8_isWord 105 = .ok (.lload 8, 2) := by decide +kernel
theorem dX8_isWord_107 : decode cX8_isWord 107 = .ok (.ldc2_w 167, 3) := by decide +kernel
theorem dX8_isWord_110 : decode cX8_isWord 110 = .ok (.lmul, 1) := by decide +kernel
theorem dX8_isWord_111 : decode cX8_isWord 111 = .ok (.iload 6, 2) := by decide +kernel
theorem dX8_isWord_113 : decode cX8_isWord 113 = .ok (.i2l, 1) := by decide +kernel
theorem dX8_isWord_114 : decode cX8_isWord 114 = .ok (.ladd, 1) := by decide +kernel
theorem dX8_isWord_115 : decode cX8_isWord 115 = .ok (.ldc2_w 169, 3) := by decide +kernel
theorem dX8_isWord_118 : decode cX8_isWord 118 = .ok (.lsub, 1) := by decide +kernel
theorem dX8_isWord_119 : decode cX8_isWord 119 = .ok (.lstore 8, 2) := by decide +kernel
theorem dX8_isWord_121 : decode cX8_isWord 121 = .ok (.iload 7, 2) := by decide +kernel
theorem dX8_isWord_123 : decode cX8_isWord 123 = .ok (.ifCond .ne 8, 3) := by decide +kernel
theorem dX8_isWord_126 : decode cX8_isWord 126 = .ok (.lload 8, 2) := by decide +kernel
theorem dX8_isWord_128 : decode cX8_isWord 128 = .ok (.goto 17, 3) := by decide +kernel
theorem dX8_isWord_131 : decode cX8_isWord 131 = .ok (.lload 8, 2) := by decide +kernel
theorem dX8_isWord_133 : decode cX8_isWord 133 = .ok (.ldc2_w 167, 3) := by decide +kernel
theorem dX8_isWord_136 : decode cX8_isWord 136 = .ok (.lmul, 1) := by decide +kernel
theorem dX8_isWord_137 : decode cX8_isWord 137 = .ok (.iload 7, 2) := by decide +kernel
theorem dX8_isWord_139 : decode cX8_isWord 139 = .ok (.i2l, 1) := by decide +kernel
theorem dX8_isWord_140 : decode cX8_isWord 140 = .ok (.ladd, 1) := by decide +kernel
theorem dX8_isWord_141 : decode cX8_isWord 141 = .ok (.ldc2_w 169, 3) := by decide +kernel
theorem dX8_isWord_144 : decode cX8_isWord 144 = .ok (.lsub, 1) := by decide +kernel
theorem dX8_isWord_145 : decode cX8_isWord 145 = .ok (.lstore 8, 2) := by decide +kernel
theorem dX8_isWord_147 : decode cX8_isWord 147 = .ok (.aload_n 0, 1) := by decide +kernel
theorem dX8_isWord_148 : decode cX8_isWord 148 = .ok (.getfield 164, 3) := by decide +kernel
theorem dX8_isWord_151 : decode cX8_isWord 151 = .ok (.iconst 1, 1) := by decide +kernel
theorem dX8_isWord_152 : decode cX8_isWord 152 = .ok (.if_icmp .ne 17, 3) := by decide +kernel
theorem dX8_isWord_155 : decode cX8_isWord 155 = .ok (.aload_n 0, 1) := by decide +kernel
theorem dX8_isWord_156 : decode cX8_isWord 156 = .ok (.getfield 154, 3) := by decide +kernel
theorem dX8_isWord_159 : decode cX8_isWord 159 = .ok (.lload 8, 2) := by decide +kernel
theorem dX8_isWord_161 : decode cX8_isWord 161 = .ok (.lcmp, 1) := by decide +kernel
theorem dX8_isWord_162 : decode cX8_isWord 162 = .ok (.ifCond .ne 7, 3) := by decide +kernel
theorem dX8_isWord_165 : decode cX8_isWord 165 = .ok (.iconst 1, 1) := by decide +kernel
theorem dX8_isWord_166 : decode cX8_isWord 166 = .ok (.goto 4, 3) := by decide +kernel
theorem dX8_isWord_169 : decode cX8_isWord 169 = .ok (.iconst 0, 1) := by decide +kernel
theorem dX8_isWord_170 : decode cX8_isWord 170 = .ok (.ireturn, 1) := by decide +kernel
theorem dX8_must_0 : decode cX8_must 0 = .ok (.aload_n 0, 1) := by decide +kernel
theorem dX8_must_1 : decode cX8_must 1 = .ok (.getfield 177, 3) := by decide +kernel
theorem dX8_must_4 : decode cX8_must 4 = .ok (.ifCond .ne 20, 3) := by decide +kernel
theorem dX8_must_7 : decode cX8_must 7 = .ok (.iload_n 1, 1) := by decide +kernel
theorem dX8_must_8 : decode cX8_must 8 = .ok (.ifCond .ne 16, 3) := by decide +kernel
theorem dX8_must_11 : decode cX8_must 11 = .ok (.aload_n 0, 1) := by decide +kernel
theorem dX8_must_12 : decode cX8_must 12 = .ok (.iconst 1, 1) := by decide +kernel
theorem dX8_must_13 : decode cX8_must 13 = .ok (.putfield 177, 3) := by decide +kernel
theorem dX8_must_16 : decode cX8_must 16 = .ok (.aload_n 0, 1) := by decide +kernel
theorem dX8_must_17 : decode cX8_must 17 = .ok (.aload_n 0, 1) := by decide +kernel
theorem dX8_must_18 : decode cX8_must 18 = .ok (.getfield 151, 3) := by decide +kernel
theorem dX8_must_21 : decode cX8_must 21 = .ok (.putfield 62, 3) := by decide +kernel
theorem dX8_must_24 : decode cX8_must 24 = .ok (.aload_n 0, 1) := by decide +kernel
theorem dX8_must_25 : decode cX8_must 25 = .ok (.getfield 177, 3) := by decide +kernel
theorem dX8_must_28 : decode cX8_must 28 = .ok (.ifCond .ne 7, 3) := by decide +kernel
theorem dX8_must_31 : decode cX8_must 31 = .ok (.aload_n 0, 1) := by decide +kernel
theorem dX8_must_32 : decode cX8_must 32 = .ok (.invokevirtual 181, 3) := by decide +kernel
theorem dX8_must_35 : decode cX8_must 35 = .ok (.return_, 1) := by decide +kernel
theorem dX8_number_0 : decode cX8_number 0 = .ok (.aload_n 0, 1) := by decide +kernel
theorem dX8_number_1 : decode cX8_number 1 = .ok (.getfield 154, 3) := by decide +kernel
theorem dX8_number_4 : decode cX8_number 4 = .ok (.l2i, 1) := by decide +kernel
theorem dX8_number_5 : decode cX8_number 5 = .ok (.istore_n 3, 1) := by decide +kernel
theorem dX8_number_6 : decode cX8_number 6 = .ok (.aload_n 0, 1) := by decide +kernel
theorem dX8_number_7 : decode cX8_number 7 = .ok (.aload_n 0, 1) := by decide +kernel
theorem dX8_number_8 : decode cX8_number 8 = .ok (.getfield 164, 3) := by decide +kernel
theorem dX8_number_11 : decode cX8_number 11 = .ok (.iconst 2, 1) := by decide +kernel
theorem dX8_number_12 : decode cX8_number 12 = .ok (.if_icmp .ne 21, 3) := by decide +kernel
theorem dX8_number_15 : decode cX8_number 15 = .ok (.aload_n 0, 1) := by decide +kernel
theorem dX8_number_16 : decode cX8_number 16 = .ok (.getfield 154, 3) := by decide +kernel
theorem dX8_number_19 : decode cX8_number 19 = .ok (.lload_n 1, 1) := by decide +kernel
theorem dX8_number_20 : decode cX8_number 20 = .ok (.ldc2_w 127, 3) := by decide +kernel
theorem dX8_number_23 : decode cX8_number 23 = .ok (.invokestatic 86, 3) := by decide +kernel
theorem dX8_number_26 : decode cX8_number 26 = .ok (.ifCond .eq 7, 3) := by decide +kernel
theorem dX8_number_29 : decode cX8_number 29 = .ok (.iconst 1, 1) := by decide +kernel
theorem dX8_number_30 : decode cX8_number 30 = .ok (.goto 4, 3) := by decide +kernel
theorem dX8_number_33 : decode cX8_number 33 = .ok (.iconst 0, 1) := by decide +kernel
theorem dX8_number_34 : decode cX8_number 34 = .ok (.invokevirtual 184, 3) := by decide +kernel
theorem dX8_number_37 : decode cX8_number 37 = .ok (.iload_n 3, 1) := by decide +kernel
theorem dX8_number_38 : decode cX8_number 38 = .ok (.ireturn, 1) := by decide +kernel
theorem dX8_readDecree_0 : decode cX8_readDecree 0 = .ok (.aload_n 0, 1) := by decide +kernel
theorem dX8_readDecree_1 : decode cX8_readDecree 1 = .ok (.bipush 116, 2) := by decide +kernel
theorem dX8_readDecree_3 : decode cX8_readDecree 3 = .ok (.bipush 97, 2) := by decide +kernel
theorem dX8_readDecree_5 : decode cX8_readDecree 5 = .ok (.bipush 120, 2) := by decide +kernel
theorem dX8_readDecree_7 : decode cX8_readDecree 7 = .ok (.iconst 0, 1) := by decide +kernel
theorem dX8_readDecree_8 : decode cX8_readDecree 8 = .ok (.iconst 0, 1) := by decide +kernel
theorem dX8_readDecree_9 : decode cX8_readDecree 9 = .ok (.iconst 0, 1) := by decide +kernel
theorem dX8_readDecree_10 : decode cX8_readDecree 10 = .ok (.iconst 0, 1) := by decide +kernel
theorem dX8_readDecree_11 : decode cX8_readDecree 11 = .ok (.invokevirtual 188, 3) := by decide +kernel
theorem dX8_readDecree_14 : decode cX8_readDecree 14 = .ok (.ifCond .eq 7, 3) := by decide +kernel
theorem dX8_readDecree_17 : decode cX8_readDecree 17 = .ok (.iconst 0, 1) := by decide +kernel
theorem dX8_readDecree_18 : decode cX8_readDecree 18 = .ok (.goto 75, 3) := by decide +kernel
theorem dX8_readDecree_21 : decode cX8_readDecree 21 = .ok (.aload_n 0, 1) := by decide +kernel
theorem dX8_readDecree_22 : decode cX8_readDecree 22 = .ok (.bipush 114, 2) := by decide +kernel
theorem dX8_readDecree_24 : decode cX8_readDecree 24 = .ok (.bipush 101, 2) := by decide +kernel
theorem dX8_readDecree_26 : decode cX8_readDecree 26 = .ok (.bipush 108, 2) := by decide +kernel
theorem dX8_readDecree_28 : decode cX8_readDecree 28 = .ok (.bipush 105, 2) := by decide +kernel
theorem dX8_readDecree_30 : decode cX8_readDecree 30 = .ok (.bipush 101, 2) := by decide +kernel
theorem dX8_readDecree_32 : decode cX8_readDecree 32 = .ok (.bipush 102, 2) := by decide +kernel
theorem dX8_readDecree_34 : decode cX8_readDecree 34 = .ok (.iconst 0, 1) := by decide +kernel
theorem dX8_readDecree_35 : decode cX8_readDecree 35 = .ok (.invokevirtual 188, 3) := by decide +kernel
theorem dX8_readDecree_38 : decode cX8_readDecree 38 = .ok (.ifCond .eq 7, 3) := by decide +kernel
theorem dX8_readDecree_41 : decode cX8_readDecree 41 = .ok (.iconst 1, 1) := by decide +kernel
theorem dX8_readDecree_42 : decode cX8_readDecree 42 = .ok (.goto 51, 3) := by decide +kernel
theorem dX8_readDecree_45 : decode cX8_readDecree 45 = .ok (.aload_n 0, 1) := by decide +kernel
theorem dX8_readDecree_46 : decode cX8_readDecree 46 = .ok (.bipush 102, 2) := by decide +kernel
theorem dX8_readDecree_48 : decode cX8_readDecree 48 = .ok (.bipush 114, 2) := by decide +kernel
theorem dX8_readDecree_50 : decode cX8_readDecree 50 = .ok (.bipush 101, 2) := by decide +kernel
theorem dX8_readDecree_52 : decode cX8_readDecree 52 = .ok (.bipush 101, 2) := by decide +kernel
theorem dX8_readDecree_54 : decode cX8_readDecree 54 = .ok (.iconst 0, 1) := by decide +kernel
theorem dX8_readDecree_55 : decode cX8_readDecree 55 = .ok (.iconst 0, 1) := by decide +kernel
theorem dX8_readDecree_56 : decode cX8_readDecree 56 = .ok (.iconst 0, 1) := by decide +kernel
theorem dX8_readDecree_57 : decode cX8_readDecree 57 = .ok (.invokevirtual 188, 3) := by decide +kernel
theorem dX8_readDecree_60 : decode cX8_readDecree 60 = .ok (.ifCond .eq 7, 3) := by decide +kernel
theorem dX8_readDecree_63 : decode cX8_readDecree 63 = .ok (.iconst 2, 1) := by decide +kernel
theorem dX8_readDecree_64 : decode cX8_readDecree 64 = .ok (.goto 29, 3) := by decide +kernel
theorem dX8_readDecree_67 : decode cX8_readDecree 67 = .ok (.aload_n 0, 1) := by decide +kernel
theorem dX8_readDecree_68 : decode cX8_readDecree 68 = .ok (.bipush 111, 2) := by decide +kernel
theorem dX8_readDecree_70 : decode cX8_readDecree 70 = .ok (.bipush 102, 2) := by decide +kernel
theorem dX8_readDecree_72 : decode cX8_readDecree 72 = .ok (.bipush 102, 2) := by decide +kernel
theorem dX8_readDecree_74 : decode cX8_readDecree 74 = .ok (.bipush 105, 2) := by decide +kernel
theorem dX8_readDecree_76 : decode cX8_readDecree 76 = .ok (.bipush 99, 2) := by decide +kernel
theorem dX8_readDecree_78 : decode cX8_readDecree 78 = .ok (.bipush 101, 2) := by decide +kernel
theorem dX8_readDecree_80 : decode cX8_readDecree 80 = .ok (.bipush 114, 2) := by decide +kernel
theorem dX8_readDecree_82 : decode cX8_readDecree 82 = .ok (.invokevirtual 188, 3) := by decide +kernel
theorem dX8_readDecree_85 : decode cX8_readDecree 85 = .ok (.ifCond .eq 7, 3) := by decide +kernel
theorem dX8_readDecree_88 : decode cX8_readDecree 88 = .ok (.iconst 3, 1) := by decide +kernel
theorem dX8_readDecree_89 : decode cX8_readDecree 89 = .ok (.goto 4, 3) := by decide +kernel
theorem dX8_readDecree_92 : decode cX8_readDecree 92 = .ok (.iconst (-1), 1) := by decide +kernel
theorem dX8_readDecree_93 : decode cX8_readDecree 93 = .ok (.istore_n 1, 1) := by decide +kernel
theorem dX8_readDecree_94 : decode cX8_readDecree 94 = .ok (.aload_n 0, 1) := by decide +kernel
theorem dX8_readDecree_95 : decode cX8_readDecree 95 = .ok (.iload_n 1, 1) := by decide +kernel
theorem dX8_readDecree_96 : decode cX8_readDecree 96 = .ok (.ifCond .lt 16, 3) := by decide +kernel
theorem dX8_readDecree_99 : decode cX8_readDecree 99 = .ok (.aload_n 0, 1) := by decide +kernel
theorem dX8_readDecree_100 : decode cX8_readDecree 100 = .ok (.getfield 192, 3) := by decide +kernel
theorem dX8_readDecree_103 : decode cX8_readDecree 103 = .ok (.bipush 20, 2) := by decide +kernel
theorem dX8_readDecree_105 : decode cX8_readDecree 105 = .ok (.if_icmp .ge 7, 3) := by decide +kernel
theorem dX8_readDecree_108 : decode cX8_readDecree 108 = .ok (.iconst 1, 1) := by decide +kernel
theorem dX8_readDecree_109 : decode cX8_readDecree 109 = .ok (.goto 4, 3) := by decide +kernel
theorem dX8_readDecree_112 : decode cX8_readDecree 112 = .ok (.iconst 0, 1) := by decide +kernel
theorem dX8_readDecree_113 : decode cX8_readDecree 113 = .ok (.invokevirtual 184, 3) := by decide +kernel
theorem dX8_readDecree_116 : decode cX8_readDecree 116 = .ok (.aload_n 0, 1) := by decide +kernel
theorem dX8_readDecree_117 : decode cX8_readDecree 117 = .ok (.lconst 0, 1) := by decide +kernel
theorem dX8_readDecree_118 : decode cX8_readDecree 118 = .ok (.invokevirtual 195, 3) := by decide +kernel
theorem dX8_readDecree_121 : decode cX8_readDecree 121 = .ok (.istore_n 2, 1) := by decide +kernel
theorem dX8_readDecree_122 : decode cX8_readDecree 122 = .ok (.iconst 0, 1) := by decide +kernel
theorem dX8_readDecree_123 : decode cX8_readDecree 123 = .ok (.istore_n 3, 1) := by decide +kernel
theorem dX8_readDecree_124 : decode cX8_readDecree 124 = .ok (.iconst 0, 1) := by decide +kernel
theorem dX8_readDecree_125 : decode cX8_readDecree 125 = .ok (.istore 4, 2) := by decide +kernel
theorem dX8_readDecree_127 : decode cX8_readDecree 127 = .ok (.iload_n 1, 1) := by decide +kernel
theorem dX8_readDecree_128 : decode cX8_readDecree 128 = .ok (.iconst 2, 1) := by decide +kernel
theorem dX8_readDecree_129 : decode cX8_readDecree 129 = .ok (.if_icmp .eq 36, 3) := by decide +kernel
theorem dX8_readDecree_132 : decode cX8_readDecree 132 = .ok (.aload_n 0, 1) := by decide +kernel
theorem dX8_readDecree_133 : decode cX8_readDecree 133 = .ok (.aload_n 0, 1) := by decide +kernel
theorem dX8_readDecree_134 : decode cX8_readDecree 134 = .ok (.bipush 111, 2) := by decide +kernel
theorem dX8_readDecree_136 : decode cX8_readDecree 136 = .ok (.bipush 102, 2) := by decide +kernel
theorem dX8_readDecree_138 : decode cX8_readDecree 138 = .ok (.iconst 0, 1) := by decide +kernel
theorem dX8_readDecree_139 : decode cX8_readDecree 139 = .ok (.iconst 0, 1) := by decide +kernel
theorem dX8_readDecree_140 : decode cX8_readDecree 140 = .ok (.iconst 0, 1) := by decide +kernel
theorem dX8_readDecree_141 : decode cX8_readDecree 141 = .ok (.iconst 0, 1) := by decide +kernel
theorem dX8_readDecree_142 : decode cX8_readDecree 142 = .ok (.iconst 0, 1) := by decide +kernel
theorem dX8_readDecree_143 : decode cX8_readDecree 143 = .ok (.invokevirtual 188, 3) := by decide +kernel
theorem dX8_readDecree_146 : decode cX8_readDecree 146 = .ok (.invokevirtual 184, 3) := by decide +kernel
theorem dX8_readDecree_149 : decode cX8_readDecree 149 = .ok (.aload_n 0, 1) := by decide +kernel
theorem dX8_readDecree_150 : decode cX8_readDecree 150 = .ok (.iload_n 2, 1) := by decide +kernel
theorem dX8_readDecree_151 : decode cX8_readDecree 151 = .ok (.iconst 1, 1) := by decide +kernel
theorem dX8_readDecree_152 : decode cX8_readDecree 152 = .ok (.if_icmp .ge 7, 3) := by decide +kernel
theorem dX8_readDecree_155 : decode cX8_readDecree 155 = .ok (.lconst 1, 1) := by decide +kernel
theorem dX8_readDecree_156 : decode cX8_readDecree 156 = .ok (.goto 5, 3) := by decide +kernel
theorem dX8_readDecree_159 : decode cX8_readDecree 159 = .ok (.iload_n 2, 1) := by decide +kernel
theorem dX8_readDecree_160 : decode cX8_readDecree 160 = .ok (.i2l, 1) := by decide +kernel
theorem dX8_readDecree_161 : decode cX8_readDecree 161 = .ok (.invokevirtual 195, 3) := by decide +kernel
theorem dX8_readDecree_164 : decode cX8_readDecree 164 = .ok (.istore_n 3, 1) := by decide +kernel
theorem dX8_readDecree_165 : decode cX8_readDecree 165 = .ok (.iload_n 1, 1) := by decide +kernel
theorem dX8_readDecree_166 : decode cX8_readDecree 166 = .ok (.iconst 2, 1) := by decide +kernel
theorem dX8_readDecree_167 : decode cX8_readDecree 167 = .ok (.if_icmp .ge 52, 3) := by decide +kernel
theorem dX8_readDecree_170 : decode cX8_readDecree 170 = .ok (.aload_n 0, 1) := by decide +kernel
theorem dX8_readDecree_171 : decode cX8_readDecree 171 = .ok (.iload_n 1, 1) := by decide +kernel
theorem dX8_readDecree_172 : decode cX8_readDecree 172 = .ok (.ifCond .ne 21, 3) := by decide +kernel
theorem dX8_readDecree_175 : decode cX8_readDecree 175 = .ok (.aload_n 0, 1) := by decide +kernel
theorem dX8_readDecree_176 : decode cX8_readDecree 176 = .ok (.bipush 102, 2) := by decide +kernel
theorem dX8_readDecree_178 : decode cX8_readDecree 178 = .ok (.bipush 114, 2) := by decide +kernel
theorem dX8_readDecree_180 : decode cX8_readDecree 180 = .ok (.bipush 111, 2) := by decide +kernel
theorem dX8_readDecree_182 : decode cX8_readDecree 182 = .ok (.bipush 109, 2) := by decide +kernel
theorem dX8_readDecree_184 : decode cX8_readDecree 184 = .ok (.iconst 0, 1) := by decide +kernel
theorem dX8_readDecree_185 : decode cX8_readDecree 185 = .ok (.iconst 0, 1) := by decide +kernel
theorem dX8_readDecree_186 : decode cX8_readDecree 186 = .ok (.iconst 0, 1) := by decide +kernel
theorem dX8_readDecree_187 : decode cX8_readDecree 187 = .ok (.invokevirtual 188, 3) := by decide +kernel
theorem dX8_readDecree_190 : decode cX8_readDecree 190 = .ok (.goto 19, 3) := by decide +kernel
theorem dX8_readDecree_193 : decode cX8_readDecree 193 = .ok (.aload_n 0, 1) := by decide +kernel
theorem dX8_readDecree_194 : decode cX8_readDecree 194 = .ok (.bipush 98, 2) := by decide +kernel
theorem dX8_readDecree_196 : decode cX8_readDecree 196 = .ok (.bipush 101, 2) := by decide +kernel
theorem dX8_readDecree_198 : decode cX8_readDecree 198 = .ok (.bipush 108, 2) := by decide +kernel
theorem dX8_readDecree_200 : decode cX8_readDecree 200 = .ok (.bipush 111, 2) := by decide +kernel
theorem dX8_readDecree_202 : decode cX8_readDecree 202 = .ok (.bipush 119, 2) := by decide +kernel
theorem dX8_readDecree_204 : decode cX8_readDecree 204 = .ok (.iconst 0, 1) := by decide +kernel
theorem dX8_readDecree_205 : decode cX8_readDecree 205 = .ok (.iconst 0, 1) := by decide +kernel
theorem dX8_readDecree_206 : decode cX8_readDecree 206 = .ok (.invokevirtual 188, 3) := by decide +kernel
theorem dX8_readDecree_209 : decode cX8_readDecree 209 = .ok (.invokevirtual 184, 3) := by decide +kernel
theorem dX8_readDecree_212 : decode cX8_readDecree 212 = .ok (.aload_n 0, 1) := by decide +kernel
theorem dX8_readDecree_213 : decode cX8_readDecree 213 = .ok (.lconst 0, 1) := by decide +kernel
theorem dX8_readDecree_214 : decode cX8_readDecree 214 = .ok (.invokevirtual 195, 3) := by decide +kernel
theorem dX8_readDecree_217 : decode cX8_readDecree 217 = .ok (.istore 4, 2) := by decide +kernel
theorem dX8_readDecree_219 : decode cX8_readDecree 219 = .ok (.aload_n 0, 1) := by decide +kernel
theorem dX8_readDecree_220 : decode cX8_readDecree 220 = .ok (.getfield 177, 3) := by decide +kernel
theorem dX8_readDecree_223 : decode cX8_readDecree 223 = .ok (.ifCond .eq 4, 3) := by decide +kernel
theorem dX8_readDecree_226 : decode cX8_readDecree 226 = .ok (.return_, 1) := by decide +kernel
theorem dX8_readDecree_227 : decode cX8_readDecree 227 = .ok (.aload_n 0, 1) := by decide +kernel
theorem dX8_readDecree_228 : decode cX8_readDecree 228 = .ok (.getfield 56, 3) := by decide +kernel
theorem dX8_readDecree_231 : decode cX8_readDecree 231 = .ok (.iconst 4, 1) := by decide +kernel
theorem dX8_readDecree_232 : decode cX8_readDecree 232 = .ok (.aload_n 0, 1) := by decide +kernel
theorem dX8_readDecree_233 : decode cX8_readDecree 233 = .ok (.getfield 192, 3) := by decide +kernel
theorem dX8_readDecree_236 : decode cX8_readDecree 236 = .ok (.imul, 1) := by decide +kernel
theorem dX8_readDecree_237 : decode cX8_readDecree 237 = .ok (.iload_n 1, 1) := by decide +kernel
theorem dX8_readDecree_238 : decode cX8_readDecree 238 = .ok (.iastore, 1) := by decide +kernel
theorem dX8_readDecree_239 : decode cX8_readDecree 239 = .ok (.aload_n 0, 1) := by decide +kernel
theorem dX8_readDecree_240 : decode cX8_readDecree 240 = .ok (.getfield 56, 3) := by decide +kernel
theorem dX8_readDecree_243 : decode cX8_readDecree 243 = .ok (.iconst 4, 1) := by decide +kernel
theorem dX8_readDecree_244 : decode cX8_readDecree 244 = .ok (.aload_n 0, 1) := by decide +kernel
theorem dX8_readDecree_245 : decode cX8_readDecree 245 = .ok (.getfield 192, 3) := by decide +kernel
theorem dX8_readDecree_248 : decode cX8_readDecree 248 = .ok (.imul, 1) := by decide +kernel
theorem dX8_readDecree_249 : decode cX8_readDecree 249 = .ok (.iconst 1, 1) := by decide +kernel
theorem dX8_readDecree_250 : decode cX8_readDecree 250 = .ok (.iadd, 1) := by decide +kernel
theorem dX8_readDecree_251 : decode cX8_readDecree 251 = .ok (.iload_n 2, 1) := by decide +kernel
theorem dX8_readDecree_252 : decode cX8_readDecree 252 = .ok (.iastore, 1) := by decide +kernel
theorem dX8_readDecree_253 : decode cX8_readDecree 253 = .ok (.aload_n 0, 1) := by decide +kernel
theorem dX8_readDecree_254 : decode cX8_readDecree 254 = .ok (.getfield 56, 3) := by decide +kernel
theorem dX8_readDecree_257 : decode cX8_readDecree 257 = .ok (.iconst 4, 1) := by decide +kernel
theorem dX8_readDecree_258 : decode cX8_readDecree 258 = .ok (.aload_n 0, 1) := by decide +kernel
theorem dX8_readDecree_259 : decode cX8_readDecree 259 = .ok (.getfield 192, 3) := by decide +kernel
theorem dX8_readDecree_262 : decode cX8_readDecree 262 = .ok (.imul, 1) := by decide +kernel
theorem dX8_readDecree_263 : decode cX8_readDecree 263 = .ok (.iconst 2, 1) := by decide +kernel
theorem dX8_readDecree_264 : decode cX8_readDecree 264 = .ok (.iadd, 1) := by decide +kernel
theorem dX8_readDecree_265 : decode cX8_readDecree 265 = .ok (.iload_n 3, 1) := by decide +kernel
theorem dX8_readDecree_266 : decode cX8_readDecree 266 = .ok (.iastore, 1) := by decide +kernel
theorem dX8_readDecree_267 : decode cX8_readDecree 267 = .ok (.aload_n 0, 1) := by decide +kernel
theorem dX8_readDecree_268 : decode cX8_readDecree 268 = .ok (.getfield 56, 3) := by decide +kernel
theorem dX8_readDecree_271 : decode cX8_readDecree 271 = .ok (.iconst 4, 1) := by decide +kernel
theorem dX8_readDecree_272 : decode cX8_readDecree 272 = .ok (.aload_n 0, 1) := by decide +kernel
theorem dX8_readDecree_273 : decode cX8_readDecree 273 = .ok (.getfield 192, 3) := by decide +kernel
theorem dX8_readDecree_276 : decode cX8_readDecree 276 = .ok (.imul, 1) := by decide +kernel
theorem dX8_readDecree_277 : decode cX8_readDecree 277 = .ok (.iconst 3, 1) := by decide +kernel
theorem dX8_readDecree_278 : decode cX8_readDecree 278 = .ok (.iadd, 1) := by decide +kernel
theorem dX8_readDecree_279 : decode cX8_readDecree 279 = .ok (.iload 4, 2) := by decide +kernel
theorem dX8_readDecree_281 : decode cX8_readDecree 281 = .ok (.iastore, 1) := by decide +kernel
theorem dX8_readDecree_282 : decode cX8_readDecree 282 = .ok (.aload_n 0, 1) := by decide +kernel
theorem dX8_readDecree_283 : decode cX8_readDecree 283 = .ok (.dup, 1) := by decide +kernel
theorem dX8_readDecree_284 : decode cX8_readDecree 284 = .ok (.getfield 192, 3) := by decide +kernel
theorem dX8_readDecree_287 : decode cX8_readDecree 287 = .ok (.iconst 1, 1) := by decide +kernel
theorem dX8_readDecree_288 : decode cX8_readDecree 288 = .ok (.iadd, 1) := by decide +kernel
theorem dX8_readDecree_289 : decode cX8_readDecree 289 = .ok (.putfield 192, 3) := by decide +kernel
theorem dX8_readDecree_292 : decode cX8_readDecree 292 = .ok (.return_, 1) := by decide +kernel
theorem dX8_decrees_0 : decode cX8_decrees 0 = .ok (.aload_n 0, 1) := by decide +kernel
theorem dX8_decrees_1 : decode cX8_decrees 1 = .ok (.iconst 0, 1) := by decide +kernel
theorem dX8_decrees_2 : decode cX8_decrees 2 = .ok (.putfield 78, 3) := by decide +kernel
theorem dX8_decrees_5 : decode cX8_decrees 5 = .ok (.aload_n 0, 1) := by decide +kernel
theorem dX8_decrees_6 : decode cX8_decrees 6 = .ok (.iconst 0, 1) := by decide +kernel
theorem dX8_decrees_7 : decode cX8_decrees 7 = .ok (.putfield 148, 3) := by decide +kernel
theorem dX8_decrees_10 : decode cX8_decrees 10 = .ok (.aload_n 0, 1) := by decide +kernel
theorem dX8_decrees_11 : decode cX8_decrees 11 = .ok (.iconst 0, 1) := by decide +kernel
theorem dX8_decrees_12 : decode cX8_decrees 12 = .ok (.putfield 177, 3) := by decide +kernel
theorem dX8_decrees_15 : decode cX8_decrees 15 = .ok (.aload_n 0, 1) := by decide +kernel
theorem dX8_decrees_16 : decode cX8_decrees 16 = .ok (.iconst (-1), 1) := by decide +kernel
theorem dX8_decrees_17 : decode cX8_decrees 17 = .ok (.putfield 62, 3) := by decide +kernel
theorem dX8_decrees_20 : decode cX8_decrees 20 = .ok (.aload_n 0, 1) := by decide +kernel
theorem dX8_decrees_21 : decode cX8_decrees 21 = .ok (.iconst 0, 1) := by decide +kernel
theorem dX8_decrees_22 : decode cX8_decrees 22 = .ok (.putfield 192, 3) := by decide +kernel
theorem dX8_decrees_25 : decode cX8_decrees 25 = .ok (.aload_n 0, 1) := by decide +kernel
theorem dX8_decrees_26 : decode cX8_decrees 26 = .ok (.invokevirtual 181, 3) := by decide +kernel
theorem dX8_decrees_29 : decode cX8_decrees 29 = .ok (.aload_n 0, 1) := by decide +kernel
theorem dX8_decrees_30 : decode cX8_decrees 30 = .ok (.getfield 164, 3) := by decide +kernel
theorem dX8_decrees_33 : decode cX8_decrees 33 = .ok (.ifCond .eq 63, 3) := by decide +kernel
theorem dX8_decrees_36 : decode cX8_decrees 36 = .ok (.aload_n 0, 1) := by decide +kernel
theorem dX8_decrees_37 : decode cX8_decrees 37 = .ok (.invokevirtual 199, 3) := by decide +kernel
theorem dX8_decrees_40 : decode cX8_decrees 40 = .ok (.aload_n 0, 1) := by decide +kernel
theorem dX8_decrees_41 : decode cX8_decrees 41 = .ok (.getfield 177, 3) := by decide +kernel
theorem dX8_decrees_44 : decode cX8_decrees 44 = .ok (.ifCond .ne 33, 3) := by decide +kernel
theorem dX8_decrees_47 : decode cX8_decrees 47 = .ok (.aload_n 0, 1) := by decide +kernel
theorem dX8_decrees_48 : decode cX8_decrees 48 = .ok (.getfield 164, 3) := by decide +kernel
theorem dX8_decrees_51 : decode cX8_decrees 51 = .ok (.iconst 3, 1) := by decide +kernel
theorem dX8_decrees_52 : decode cX8_decrees 52 = .ok (.if_icmp .ne 25, 3) := by decide +kernel
theorem dX8_decrees_55 : decode cX8_decrees 55 = .ok (.aload_n 0, 1) := by decide +kernel
theorem dX8_decrees_56 : decode cX8_decrees 56 = .ok (.getfield 154, 3) := by decide +kernel
theorem dX8_decrees_59 : decode cX8_decrees 59 = .ok (.ldc2_w 202, 3) := by decide +kernel
theorem dX8_decrees_62 : decode cX8_decrees 62 = .ok (.lcmp, 1) := by decide +kernel
theorem dX8_decrees_63 : decode cX8_decrees 63 = .ok (.ifCond .ne 14, 3) := by decide +kernel
theorem dX8_decrees_66 : decode cX8_decrees 66 = .ok (.aload_n 0, 1) := by decide +kernel
theorem dX8_decrees_67 : decode cX8_decrees 67 = .ok (.invokevirtual 181, 3) := by decide +kernel
theorem dX8_decrees_70 : decode cX8_decrees 70 = .ok (.aload_n 0, 1) := by decide +kernel
theorem dX8_decrees_71 : decode cX8_decrees 71 = .ok (.invokevirtual 199, 3) := by decide +kernel
theorem dX8_decrees_74 : decode cX8_decrees 74 = .ok (.goto (-34), 3) := by decide +kernel
theorem dX8_decrees_77 : decode cX8_decrees 77 = .ok (.aload_n 0, 1) := by decide +kernel
theorem dX8_decrees_78 : decode cX8_decrees 78 = .ok (.getfield 177, 3) := by decide +kernel
theorem dX8_decrees_81 : decode cX8_decrees 81 = .ok (.ifCond .ne 15, 3) := by decide +kernel
theorem dX8_decrees_84 : decode cX8_decrees 84 = .ok (.aload_n 0, 1) := by decide +kernel
theorem dX8_decrees_85 : decode cX8_decrees 85 = .ok (.getfield 164, 3) := by decide +kernel
theorem dX8_decrees_88 : decode cX8_decrees 88 = .ok (.ifCond .eq 8, 3) := by decide +kernel
theorem dX8_decrees_91 : decode cX8_decrees 91 = .ok (.aload_n 0, 1) := by decide +kernel
theorem dX8_decrees_92 : decode cX8_decrees 92 = .ok (.iconst 0, 1) := by decide +kernel
theorem dX8_decrees_93 : decode cX8_decrees 93 = .ok (.invokevirtual 184, 3) := by decide +kernel
theorem dX8_decrees_96 : decode cX8_decrees 96 = .ok (.aload_n 0, 1) := by decide +kernel
theorem dX8_decrees_97 : decode cX8_decrees 97 = .ok (.iconst 0, 1) := by decide +kernel
theorem dX8_decrees_98 : decode cX8_decrees 98 = .ok (.putfield 141, 3) := by decide +kernel
theorem dX8_decrees_101 : decode cX8_decrees 101 = .ok (.aload_n 0, 1) := by decide +kernel
theorem dX8_decrees_102 : decode cX8_decrees 102 = .ok (.getfield 177, 3) := by decide +kernel
theorem dX8_decrees_105 : decode cX8_decrees 105 = .ok (.ifCond .eq 10, 3) := by decide +kernel
theorem dX8_decrees_108 : decode cX8_decrees 108 = .ok (.aload_n 0, 1) := by decide +kernel
theorem dX8_decrees_109 : decode cX8_decrees 109 = .ok (.bipush (-6), 2) := by decide +kernel
theorem dX8_decrees_111 : decode cX8_decrees 111 = .ok (.invokevirtual 101, 3) := by decide +kernel
theorem dX8_decrees_114 : decode cX8_decrees 114 = .ok (.ireturn, 1) := by decide +kernel
theorem dX8_decrees_115 : decode cX8_decrees 115 = .ok (.aload_n 0, 1) := by decide +kernel
theorem dX8_decrees_116 : decode cX8_decrees 116 = .ok (.aload_n 0, 1) := by decide +kernel
theorem dX8_decrees_117 : decode cX8_decrees 117 = .ok (.getfield 192, 3) := by decide +kernel
theorem dX8_decrees_120 : decode cX8_decrees 120 = .ok (.putfield 204, 3) := by decide +kernel
theorem dX8_decrees_123 : decode cX8_decrees 123 = .ok (.iconst 0, 1) := by decide +kernel
theorem dX8_decrees_124 : decode cX8_decrees 124 = .ok (.istore_n 1, 1) := by decide +kernel
theorem dX8_decrees_125 : decode cX8_decrees 125 = .ok (.iload_n 1, 1) := by decide +kernel
theorem dX8_decrees_126 : decode cX8_decrees 126 = .ok (.aload_n 0, 1) := by decide +kernel
theorem dX8_decrees_127 : decode cX8_decrees 127 = .ok (.getfield 204, 3) := by decide +kernel
theorem dX8_decrees_130 : decode cX8_decrees 130 = .ok (.if_icmp .ge 71, 3) := by decide +kernel
theorem dX8_decrees_133 : decode cX8_decrees 133 = .ok (.aload_n 0, 1) := by decide +kernel
theorem dX8_decrees_134 : decode cX8_decrees 134 = .ok (.getfield 44, 3) := by decide +kernel
theorem dX8_decrees_137 : decode cX8_decrees 137 = .ok (.iload_n 1, 1) := by decide +kernel
theorem dX8_decrees_138 : decode cX8_decrees 138 = .ok (.aload_n 0, 1) := by decide +kernel
theorem dX8_decrees_139 : decode cX8_decrees 139 = .ok (.getfield 56, 3) := by decide +kernel
theorem dX8_decrees_142 : decode cX8_decrees 142 = .ok (.iconst 4, 1) := by decide +kernel
theorem dX8_decrees_143 : decode cX8_decrees 143 = .ok (.iload_n 1, 1) := by decide +kernel
theorem dX8_decrees_144 : decode cX8_decrees 144 = .ok (.imul, 1) := by decide +kernel
theorem dX8_decrees_145 : decode cX8_decrees 145 = .ok (.iaload, 1) := by decide +kernel
theorem dX8_decrees_146 : decode cX8_decrees 146 = .ok (.iastore, 1) := by decide +kernel
theorem dX8_decrees_147 : decode cX8_decrees 147 = .ok (.aload_n 0, 1) := by decide +kernel
theorem dX8_decrees_148 : decode cX8_decrees 148 = .ok (.getfield 47, 3) := by decide +kernel
theorem dX8_decrees_151 : decode cX8_decrees 151 = .ok (.iload_n 1, 1) := by decide +kernel
theorem dX8_decrees_152 : decode cX8_decrees 152 = .ok (.aload_n 0, 1) := by decide +kernel
theorem dX8_decrees_153 : decode cX8_decrees 153 = .ok (.getfield 56, 3) := by decide +kernel
theorem dX8_decrees_156 : decode cX8_decrees 156 = .ok (.iconst 4, 1) := by decide +kernel
theorem dX8_decrees_157 : decode cX8_decrees 157 = .ok (.iload_n 1, 1) := by decide +kernel
theorem dX8_decrees_158 : decode cX8_decrees 158 = .ok (.imul, 1) := by decide +kernel
theorem dX8_decrees_159 : decode cX8_decrees 159 = .ok (.iconst 1, 1) := by decide +kernel
theorem dX8_decrees_160 : decode cX8_decrees 160 = .ok (.iadd, 1) := by decide +kernel
theorem dX8_decrees_161 : decode cX8_decrees 161 = .ok (.iaload, 1) := by decide +kernel
theorem dX8_decrees_162 : decode cX8_decrees 162 = .ok (.iastore, 1) := by decide +kernel
theorem dX8_decrees_163 : decode cX8_decrees 163 = .ok (.aload_n 0, 1) := by decide +kernel
theorem dX8_decrees_164 : decode cX8_decrees 164 = .ok (.getfield 50, 3) := by decide +kernel
theorem dX8_decrees_167 : decode cX8_decrees 167 = .ok (.iload_n 1, 1) := by decide +kernel
theorem dX8_decrees_168 : decode cX8_decrees 168 = .ok (.aload_n 0, 1) := by decide +kernel
theorem dX8_decrees_169 : decode cX8_decrees 169 = .ok (.getfield 56, 3) := by decide +kernel
theorem dX8_decrees_172 : decode cX8_decrees 172 = .ok (.iconst 4, 1) := by decide +kernel
theorem dX8_decrees_173 : decode cX8_decrees 173 = .ok (.iload_n 1, 1) := by decide +kernel
theorem dX8_decrees_174 : decode cX8_decrees 174 = .ok (.imul, 1) := by decide +kernel
theorem dX8_decrees_175 : decode cX8_decrees 175 = .ok (.iconst 2, 1) := by decide +kernel
theorem dX8_decrees_176 : decode cX8_decrees 176 = .ok (.iadd, 1) := by decide +kernel
theorem dX8_decrees_177 : decode cX8_decrees 177 = .ok (.iaload, 1) := by decide +kernel
theorem dX8_decrees_178 : decode cX8_decrees 178 = .ok (.iastore, 1) := by decide +kernel
theorem dX8_decrees_179 : decode cX8_decrees 179 = .ok (.aload_n 0, 1) := by decide +kernel
theorem dX8_decrees_180 : decode cX8_decrees 180 = .ok (.getfield 53, 3) := by decide +kernel
theorem dX8_decrees_183 : decode cX8_decrees 183 = .ok (.iload_n 1, 1) := by decide +kernel
theorem dX8_decrees_184 : decode cX8_decrees 184 = .ok (.aload_n 0, 1) := by decide +kernel
theorem dX8_decrees_185 : decode cX8_decrees 185 = .ok (.getfield 56, 3) := by decide +kernel
theorem dX8_decrees_188 : decode cX8_decrees 188 = .ok (.iconst 4, 1) := by decide +kernel
theorem dX8_decrees_189 : decode cX8_decrees 189 = .ok (.iload_n 1, 1) := by decide +kernel
theorem dX8_decrees_190 : decode cX8_decrees 190 = .ok (.imul, 1) := by decide +kernel
theorem dX8_decrees_191 : decode cX8_decrees 191 = .ok (.iconst 3, 1) := by decide +kernel
theorem dX8_decrees_192 : decode cX8_decrees 192 = .ok (.iadd, 1) := by decide +kernel
theorem dX8_decrees_193 : decode cX8_decrees 193 = .ok (.iaload, 1) := by decide +kernel
theorem dX8_decrees_194 : decode cX8_decrees 194 = .ok (.iastore, 1) := by decide +kernel
theorem dX8_decrees_195 : decode cX8_decrees 195 = .ok (.iinc 1 1, 3) := by decide +kernel
theorem dX8_decrees_198 : decode cX8_decrees 198 = .ok (.goto (-73), 3) := by decide +kernel
theorem dX8_decrees_201 : decode cX8_decrees 201 = .ok (.aload_n 0, 1) := by decide +kernel
theorem dX8_decrees_202 : decode cX8_decrees 202 = .ok (.aload_n 0, 1) := by decide +kernel
theorem dX8_decrees_203 : decode cX8_decrees 203 = .ok (.getfield 204, 3) := by decide +kernel
theorem dX8_decrees_206 : decode cX8_decrees 206 = .ok (.invokevirtual 101, 3) := by decide +kernel
theorem dX8_decrees_209 : decode cX8_decrees 209 = .ok (.ireturn, 1) := by decide +kernel
theorem dX8_fault_0 : decode cX8_fault 0 = .ok (.aload_n 0, 1) := by decide +kernel
theorem dX8_fault_1 : decode cX8_fault 1 = .ok (.iconst 0, 1) := by decide +kernel
theorem dX8_fault_2 : decode cX8_fault 2 = .ok (.putfield 78, 3) := by decide +kernel
theorem dX8_fault_5 : decode cX8_fault 5 = .ok (.aload_n 0, 1) := by decide +kernel
theorem dX8_fault_6 : decode cX8_fault 6 = .ok (.getfield 62, 3) := by decide +kernel
theorem dX8_fault_9 : decode cX8_fault 9 = .ok (.ireturn, 1) := by decide +kernel
theorem dX8_reckon_0 : decode cX8_reckon 0 = .ok (.aload_n 0, 1) := by decide +kernel
theorem dX8_reckon_1 : decode cX8_reckon 1 = .ok (.aload_n 0, 1) := by decide +kernel
theorem dX8_reckon_2 : decode cX8_reckon 2 = .ok (.iload_n 1, 1) := by decide +kernel
theorem dX8_reckon_3 : decode cX8_reckon 3 = .ok (.invokevirtual 138, 3) := by decide +kernel
theorem dX8_reckon_6 : decode cX8_reckon 6 = .ok (.putfield 207, 3) := by decide +kernel
theorem dX8_reckon_9 : decode cX8_reckon 9 = .ok (.aload_n 0, 1) := by decide +kernel
theorem dX8_reckon_10 : decode cX8_reckon 10 = .ok (.iload_n 1, 1) := by decide +kernel
theorem dX8_reckon_11 : decode cX8_reckon 11 = .ok (.invokevirtual 135, 3) := by decide +kernel
theorem dX8_reckon_14 : decode cX8_reckon 14 = .ok (.istore_n 2, 1) := by decide +kernel
theorem dX8_reckon_15 : decode cX8_reckon 15 = .ok (.aload_n 0, 1) := by decide +kernel
theorem dX8_reckon_16 : decode cX8_reckon 16 = .ok (.invokevirtual 112, 3) := by decide +kernel
theorem dX8_reckon_19 : decode cX8_reckon 19 = .ok (.istore_n 3, 1) := by decide +kernel
theorem dX8_reckon_20 : decode cX8_reckon 20 = .ok (.iconst (-1), 1) := by decide +kernel
theorem dX8_reckon_21 : decode cX8_reckon 21 = .ok (.istore 4, 2) := by decide +kernel
theorem dX8_reckon_23 : decode cX8_reckon 23 = .ok (.iconst (-1), 1) := by decide +kernel
theorem dX8_reckon_24 : decode cX8_reckon 24 = .ok (.istore 5, 2) := by decide +kernel
theorem dX8_reckon_26 : decode cX8_reckon 26 = .ok (.iconst 0, 1) := by decide +kernel
theorem dX8_reckon_27 : decode cX8_reckon 27 = .ok (.istore 6, 2) := by decide +kernel
theorem dX8_reckon_29 : decode cX8_reckon 29 = .ok (.iconst (-1), 1) := by decide +kernel
theorem dX8_reckon_30 : decode cX8_reckon 30 = .ok (.istore 7, 2) := by decide +kernel
theorem dX8_reckon_32 : decode cX8_reckon 32 = .ok (.iconst 0, 1) := by decide +kernel
theorem dX8_reckon_33 : decode cX8_reckon 33 = .ok (.istore 8, 2) := by decide +kernel
theorem dX8_reckon_35 : decode cX8_reckon 35 = .ok (.iload 8, 2) := by decide +kernel
theorem dX8_reckon_37 : decode cX8_reckon 37 = .ok (.aload_n 0, 1) := by decide +kernel
theorem dX8_reckon_38 : decode cX8_reckon 38 = .ok (.getfield 204, 3) := by decide +kernel
theorem dX8_reckon_41 : decode cX8_reckon 41 = .ok (.if_icmp .ge 149, 3) := by decide +kernel
theorem dX8_reckon_44 : decode cX8_reckon 44 = .ok (.aload_n 0, 1) := by decide +kernel
theorem dX8_reckon_45 : decode cX8_reckon 45 = .ok (.getfield 44, 3) := by decide +kernel
theorem dX8_reckon_48 : decode cX8_reckon 48 = .ok (.iload 8, 2) := by decide +kernel
theorem dX8_reckon_50 : decode cX8_reckon 50 = .ok (.iaload, 1) := by decide +kernel
theorem dX8_reckon_51 : decode cX8_reckon 51 = .ok (.ifCond .ne 40, 3) := by decide +kernel
theorem dX8_reckon_54 : decode cX8_reckon 54 = .ok (.aload_n 0, 1) := by decide +kernel
theorem dX8_reckon_55 : decode cX8_reckon 55 = .ok (.getfield 53, 3) := by decide +kernel
theorem dX8_reckon_58 : decode cX8_reckon 58 = .ok (.iload 8, 2) := by decide +kernel
theorem dX8_reckon_60 : decode cX8_reckon 60 = .ok (.iaload, 1) := by decide +kernel
theorem dX8_reckon_61 : decode cX8_reckon 61 = .ok (.iload_n 3, 1) := by decide +kernel
theorem dX8_reckon_62 : decode cX8_reckon 62 = .ok (.if_icmp .gt 29, 3) := by decide +kernel
theorem dX8_reckon_65 : decode cX8_reckon 65 = .ok (.iload 4, 2) := by decide +kernel
theorem dX8_reckon_67 : decode cX8_reckon 67 = .ok (.ifCond .lt 20, 3) := by decide +kernel
theorem dX8_reckon_70 : decode cX8_reckon 70 = .ok (.aload_n 0, 1) := by decide +kernel
theorem dX8_reckon_71 : decode cX8_reckon 71 = .ok (.getfield 53, 3) := by decide +kernel
theorem dX8_reckon_74 : decode cX8_reckon 74 = .ok (.iload 8, 2) := by decide +kernel
theorem dX8_reckon_76 : decode cX8_reckon 76 = .ok (.iaload, 1) := by decide +kernel
theorem dX8_reckon_77 : decode cX8_reckon 77 = .ok (.aload_n 0, 1) := by decide +kernel
theorem dX8_reckon_78 : decode cX8_reckon 78 = .ok (.getfield 53, 3) := by decide +kernel
theorem dX8_reckon_81 : decode cX8_reckon 81 = .ok (.iload 4, 2) := by decide +kernel
theorem dX8_reckon_83 : decode cX8_reckon 83 = .ok (.iaload, 1) := by decide +kernel
theorem dX8_reckon_84 : decode cX8_reckon 84 = .ok (.if_icmp .lt 7, 3) := by decide +kernel
theorem dX8_reckon_87 : decode cX8_reckon 87 = .ok (.iload 8, 2) := by decide +kernel
theorem dX8_reckon_89 : decode cX8_reckon 89 = .ok (.istore 4, 2) := by decide +kernel
theorem dX8_reckon_91 : decode cX8_reckon 91 = .ok (.aload_n 0, 1) := by decide +kernel
theorem dX8_reckon_92 : decode cX8_reckon 92 = .ok (.getfield 44, 3) := by decide +kernel
theorem dX8_reckon_95 : decode cX8_reckon 95 = .ok (.iload 8, 2) := by decide +kernel
theorem dX8_reckon_97 : decode cX8_reckon 97 = .ok (.iaload, 1) := by decide +kernel
theorem dX8_reckon_98 : decode cX8_reckon 98 = .ok (.iconst 1, 1) := by decide +kernel
theorem dX8_reckon_99 : decode cX8_reckon 99 = .ok (.if_icmp .ne 40, 3) := by decide +kernel
theorem dX8_reckon_102 : decode cX8_reckon 102 = .ok (.aload_n 0, 1) := by decide +kernel
theorem dX8_reckon_103 : decode cX8_reckon 103 = .ok (.getfield 53, 3) := by decide +kernel
theorem dX8_reckon_106 : decode cX8_reckon 106 = .ok (.iload 8, 2) := by decide +kernel
theorem dX8_reckon_108 : decode cX8_reckon 108 = .ok (.iaload, 1) := by decide +kernel
theorem dX8_reckon_109 : decode cX8_reckon 109 = .ok (.iload_n 2, 1) := by decide +kernel
theorem dX8_reckon_110 : decode cX8_reckon 110 = .ok (.if_icmp .le 29, 3) := by decide +kernel
theorem dX8_reckon_113 : decode cX8_reckon 113 = .ok (.iload 5, 2) := by decide +kernel
theorem dX8_reckon_115 : decode cX8_reckon 115 = .ok (.ifCond .lt 20, 3) := by decide +kernel
theorem dX8_reckon_118 : decode cX8_reckon 118 = .ok (.aload_n 0, 1) := by decide +kernel
theorem dX8_reckon_119 : decode cX8_reckon 119 = .ok (.getfield 53, 3) := by decide +kernel
theorem dX8_reckon_122 : decode cX8_reckon 122 = .ok (.iload 8, 2) := by decide +kernel
theorem dX8_reckon_124 : decode cX8_reckon 124 = .ok (.iaload, 1) := by decide +kernel
theorem dX8_reckon_125 : decode cX8_reckon 125 = .ok (.aload_n 0, 1) := by decide +kernel
theorem dX8_reckon_126 : decode cX8_reckon 126 = .ok (.getfield 53, 3) := by decide +kernel
theorem dX8_reckon_129 : decode cX8_reckon 129 = .ok (.iload 5, 2) := by decide +kernel
theorem dX8_reckon_131 : decode cX8_reckon 131 = .ok (.iaload, 1) := by decide +kernel
theorem dX8_reckon_132 : decode cX8_reckon 132 = .ok (.if_icmp .gt 7, 3) := by decide +kernel
theorem dX8_reckon_135 : decode cX8_reckon 135 = .ok (.iload 8, 2) := by decide +kernel
theorem dX8_reckon_137 : decode cX8_reckon 137 = .ok (.istore 5, 2) := by decide +kernel
theorem dX8_reckon_139 : decode cX8_reckon 139 = .ok (.aload_n 0, 1) := by decide +kernel
theorem dX8_reckon_140 : decode cX8_reckon 140 = .ok (.getfield 44, 3) := by decide +kernel
theorem dX8_reckon_143 : decode cX8_reckon 143 = .ok (.iload 8, 2) := by decide +kernel
theorem dX8_reckon_145 : decode cX8_reckon 145 = .ok (.iaload, 1) := by decide +kernel
theorem dX8_reckon_146 : decode cX8_reckon 146 = .ok (.iconst 2, 1) := by decide +kernel
theorem dX8_reckon_147 : decode cX8_reckon 147 = .ok (.if_icmp .ne 13, 3) := by decide +kernel
theorem dX8_reckon_150 : decode cX8_reckon 150 = .ok (.aload_n 0, 1) := by decide +kernel
theorem dX8_reckon_151 : decode cX8_reckon 151 = .ok (.getfield 47, 3) := by decide +kernel
theorem dX8_reckon_154 : decode cX8_reckon 154 = .ok (.iload 8, 2) := by decide +kernel
theorem dX8_reckon_156 : decode cX8_reckon 156 = .ok (.iaload, 1) := by decide +kernel
theorem dX8_reckon_157 : decode cX8_reckon 157 = .ok (.goto 5, 3) := by decide +kernel
theorem dX8_reckon_160 : decode cX8_reckon 160 = .ok (.iload 6, 2) := by decide +kernel
theorem dX8_reckon_162 : decode cX8_reckon 162 = .ok (.istore 6, 2) := by decide +kernel
theorem dX8_reckon_164 : decode cX8_reckon 164 = .ok (.aload_n 0, 1) := by decide +kernel
theorem dX8_reckon_165 : decode cX8_reckon 165 = .ok (.getfield 44, 3) := by decide +kernel
theorem dX8_reckon_168 : decode cX8_reckon 168 = .ok (.iload 8, 2) := by decide +kernel
theorem dX8_reckon_170 : decode cX8_reckon 170 = .ok (.iaload, 1) := by decide +kernel
theorem dX8_reckon_171 : decode cX8_reckon 171 = .ok (.iconst 3, 1) := by decide +kernel
theorem dX8_reckon_172 : decode cX8_reckon 172 = .ok (.if_icmp .ne 8, 3) := by decide +kernel
theorem dX8_reckon_175 : decode cX8_reckon 175 = .ok (.iload 8, 2) := by decide +kernel
theorem dX8_reckon_177 : decode cX8_reckon 177 = .ok (.goto 5, 3) := by decide +kernel
theorem dX8_reckon_180 : decode cX8_reckon 180 = .ok (.iload 7, 2) := by decide +kernel
theorem dX8_reckon_182 : decode cX8_reckon 182 = .ok (.istore 7, 2) := by decide +kernel
theorem dX8_reckon_184 : decode cX8_reckon 184 = .ok (.iinc 8 1, 3) := by decide +kernel
theorem dX8_reckon_187 : decode cX8_reckon 187 = .ok (.goto (-152), 3) := by decide +kernel
theorem dX8_reckon_190 : decode cX8_reckon 190 = .ok (.aload_n 0, 1) := by decide +kernel
theorem dX8_reckon_191 : decode cX8_reckon 191 = .ok (.getfield 207, 3) := by decide +kernel
theorem dX8_reckon_194 : decode cX8_reckon 194 = .ok (.iload 6, 2) := by decide +kernel
theorem dX8_reckon_196 : decode cX8_reckon 196 = .ok (.if_icmp .lt 8, 3) := by decide +kernel
theorem dX8_reckon_199 : decode cX8_reckon 199 = .ok (.iload 4, 2) := by decide +kernel
theorem dX8_reckon_201 : decode cX8_reckon 201 = .ok (.ifCond .ge 7, 3) := by decide +kernel
theorem dX8_reckon_204 : decode cX8_reckon 204 = .ok (.iconst 0, 1) := by decide +kernel
theorem dX8_reckon_205 : decode cX8_reckon 205 = .ok (.goto 27, 3) := by decide +kernel
theorem dX8_reckon_208 : decode cX8_reckon 208 = .ok (.aload_n 0, 1) := by decide +kernel
theorem dX8_reckon_209 : decode cX8_reckon 209 = .ok (.getfield 207, 3) := by decide +kernel
theorem dX8_reckon_212 : decode cX8_reckon 212 = .ok (.i2l, 1) := by decide +kernel
theorem dX8_reckon_213 : decode cX8_reckon 213 = .ok (.aload_n 0, 1) := by decide +kernel
theorem dX8_reckon_214 : decode cX8_reckon 214 = .ok (.getfield 47, 3) := by decide +kernel
theorem dX8_reckon_217 : decode cX8_reckon 217 = .ok (.iload 4, 2) := by decide +kernel
theorem dX8_reckon_219 : decode cX8_reckon 219 = .ok (.iaload, 1) := by decide +kernel
theorem dX8_reckon_220 : decode cX8_reckon 220 = .ok (.i2l, 1) := by decide +kernel
theorem dX8_reckon_221 : decode cX8_reckon 221 = .ok (.lmul, 1) := by decide +kernel
theorem dX8_reckon_222 : decode cX8_reckon 222 = .ok (.aload_n 0, 1) := by decide +kernel
theorem dX8_reckon_223 : decode cX8_reckon 223 = .ok (.getfield 50, 3) := by decide +kernel
theorem dX8_reckon_226 : decode cX8_reckon 226 = .ok (.iload 4, 2) := by decide +kernel
theorem dX8_reckon_228 : decode cX8_reckon 228 = .ok (.iaload, 1) := by decide +kernel
theorem dX8_reckon_229 : decode cX8_reckon 229 = .ok (.i2l, 1) := by decide +kernel
theorem dX8_reckon_230 : decode cX8_reckon 230 = .ok (.ldiv, 1) := by decide +kernel
theorem dX8_reckon_231 : decode cX8_reckon 231 = .ok (.l2i, 1) := by decide +kernel
theorem dX8_reckon_232 : decode cX8_reckon 232 = .ok (.istore 8, 2) := by decide +kernel
theorem dX8_reckon_234 : decode cX8_reckon 234 = .ok (.aload_n 0, 1) := by decide +kernel
theorem dX8_reckon_235 : decode cX8_reckon 235 = .ok (.iload 5, 2) := by decide +kernel
theorem dX8_reckon_237 : decode cX8_reckon 237 = .ok (.ifCond .ge 7, 3) := by decide +kernel
theorem dX8_reckon_240 : decode cX8_reckon 240 = .ok (.iconst 0, 1) := by decide +kernel
theorem dX8_reckon_241 : decode cX8_reckon 241 = .ok (.goto 25, 3) := by decide +kernel
theorem dX8_reckon_244 : decode cX8_reckon 244 = .ok (.iload 8, 2) := by decide +kernel
theorem dX8_reckon_246 : decode cX8_reckon 246 = .ok (.i2l, 1) := by decide +kernel
theorem dX8_reckon_247 : decode cX8_reckon 247 = .ok (.aload_n 0, 1) := by decide +kernel
theorem dX8_reckon_248 : decode cX8_reckon 248 = .ok (.getfield 47, 3) := by decide +kernel
theorem dX8_reckon_251 : decode cX8_reckon 251 = .ok (.iload 5, 2) := by decide +kernel
theorem dX8_reckon_253 : decode cX8_reckon 253 = .ok (.iaload, 1) := by decide +kernel
theorem dX8_reckon_254 : decode cX8_reckon 254 = .ok (.i2l, 1) := by decide +kernel
theorem dX8_reckon_255 : decode cX8_reckon 255 = .ok (.lmul, 1) := by decide +kernel
theorem dX8_reckon_256 : decode cX8_reckon 256 = .ok (.aload_n 0, 1) := by decide +kernel
theorem dX8_reckon_257 : decode cX8_reckon 257 = .ok (.getfield 50, 3) := by decide +kernel
theorem dX8_reckon_260 : decode cX8_reckon 260 = .ok (.iload 5, 2) := by decide +kernel
theorem dX8_reckon_262 : decode cX8_reckon 262 = .ok (.iaload, 1) := by decide +kernel
theorem dX8_reckon_263 : decode cX8_reckon 263 = .ok (.i2l, 1) := by decide +kernel
theorem dX8_reckon_264 : decode cX8_reckon 264 = .ok (.ldiv, 1) := by decide +kernel
theorem dX8_reckon_265 : decode cX8_reckon 265 = .ok (.l2i, 1) := by decide +kernel
theorem dX8_reckon_266 : decode cX8_reckon 266 = .ok (.putfield 210, 3) := by decide +kernel
theorem dX8_reckon_269 : decode cX8_reckon 269 = .ok (.aload_n 0, 1) := by decide +kernel
theorem dX8_reckon_270 : decode cX8_reckon 270 = .ok (.iload 8, 2) := by decide +kernel
theorem dX8_reckon_272 : decode cX8_reckon 272 = .ok (.aload_n 0, 1) := by decide +kernel
theorem dX8_reckon_273 : decode cX8_reckon 273 = .ok (.getfield 210, 3) := by decide +kernel
theorem dX8_reckon_276 : decode cX8_reckon 276 = .ok (.isub, 1) := by decide +kernel
theorem dX8_reckon_277 : decode cX8_reckon 277 = .ok (.putfield 213, 3) := by decide +kernel
theorem dX8_reckon_280 : decode cX8_reckon 280 = .ok (.aload_n 0, 1) := by decide +kernel
theorem dX8_reckon_281 : decode cX8_reckon 281 = .ok (.iload 7, 2) := by decide +kernel
theorem dX8_reckon_283 : decode cX8_reckon 283 = .ok (.ifCond .ge 7, 3) := by decide +kernel
theorem dX8_reckon_286 : decode cX8_reckon 286 = .ok (.iconst 0, 1) := by decide +kernel
theorem dX8_reckon_287 : decode cX8_reckon 287 = .ok (.goto 27, 3) := by decide +kernel
theorem dX8_reckon_290 : decode cX8_reckon 290 = .ok (.aload_n 0, 1) := by decide +kernel
theorem dX8_reckon_291 : decode cX8_reckon 291 = .ok (.getfield 213, 3) := by decide +kernel
theorem dX8_reckon_294 : decode cX8_reckon 294 = .ok (.i2l, 1) := by decide +kernel
theorem dX8_reckon_295 : decode cX8_reckon 295 = .ok (.aload_n 0, 1) := by decide +kernel
theorem dX8_reckon_296 : decode cX8_reckon 296 = .ok (.getfield 47, 3) := by decide +kernel
theorem dX8_reckon_299 : decode cX8_reckon 299 = .ok (.iload 7, 2) := by decide +kernel
theorem dX8_reckon_301 : decode cX8_reckon 301 = .ok (.iaload, 1) := by decide +kernel
theorem dX8_reckon_302 : decode cX8_reckon 302 = .ok (.i2l, 1) := by decide +kernel
theorem dX8_reckon_303 : decode cX8_reckon 303 = .ok (.lmul, 1) := by decide +kernel
theorem dX8_reckon_304 : decode cX8_reckon 304 = .ok (.aload_n 0, 1) := by decide +kernel
theorem dX8_reckon_305 : decode cX8_reckon 305 = .ok (.getfield 50, 3) := by decide +kernel
theorem dX8_reckon_308 : decode cX8_reckon 308 = .ok (.iload 7, 2) := by decide +kernel
theorem dX8_reckon_310 : decode cX8_reckon 310 = .ok (.iaload, 1) := by decide +kernel
theorem dX8_reckon_311 : decode cX8_reckon 311 = .ok (.i2l, 1) := by decide +kernel
theorem dX8_reckon_312 : decode cX8_reckon 312 = .ok (.ldiv, 1) := by decide +kernel
theorem dX8_reckon_313 : decode cX8_reckon 313 = .ok (.l2i, 1) := by decide +kernel
theorem dX8_reckon_314 : decode cX8_reckon 314 = .ok (.putfield 216, 3) := by decide +kernel
theorem dX8_reckon_317 : decode cX8_reckon 317 = .ok (.return_, 1) := by decide +kernel
theorem dX8_tax_0 : decode cX8_tax 0 = .ok (.aload_n 0, 1) := by decide +kernel
theorem dX8_tax_1 : decode cX8_tax 1 = .ok (.iconst 0, 1) := by decide +kernel
theorem dX8_tax_2 : decode cX8_tax 2 = .ok (.putfield 78, 3) := by decide +kernel
theorem dX8_tax_5 : decode cX8_tax 5 = .ok (.aload_n 0, 1) := by decide +kernel
theorem dX8_tax_6 : decode cX8_tax 6 = .ok (.iload_n 1, 1) := by decide +kernel
theorem dX8_tax_7 : decode cX8_tax 7 = .ok (.invokevirtual 121, 3) := by decide +kernel
theorem dX8_tax_10 : decode cX8_tax 10 = .ok (.ifCond .eq 10, 3) := by decide +kernel
theorem dX8_tax_13 : decode cX8_tax 13 = .ok (.iload_n 2, 1) := by decide +kernel
theorem dX8_tax_14 : decode cX8_tax 14 = .ok (.invokestatic 98, 3) := by decide +kernel
theorem dX8_tax_17 : decode cX8_tax 17 = .ok (.ifCond .ne 5, 3) := by decide +kernel
theorem dX8_tax_20 : decode cX8_tax 20 = .ok (.iconst (-1), 1) := by decide +kernel
theorem dX8_tax_21 : decode cX8_tax 21 = .ok (.ireturn, 1) := by decide +kernel
theorem dX8_tax_22 : decode cX8_tax 22 = .ok (.aload_n 0, 1) := by decide +kernel
theorem dX8_tax_23 : decode cX8_tax 23 = .ok (.iload_n 2, 1) := by decide +kernel
theorem dX8_tax_24 : decode cX8_tax 24 = .ok (.bipush 119, 2) := by decide +kernel
theorem dX8_tax_26 : decode cX8_tax 26 = .ok (.invokevirtual 108, 3) := by decide +kernel
theorem dX8_tax_29 : decode cX8_tax 29 = .ok (.aload_n 0, 1) := by decide +kernel
theorem dX8_tax_30 : decode cX8_tax 30 = .ok (.iload_n 1, 1) := by decide +kernel
theorem dX8_tax_31 : decode cX8_tax 31 = .ok (.invokevirtual 219, 3) := by decide +kernel
theorem dX8_tax_34 : decode cX8_tax 34 = .ok (.iload_n 3, 1) := by decide +kernel
theorem dX8_tax_35 : decode cX8_tax 35 = .ok (.tableswitch 68 0 4 #[33, 38, 43, 48, 58], 33) := by decide +kernel
theorem dX8_tax_68 : decode cX8_tax 68 = .ok (.aload_n 0, 1) := by decide +kernel
theorem dX8_tax_69 : decode cX8_tax 69 = .ok (.getfield 213, 3) := by decide +kernel
theorem dX8_tax_72 : decode cX8_tax 72 = .ok (.ireturn, 1) := by decide +kernel
theorem dX8_tax_73 : decode cX8_tax 73 = .ok (.aload_n 0, 1) := by decide +kernel
theorem dX8_tax_74 : decode cX8_tax 74 = .ok (.getfield 210, 3) := by decide +kernel
theorem dX8_tax_77 : decode cX8_tax 77 = .ok (.ireturn, 1) := by decide +kernel
theorem dX8_tax_78 : decode cX8_tax 78 = .ok (.aload_n 0, 1) := by decide +kernel
theorem dX8_tax_79 : decode cX8_tax 79 = .ok (.getfield 216, 3) := by decide +kernel
theorem dX8_tax_82 : decode cX8_tax 82 = .ok (.ireturn, 1) := by decide +kernel
theorem dX8_tax_83 : decode cX8_tax 83 = .ok (.aload_n 0, 1) := by decide +kernel
theorem dX8_tax_84 : decode cX8_tax 84 = .ok (.getfield 213, 3) := by decide +kernel
theorem dX8_tax_87 : decode cX8_tax 87 = .ok (.aload_n 0, 1) := by decide +kernel
theorem dX8_tax_88 : decode cX8_tax 88 = .ok (.getfield 216, 3) := by decide +kernel
theorem dX8_tax_91 : decode cX8_tax 91 = .ok (.isub, 1) := by decide +kernel
theorem dX8_tax_92 : decode cX8_tax 92 = .ok (.ireturn, 1) := by decide +kernel
theorem dX8_tax_93 : decode cX8_tax 93 = .ok (.aload_n 0, 1) := by decide +kernel
theorem dX8_tax_94 : decode cX8_tax 94 = .ok (.getfield 207, 3) := by decide +kernel
theorem dX8_tax_97 : decode cX8_tax 97 = .ok (.aload_n 0, 1) := by decide +kernel
theorem dX8_tax_98 : decode cX8_tax 98 = .ok (.getfield 213, 3) := by decide +kernel
theorem dX8_tax_101 : decode cX8_tax 101 = .ok (.isub, 1) := by decide +kernel
theorem dX8_tax_102 : decode cX8_tax 102 = .ok (.ireturn, 1) := by decide +kernel
theorem dX8_tax_103 : decode cX8_tax 103 = .ok (.iconst (-1), 1) := by decide +kernel
theorem dX8_tax_104 : decode cX8_tax 104 = .ok (.ireturn, 1) := by decide +kernel
theorem dX8_take_0 : decode cX8_take 0 = .ok (.aload_n 0, 1) := by decide +kernel
theorem dX8_take_1 : decode cX8_take 1 = .ok (.iconst 0, 1) := by decide +kernel
theorem dX8_take_2 : decode cX8_take 2 = .ok (.putfield 78, 3) := by decide +kernel
theorem dX8_take_5 : decode cX8_take 5 = .ok (.iload_n 1, 1) := by decide +kernel
theorem dX8_take_6 : decode cX8_take 6 = .ok (.i2l, 1) := by decide +kernel
theorem dX8_take_7 : decode cX8_take 7 = .ok (.lconst 0, 1) := by decide +kernel
theorem dX8_take_8 : decode cX8_take 8 = .ok (.ldc2_w 222, 3) := by decide +kernel
theorem dX8_take_11 : decode cX8_take 11 = .ok (.invokestatic 86, 3) := by decide +kernel
theorem dX8_take_14 : decode cX8_take 14 = .ok (.ifCond .eq 23, 3) := by decide +kernel
theorem dX8_take_17 : decode cX8_take 17 = .ok (.iload_n 3, 1) := by decide +kernel
theorem dX8_take_18 : decode cX8_take 18 = .ok (.i2l, 1) := by decide +kernel
theorem dX8_take_19 : decode cX8_take 19 = .ok (.lconst 0, 1) := by decide +kernel
theorem dX8_take_20 : decode cX8_take 20 = .ok (.ldc2_w 224, 3) := by decide +kernel
theorem dX8_take_23 : decode cX8_take 23 = .ok (.invokestatic 86, 3) := by decide +kernel
theorem dX8_take_26 : decode cX8_take 26 = .ok (.ifCond .eq 11, 3) := by decide +kernel
theorem dX8_take_29 : decode cX8_take 29 = .ok (.iload 4, 2) := by decide +kernel
theorem dX8_take_31 : decode cX8_take 31 = .ok (.invokestatic 98, 3) := by decide +kernel
theorem dX8_take_34 : decode cX8_take 34 = .ok (.ifCond .ne 9, 3) := by decide +kernel
theorem dX8_take_37 : decode cX8_take 37 = .ok (.aload_n 0, 1) := by decide +kernel
theorem dX8_take_38 : decode cX8_take 38 = .ok (.iconst (-1), 1) := by decide +kernel
theorem dX8_take_39 : decode cX8_take 39 = .ok (.invokevirtual 101, 3) := by decide +kernel
theorem dX8_take_42 : decode cX8_take 42 = .ok (.ireturn, 1) := by decide +kernel
theorem dX8_take_43 : decode cX8_take 43 = .ok (.aload_n 0, 1) := by decide +kernel
theorem dX8_take_44 : decode cX8_take 44 = .ok (.iload_n 2, 1) := by decide +kernel
theorem dX8_take_45 : decode cX8_take 45 = .ok (.invokevirtual 121, 3) := by decide +kernel
theorem dX8_take_48 : decode cX8_take 48 = .ok (.ifCond .ne 10, 3) := by decide +kernel
theorem dX8_take_51 : decode cX8_take 51 = .ok (.aload_n 0, 1) := by decide +kernel
theorem dX8_take_52 : decode cX8_take 52 = .ok (.bipush (-2), 2) := by decide +kernel
theorem dX8_take_54 : decode cX8_take 54 = .ok (.invokevirtual 101, 3) := by decide +kernel
theorem dX8_take_57 : decode cX8_take 57 = .ok (.ireturn, 1) := by decide +kernel
theorem dX8_take_58 : decode cX8_take 58 = .ok (.aload_n 0, 1) := by decide +kernel
theorem dX8_take_59 : decode cX8_take 59 = .ok (.getfield 226, 3) := by decide +kernel
theorem dX8_take_62 : decode cX8_take 62 = .ok (.sipush 200, 3) := by decide +kernel
theorem dX8_take_65 : decode cX8_take 65 = .ok (.if_icmp .ne 10, 3) := by decide +kernel
theorem dX8_take_68 : decode cX8_take 68 = .ok (.aload_n 0, 1) := by decide +kernel
theorem dX8_take_69 : decode cX8_take 69 = .ok (.bipush (-5), 2) := by decide +kernel
theorem dX8_take_71 : decode cX8_take 71 = .ok (.invokevirtual 101, 3) := by decide +kernel
theorem dX8_take_74 : decode cX8_take 74 = .ok (.ireturn, 1) := by decide +kernel
theorem dX8_take_75 : decode cX8_take 75 = .ok (.aload_n 0, 1) := by decide +kernel
theorem dX8_take_76 : decode cX8_take 76 = .ok (.getfield 66, 3) := by decide +kernel
theorem dX8_take_79 : decode cX8_take 79 = .ok (.aload_n 0, 1) := by decide +kernel
theorem dX8_take_80 : decode cX8_take 80 = .ok (.getfield 226, 3) := by decide +kernel
theorem dX8_take_83 : decode cX8_take 83 = .ok (.iload_n 1, 1) := by decide +kernel
theorem dX8_take_84 : decode cX8_take 84 = .ok (.iastore, 1) := by decide +kernel
theorem dX8_take_85 : decode cX8_take 85 = .ok (.aload_n 0, 1) := by decide +kernel
theorem dX8_take_86 : decode cX8_take 86 = .ok (.getfield 69, 3) := by decide +kernel
theorem dX8_take_89 : decode cX8_take 89 = .ok (.aload_n 0, 1) := by decide +kernel
theorem dX8_take_90 : decode cX8_take 90 = .ok (.getfield 226, 3) := by decide +kernel
theorem dX8_take_93 : decode cX8_take 93 = .ok (.iload_n 2, 1) := by decide +kernel
theorem dX8_take_94 : decode cX8_take 94 = .ok (.iastore, 1) := by decide +kernel
theorem dX8_take_95 : decode cX8_take 95 = .ok (.aload_n 0, 1) := by decide +kernel
theorem dX8_take_96 : decode cX8_take 96 = .ok (.getfield 72, 3) := by decide +kernel
theorem dX8_take_99 : decode cX8_take 99 = .ok (.aload_n 0, 1) := by decide +kernel
theorem dX8_take_100 : decode cX8_take 100 = .ok (.getfield 226, 3) := by decide +kernel
theorem dX8_take_103 : decode cX8_take 103 = .ok (.iload_n 3, 1) := by decide +kernel
theorem dX8_take_104 : decode cX8_take 104 = .ok (.iastore, 1) := by decide +kernel
theorem dX8_take_105 : decode cX8_take 105 = .ok (.aload_n 0, 1) := by decide +kernel
theorem dX8_take_106 : decode cX8_take 106 = .ok (.getfield 75, 3) := by decide +kernel
theorem dX8_take_109 : decode cX8_take 109 = .ok (.aload_n 0, 1) := by decide +kernel
theorem dX8_take_110 : decode cX8_take 110 = .ok (.getfield 226, 3) := by decide +kernel
theorem dX8_take_113 : decode cX8_take 113 = .ok (.iload 4, 2) := by decide +kernel
theorem dX8_take_115 : decode cX8_take 115 = .ok (.iastore, 1) := by decide +kernel
theorem dX8_take_116 : decode cX8_take 116 = .ok (.aload_n 0, 1) := by decide +kernel
theorem dX8_take_117 : decode cX8_take 117 = .ok (.dup, 1) := by decide +kernel
theorem dX8_take_118 : decode cX8_take 118 = .ok (.getfield 226, 3) := by decide +kernel
theorem dX8_take_121 : decode cX8_take 121 = .ok (.iconst 1, 1) := by decide +kernel
theorem dX8_take_122 : decode cX8_take 122 = .ok (.iadd, 1) := by decide +kernel
theorem dX8_take_123 : decode cX8_take 123 = .ok (.putfield 226, 3) := by decide +kernel
theorem dX8_take_126 : decode cX8_take 126 = .ok (.aload_n 0, 1) := by decide +kernel
theorem dX8_take_127 : decode cX8_take 127 = .ok (.aload_n 0, 1) := by decide +kernel
theorem dX8_take_128 : decode cX8_take 128 = .ok (.getfield 226, 3) := by decide +kernel
theorem dX8_take_131 : decode cX8_take 131 = .ok (.invokevirtual 101, 3) := by decide +kernel
theorem dX8_take_134 : decode cX8_take 134 = .ok (.ireturn, 1) := by decide +kernel
theorem dX8_gain_0 : decode cX8_gain 0 = .ok (.aload_n 0, 1) := by decide +kernel
theorem dX8_gain_1 : decode cX8_gain 1 = .ok (.iconst 0, 1) := by decide +kernel
theorem dX8_gain_2 : decode cX8_gain 2 = .ok (.putfield 78, 3) := by decide +kernel
theorem dX8_gain_5 : decode cX8_gain 5 = .ok (.iload_n 1, 1) := by decide +kernel
theorem dX8_gain_6 : decode cX8_gain 6 = .ok (.i2l, 1) := by decide +kernel
theorem dX8_gain_7 : decode cX8_gain 7 = .ok (.lconst 0, 1) := by decide +kernel
theorem dX8_gain_8 : decode cX8_gain 8 = .ok (.ldc2_w 222, 3) := by decide +kernel
theorem dX8_gain_11 : decode cX8_gain 11 = .ok (.invokestatic 86, 3) := by decide +kernel
theorem dX8_gain_14 : decode cX8_gain 14 = .ok (.ifCond .eq 10, 3) := by decide +kernel
theorem dX8_gain_17 : decode cX8_gain 17 = .ok (.iload_n 2, 1) := by decide +kernel
theorem dX8_gain_18 : decode cX8_gain 18 = .ok (.invokestatic 98, 3) := by decide +kernel
theorem dX8_gain_21 : decode cX8_gain 21 = .ok (.ifCond .ne 7, 3) := by decide +kernel
theorem dX8_gain_24 : decode cX8_gain 24 = .ok (.ldc2_w 171, 3) := by decide +kernel
theorem dX8_gain_27 : decode cX8_gain 27 = .ok (.lreturn, 1) := by decide +kernel
theorem dX8_gain_28 : decode cX8_gain 28 = .ok (.aload_n 0, 1) := by decide +kernel
theorem dX8_gain_29 : decode cX8_gain 29 = .ok (.iload_n 2, 1) := by decide +kernel
theorem dX8_gain_30 : decode cX8_gain 30 = .ok (.bipush 119, 2) := by decide +kernel
theorem dX8_gain_32 : decode cX8_gain 32 = .ok (.invokevirtual 108, 3) := by decide +kernel
theorem dX8_gain_35 : decode cX8_gain 35 = .ok (.lconst 0, 1) := by decide +kernel
theorem dX8_gain_36 : decode cX8_gain 36 = .ok (.lstore_n 3, 1) := by decide +kernel
theorem dX8_gain_37 : decode cX8_gain 37 = .ok (.iconst 0, 1) := by decide +kernel
theorem dX8_gain_38 : decode cX8_gain 38 = .ok (.istore 5, 2) := by decide +kernel
theorem dX8_gain_40 : decode cX8_gain 40 = .ok (.iload 5, 2) := by decide +kernel
theorem dX8_gain_42 : decode cX8_gain 42 = .ok (.aload_n 0, 1) := by decide +kernel
theorem dX8_gain_43 : decode cX8_gain 43 = .ok (.getfield 116, 3) := by decide +kernel
theorem dX8_gain_46 : decode cX8_gain 46 = .ok (.if_icmp .ge 142, 3) := by decide +kernel
theorem dX8_gain_49 : decode cX8_gain 49 = .ok (.lconst 0, 1) := by decide +kernel
theorem dX8_gain_50 : decode cX8_gain 50 = .ok (.lstore 6, 2) := by decide +kernel
theorem dX8_gain_52 : decode cX8_gain 52 = .ok (.lconst 0, 1) := by decide +kernel
theorem dX8_gain_53 : decode cX8_gain 53 = .ok (.lstore 8, 2) := by decide +kernel
theorem dX8_gain_55 : decode cX8_gain 55 = .ok (.iconst 0, 1) := by decide +kernel
theorem dX8_gain_56 : decode cX8_gain 56 = .ok (.istore 10, 2) := by decide +kernel
theorem dX8_gain_58 : decode cX8_gain 58 = .ok (.iload 10, 2) := by decide +kernel
theorem dX8_gain_60 : decode cX8_gain 60 = .ok (.aload_n 0, 1) := by decide +kernel
theorem dX8_gain_61 : decode cX8_gain 61 = .ok (.getfield 226, 3) := by decide +kernel
theorem dX8_gain_64 : decode cX8_gain 64 = .ok (.if_icmp .ge 73, 3) := by decide +kernel
theorem dX8_gain_67 : decode cX8_gain 67 = .ok (.aload_n 0, 1) := by decide +kernel
theorem dX8_gain_68 : decode cX8_gain 68 = .ok (.getfield 69, 3) := by decide +kernel
theorem dX8_gain_71 : decode cX8_gain 71 = .ok (.iload 10, 2) := by decide +kernel
theorem dX8_gain_73 : decode cX8_gain 73 = .ok (.iaload, 1) := by decide +kernel
theorem dX8_gain_74 : decode cX8_gain 74 = .ok (.iload 5, 2) := by decide +kernel
theorem dX8_gain_76 : decode cX8_gain 76 = .ok (.if_icmp .ne 55, 3) := by decide +kernel
theorem dX8_gain_79 : decode cX8_gain 79 = .ok (.aload_n 0, 1) := by decide +kernel
theorem dX8_gain_80 : decode cX8_gain 80 = .ok (.getfield 75, 3) := by decide +kernel
theorem dX8_gain_83 : decode cX8_gain 83 = .ok (.iload 10, 2) := by decide +kernel
theorem dX8_gain_85 : decode cX8_gain 85 = .ok (.iaload, 1) := by decide +kernel
theorem dX8_gain_86 : decode cX8_gain 86 = .ok (.iload_n 2, 1) := by decide +kernel
theorem dX8_gain_87 : decode cX8_gain 87 = .ok (.if_icmp .gt 44, 3) := by decide +kernel
theorem dX8_gain_90 : decode cX8_gain 90 = .ok (.lload 6, 2) := by decide +kernel
theorem dX8_gain_92 : decode cX8_gain 92 = .ok (.aload_n 0, 1) := by decide +kernel
theorem dX8_gain_93 : decode cX8_gain 93 = .ok (.getfield 72, 3) := by decide +kernel
theorem dX8_gain_96 : decode cX8_gain 96 = .ok (.iload 10, 2) := by decide +kernel
theorem dX8_gain_98 : decode cX8_gain 98 = .ok (.iaload, 1) := by decide +kernel
theorem dX8_gain_99 : decode cX8_gain 99 = .ok (.i2l, 1) := by decide +kernel
theorem dX8_gain_100 : decode cX8_gain 100 = .ok (.ladd, 1) := by decide +kernel
theorem dX8_gain_101 : decode cX8_gain 101 = .ok (.lstore 6, 2) := by decide +kernel
theorem dX8_gain_103 : decode cX8_gain 103 = .ok (.lload 8, 2) := by decide +kernel
theorem dX8_gain_105 : decode cX8_gain 105 = .ok (.aload_n 0, 1) := by decide +kernel
theorem dX8_gain_106 : decode cX8_gain 106 = .ok (.getfield 66, 3) := by decide +kernel
theorem dX8_gain_109 : decode cX8_gain 109 = .ok (.iload 10, 2) := by decide +kernel
theorem dX8_gain_111 : decode cX8_gain 111 = .ok (.iaload, 1) := by decide +kernel
theorem dX8_gain_112 : decode cX8_gain 112 = .ok (.iload_n 1, 1) := by decide +kernel
theorem dX8_gain_113 : decode cX8_gain 113 = .ok (.if_icmp .ne 14, 3) := by decide +kernel
theorem dX8_gain_116 : decode cX8_gain 116 = .ok (.aload_n 0, 1) := by decide +kernel
theorem dX8_gain_117 : decode cX8_gain 117 = .ok (.getfield 72, 3) := by decide +kernel
theorem dX8_gain_120 : decode cX8_gain 120 = .ok (.iload 10, 2) := by decide +kernel
theorem dX8_gain_122 : decode cX8_gain 122 = .ok (.iaload, 1) := by decide +kernel
theorem dX8_gain_123 : decode cX8_gain 123 = .ok (.i2l, 1) := by decide +kernel
theorem dX8_gain_124 : decode cX8_gain 124 = .ok (.goto 4, 3) := by decide +kernel
theorem dX8_gain_127 : decode cX8_gain 127 = .ok (.lconst 0, 1) := by decide +kernel
theorem dX8_gain_128 : decode cX8_gain 128 = .ok (.ladd, 1) := by decide +kernel
theorem dX8_gain_129 : decode cX8_gain 129 = .ok (.lstore 8, 2) := by decide +kernel
theorem dX8_gain_131 : decode cX8_gain 131 = .ok (.iinc 10 1, 3) := by decide +kernel
theorem dX8_gain_134 : decode cX8_gain 134 = .ok (.goto (-76), 3) := by decide +kernel
theorem dX8_gain_137 : decode cX8_gain 137 = .ok (.aload_n 0, 1) := by decide +kernel
theorem dX8_gain_138 : decode cX8_gain 138 = .ok (.iload 5, 2) := by decide +kernel
theorem dX8_gain_140 : decode cX8_gain 140 = .ok (.invokevirtual 219, 3) := by decide +kernel
theorem dX8_gain_143 : decode cX8_gain 143 = .ok (.lload_n 3, 1) := by decide +kernel
theorem dX8_gain_144 : decode cX8_gain 144 = .ok (.lload 6, 2) := by decide +kernel
theorem dX8_gain_146 : decode cX8_gain 146 = .ok (.aload_n 0, 1) := by decide +kernel
theorem dX8_gain_147 : decode cX8_gain 147 = .ok (.getfield 213, 3) := by decide +kernel
theorem dX8_gain_150 : decode cX8_gain 150 = .ok (.i2l, 1) := by decide +kernel
theorem dX8_gain_151 : decode cX8_gain 151 = .ok (.lcmp, 1) := by decide +kernel
theorem dX8_gain_152 : decode cX8_gain 152 = .ok (.ifCond .le 27, 3) := by decide +kernel
theorem dX8_gain_155 : decode cX8_gain 155 = .ok (.lload 8, 2) := by decide +kernel
theorem dX8_gain_157 : decode cX8_gain 157 = .ok (.lconst 0, 1) := by decide +kernel
theorem dX8_gain_158 : decode cX8_gain 158 = .ok (.lcmp, 1) := by decide +kernel
theorem dX8_gain_159 : decode cX8_gain 159 = .ok (.ifCond .le 20, 3) := by decide +kernel
theorem dX8_gain_162 : decode cX8_gain 162 = .ok (.lload 6, 2) := by decide +kernel
theorem dX8_gain_164 : decode cX8_gain 164 = .ok (.aload_n 0, 1) := by decide +kernel
theorem dX8_gain_165 : decode cX8_gain 165 = .ok (.getfield 213, 3) := by decide +kernel
theorem dX8_gain_168 : decode cX8_gain 168 = .ok (.i2l, 1) := by decide +kernel
theorem dX8_gain_169 : decode cX8_gain 169 = .ok (.lsub, 1) := by decide +kernel
theorem dX8_gain_170 : decode cX8_gain 170 = .ok (.lload 8, 2) := by decide +kernel
theorem dX8_gain_172 : decode cX8_gain 172 = .ok (.lmul, 1) := by decide +kernel
theorem dX8_gain_173 : decode cX8_gain 173 = .ok (.lload 6, 2) := by decide +kernel
theorem dX8_gain_175 : decode cX8_gain 175 = .ok (.ldiv, 1) := by decide +kernel
theorem dX8_gain_176 : decode cX8_gain 176 = .ok (.goto 4, 3) := by decide +kernel
theorem dX8_gain_179 : decode cX8_gain 179 = .ok (.lconst 0, 1) := by decide +kernel
theorem dX8_gain_180 : decode cX8_gain 180 = .ok (.ladd, 1) := by decide +kernel
theorem dX8_gain_181 : decode cX8_gain 181 = .ok (.lstore_n 3, 1) := by decide +kernel
theorem dX8_gain_182 : decode cX8_gain 182 = .ok (.iinc 5 1, 3) := by decide +kernel
theorem dX8_gain_185 : decode cX8_gain 185 = .ok (.goto (-145), 3) := by decide +kernel
theorem dX8_gain_188 : decode cX8_gain 188 = .ok (.lload_n 3, 1) := by decide +kernel
theorem dX8_gain_189 : decode cX8_gain 189 = .ok (.lreturn, 1) := by decide +kernel
theorem dX8_sheaves_0 : decode cX8_sheaves 0 = .ok (.aload_n 0, 1) := by decide +kernel
theorem dX8_sheaves_1 : decode cX8_sheaves 1 = .ok (.iconst 0, 1) := by decide +kernel
theorem dX8_sheaves_2 : decode cX8_sheaves 2 = .ok (.putfield 78, 3) := by decide +kernel
theorem dX8_sheaves_5 : decode cX8_sheaves 5 = .ok (.iload_n 1, 1) := by decide +kernel
theorem dX8_sheaves_6 : decode cX8_sheaves 6 = .ok (.invokestatic 98, 3) := by decide +kernel
theorem dX8_sheaves_9 : decode cX8_sheaves 9 = .ok (.ifCond .ne 5, 3) := by decide +kernel
theorem dX8_sheaves_12 : decode cX8_sheaves 12 = .ok (.iconst (-1), 1) := by decide +kernel
theorem dX8_sheaves_13 : decode cX8_sheaves 13 = .ok (.ireturn, 1) := by decide +kernel
theorem dX8_sheaves_14 : decode cX8_sheaves 14 = .ok (.aload_n 0, 1) := by decide +kernel
theorem dX8_sheaves_15 : decode cX8_sheaves 15 = .ok (.iload_n 1, 1) := by decide +kernel
theorem dX8_sheaves_16 : decode cX8_sheaves 16 = .ok (.bipush 119, 2) := by decide +kernel
theorem dX8_sheaves_18 : decode cX8_sheaves 18 = .ok (.invokevirtual 108, 3) := by decide +kernel
theorem dX8_sheaves_21 : decode cX8_sheaves 21 = .ok (.iconst 0, 1) := by decide +kernel
theorem dX8_sheaves_22 : decode cX8_sheaves 22 = .ok (.istore_n 2, 1) := by decide +kernel
theorem dX8_sheaves_23 : decode cX8_sheaves 23 = .ok (.iconst 0, 1) := by decide +kernel
theorem dX8_sheaves_24 : decode cX8_sheaves 24 = .ok (.istore_n 3, 1) := by decide +kernel
theorem dX8_sheaves_25 : decode cX8_sheaves 25 = .ok (.iload_n 3, 1) := by decide +kernel
theorem dX8_sheaves_26 : decode cX8_sheaves 26 = .ok (.aload_n 0, 1) := by decide +kernel
theorem dX8_sheaves_27 : decode cX8_sheaves 27 = .ok (.getfield 116, 3) := by decide +kernel
theorem dX8_sheaves_30 : decode cX8_sheaves 30 = .ok (.if_icmp .ge 17, 3) := by decide +kernel
theorem dX8_sheaves_33 : decode cX8_sheaves 33 = .ok (.iload_n 2, 1) := by decide +kernel
theorem dX8_sheaves_34 : decode cX8_sheaves 34 = .ok (.aload_n 0, 1) := by decide +kernel
theorem dX8_sheaves_35 : decode cX8_sheaves 35 = .ok (.iload_n 3, 1) := by decide +kernel
theorem dX8_sheaves_36 : decode cX8_sheaves 36 = .ok (.invokevirtual 138, 3) := by decide +kernel
theorem dX8_sheaves_39 : decode cX8_sheaves 39 = .ok (.iadd, 1) := by decide +kernel
theorem dX8_sheaves_40 : decode cX8_sheaves 40 = .ok (.istore_n 2, 1) := by decide +kernel
theorem dX8_sheaves_41 : decode cX8_sheaves 41 = .ok (.iinc 3 1, 3) := by decide +kernel
theorem dX8_sheaves_44 : decode cX8_sheaves 44 = .ok (.goto (-19), 3) := by decide +kernel
theorem dX8_sheaves_47 : decode cX8_sheaves 47 = .ok (.iload_n 2, 1) := by decide +kernel
theorem dX8_sheaves_48 : decode cX8_sheaves 48 = .ok (.ireturn, 1) := by decide +kernel
theorem dX8_led_0 : decode cX8_led 0 = .ok (.aload_n 0, 1) := by decide +kernel
theorem dX8_led_1 : decode cX8_led 1 = .ok (.iconst 0, 1) := by decide +kernel
theorem dX8_led_2 : decode cX8_led 2 = .ok (.putfield 78, 3) := by decide +kernel
theorem dX8_led_5 : decode cX8_led 5 = .ok (.iload_n 1, 1) := by decide +kernel
theorem dX8_led_6 : decode cX8_led 6 = .ok (.ifCond .lt 20, 3) := by decide +kernel
theorem dX8_led_9 : decode cX8_led 9 = .ok (.iload_n 2, 1) := by decide +kernel
theorem dX8_led_10 : decode cX8_led 10 = .ok (.invokestatic 98, 3) := by decide +kernel
theorem dX8_led_13 : decode cX8_led 13 = .ok (.ifCond .eq 13, 3) := by decide +kernel
theorem dX8_led_16 : decode cX8_led 16 = .ok (.iload_n 3, 1) := by decide +kernel
theorem dX8_led_17 : decode cX8_led 17 = .ok (.i2l, 1) := by decide +kernel
theorem dX8_led_18 : decode cX8_led 18 = .ok (.lconst 0, 1) := by decide +kernel
theorem dX8_led_19 : decode cX8_led 19 = .ok (.lconst 1, 1) := by decide +kernel
theorem dX8_led_20 : decode cX8_led 20 = .ok (.invokestatic 86, 3) := by decide +kernel
theorem dX8_led_23 : decode cX8_led 23 = .ok (.ifCond .ne 5, 3) := by decide +kernel
theorem dX8_led_26 : decode cX8_led 26 = .ok (.iconst (-1), 1) := by decide +kernel
theorem dX8_led_27 : decode cX8_led 27 = .ok (.ireturn, 1) := by decide +kernel
theorem dX8_led_28 : decode cX8_led 28 = .ok (.aload_n 0, 1) := by decide +kernel
theorem dX8_led_29 : decode cX8_led 29 = .ok (.iload_n 2, 1) := by decide +kernel
theorem dX8_led_30 : decode cX8_led 30 = .ok (.bipush 119, 2) := by decide +kernel
theorem dX8_led_32 : decode cX8_led 32 = .ok (.invokevirtual 108, 3) := by decide +kernel
theorem dX8_led_35 : decode cX8_led 35 = .ok (.iload_n 1, 1) := by decide +kernel
theorem dX8_led_36 : decode cX8_led 36 = .ok (.istore 4, 2) := by decide +kernel
theorem dX8_led_38 : decode cX8_led 38 = .ok (.iconst 0, 1) := by decide +kernel
theorem dX8_led_39 : decode cX8_led 39 = .ok (.istore 5, 2) := by decide +kernel
theorem dX8_led_41 : decode cX8_led 41 = .ok (.iload 5, 2) := by decide +kernel
theorem dX8_led_43 : decode cX8_led 43 = .ok (.aload_n 0, 1) := by decide +kernel
theorem dX8_led_44 : decode cX8_led 44 = .ok (.getfield 116, 3) := by decide +kernel
theorem dX8_led_47 : decode cX8_led 47 = .ok (.if_icmp .ge 70, 3) := by decide +kernel
theorem dX8_led_50 : decode cX8_led 50 = .ok (.aload_n 0, 1) := by decide +kernel
theorem dX8_led_51 : decode cX8_led 51 = .ok (.iload 5, 2) := by decide +kernel
theorem dX8_led_53 : decode cX8_led 53 = .ok (.invokevirtual 219, 3) := by decide +kernel
theorem dX8_led_56 : decode cX8_led 56 = .ok (.iload 4, 2) := by decide +kernel
theorem dX8_led_58 : decode cX8_led 58 = .ok (.aload_n 0, 1) := by decide +kernel
theorem dX8_led_59 : decode cX8_led 59 = .ok (.getfield 207, 3) := by decide +kernel
theorem dX8_led_62 : decode cX8_led 62 = .ok (.if_icmp .ge 40, 3) := by decide +kernel
theorem dX8_led_65 : decode cX8_led 65 = .ok (.iload_n 3, 1) := by decide +kernel
theorem dX8_led_66 : decode cX8_led 66 = .ok (.ifCond .ne 8, 3) := by decide +kernel
theorem dX8_led_69 : decode cX8_led 69 = .ok (.iload 5, 2) := by decide +kernel
theorem dX8_led_71 : decode cX8_led 71 = .ok (.goto 30, 3) := by decide +kernel
theorem dX8_led_74 : decode cX8_led 74 = .ok (.iload 4, 2) := by decide +kernel
theorem dX8_led_76 : decode cX8_led 76 = .ok (.aload_n 0, 1) := by decide +kernel
theorem dX8_led_77 : decode cX8_led 77 = .ok (.getfield 216, 3) := by decide +kernel
theorem dX8_led_80 : decode cX8_led 80 = .ok (.if_icmp .ge 7, 3) := by decide +kernel
theorem dX8_led_83 : decode cX8_led 83 = .ok (.iconst 0, 1) := by decide +kernel
theorem dX8_led_84 : decode cX8_led 84 = .ok (.goto 17, 3) := by decide +kernel
theorem dX8_led_87 : decode cX8_led 87 = .ok (.iload 4, 2) := by decide +kernel
theorem dX8_led_89 : decode cX8_led 89 = .ok (.aload_n 0, 1) := by decide +kernel
theorem dX8_led_90 : decode cX8_led 90 = .ok (.getfield 213, 3) := by decide +kernel
theorem dX8_led_93 : decode cX8_led 93 = .ok (.if_icmp .ge 7, 3) := by decide +kernel
theorem dX8_led_96 : decode cX8_led 96 = .ok (.iconst 1, 1) := by decide +kernel
theorem dX8_led_97 : decode cX8_led 97 = .ok (.goto 4, 3) := by decide +kernel
theorem dX8_led_100 : decode cX8_led 100 = .ok (.iconst 2, 1) := by decide +kernel
theorem dX8_led_101 : decode cX8_led 101 = .ok (.ireturn, 1) := by decide +kernel
theorem dX8_led_102 : decode cX8_led 102 = .ok (.iload 4, 2) := by decide +kernel
theorem dX8_led_104 : decode cX8_led 104 = .ok (.aload_n 0, 1) := by decide +kernel
theorem dX8_led_105 : decode cX8_led 105 = .ok (.getfield 207, 3) := by decide +kernel
theorem dX8_led_108 : decode cX8_led 108 = .ok (.isub, 1) := by decide +kernel
theorem dX8_led_109 : decode cX8_led 109 = .ok (.istore 4, 2) := by decide +kernel
theorem dX8_led_111 : decode cX8_led 111 = .ok (.iinc 5 1, 3) := by decide +kernel
theorem dX8_led_114 : decode cX8_led 114 = .ok (.goto (-73), 3) := by decide +kernel
theorem dX8_led_117 : decode cX8_led 117 = .ok (.iconst (-1), 1) := by decide +kernel
theorem dX8_led_118 : decode cX8_led 118 = .ok (.ireturn, 1) := by decide +kernel
theorem dX8_count_0 : decode cX8_count 0 = .ok (.aload_n 0, 1) := by decide +kernel
theorem dX8_count_1 : decode cX8_count 1 = .ok (.iconst 0, 1) := by decide +kernel
theorem dX8_count_2 : decode cX8_count 2 = .ok (.putfield 78, 3) := by decide +kernel
theorem dX8_count_5 : decode cX8_count 5 = .ok (.iconst 0, 1) := by decide +kernel
theorem dX8_count_6 : decode cX8_count 6 = .ok (.istore_n 2, 1) := by decide +kernel
theorem dX8_count_7 : decode cX8_count 7 = .ok (.iload_n 1, 1) := by decide +kernel
theorem dX8_count_8 : decode cX8_count 8 = .ok (.tableswitch 131 0 6 #[44, 49, 54, 89, 94, 99, 104], 44) := by decide +kernel
theorem dX8_count_52 : decode cX8_count 52 = .ok (.aload_n 0, 1) := by decide +kernel
theorem dX8_count_53 : decode cX8_count 53 = .ok (.getfield 105, 3) := by decide +kernel
theorem dX8_count_56 : decode cX8_count 56 = .ok (.ireturn, 1) := by decide +kernel
theorem dX8_count_57 : decode cX8_count 57 = .ok (.aload_n 0, 1) := by decide +kernel
theorem dX8_count_58 : decode cX8_count 58 = .ok (.getfield 116, 3) := by decide +kernel
theorem dX8_count_61 : decode cX8_count 61 = .ok (.ireturn, 1) := by decide +kernel
theorem dX8_count_62 : decode cX8_count 62 = .ok (.iconst 0, 1) := by decide +kernel
theorem dX8_count_63 : decode cX8_count 63 = .ok (.istore_n 3, 1) := by decide +kernel
theorem dX8_count_64 : decode cX8_count 64 = .ok (.iload_n 3, 1) := by decide +kernel
theorem dX8_count_65 : decode cX8_count 65 = .ok (.aload_n 0, 1) := by decide +kernel
theorem dX8_count_66 : decode cX8_count 66 = .ok (.getfield 116, 3) := by decide +kernel
theorem dX8_count_69 : decode cX8_count 69 = .ok (.if_icmp .gt 26, 3) := by decide +kernel
theorem dX8_count_72 : decode cX8_count 72 = .ok (.iload_n 2, 1) := by decide +kernel
theorem dX8_count_73 : decode cX8_count 73 = .ok (.aload_n 0, 1) := by decide +kernel
theorem dX8_count_74 : decode cX8_count 74 = .ok (.getfield 34, 3) := by decide +kernel
theorem dX8_count_77 : decode cX8_count 77 = .ok (.iload_n 3, 1) := by decide +kernel
theorem dX8_count_78 : decode cX8_count 78 = .ok (.baload, 1) := by decide +kernel
theorem dX8_count_79 : decode cX8_count 79 = .ok (.ifCond .eq 7, 3) := by decide +kernel
theorem dX8_count_82 : decode cX8_count 82 = .ok (.iconst 1, 1) := by decide +kernel
theorem dX8_count_83 : decode cX8_count 83 = .ok (.goto 4, 3) := by decide +kernel
theorem dX8_count_86 : decode cX8_count 86 = .ok (.iconst 0, 1) := by decide +kernel
theorem dX8_count_87 : decode cX8_count 87 = .ok (.iadd, 1) := by decide +kernel
theorem dX8_count_88 : decode cX8_count 88 = .ok (.istore_n 2, 1) := by decide +kernel
theorem dX8_count_89 : decode cX8_count 89 = .ok (.iinc 3 1, 3) := by decide +kernel
theorem dX8_count_92 : decode cX8_count 92 = .ok (.goto (-28), 3) := by decide +kernel
theorem dX8_count_95 : decode cX8_count 95 = .ok (.iload_n 2, 1) := by decide +kernel
theorem dX8_count_96 : decode cX8_count 96 = .ok (.ireturn, 1) := by decide +kernel
theorem dX8_count_97 : decode cX8_count 97 = .ok (.aload_n 0, 1) := by decide +kernel
theorem dX8_count_98 : decode cX8_count 98 = .ok (.getfield 204, 3) := by decide +kernel
theorem dX8_count_101 : decode cX8_count 101 = .ok (.ireturn, 1) := by decide +kernel
theorem dX8_count_102 : decode cX8_count 102 = .ok (.aload_n 0, 1) := by decide +kernel
theorem dX8_count_103 : decode cX8_count 103 = .ok (.getfield 226, 3) := by decide +kernel
theorem dX8_count_106 : decode cX8_count 106 = .ok (.ireturn, 1) := by decide +kernel
theorem dX8_count_107 : decode cX8_count 107 = .ok (.aload_n 0, 1) := by decide +kernel
theorem dX8_count_108 : decode cX8_count 108 = .ok (.getfield 141, 3) := by decide +kernel
theorem dX8_count_111 : decode cX8_count 111 = .ok (.ireturn, 1) := by decide +kernel
theorem dX8_count_112 : decode cX8_count 112 = .ok (.iconst 0, 1) := by decide +kernel
theorem dX8_count_113 : decode cX8_count 113 = .ok (.istore_n 3, 1) := by decide +kernel
theorem dX8_count_114 : decode cX8_count 114 = .ok (.iload_n 3, 1) := by decide +kernel
theorem dX8_count_115 : decode cX8_count 115 = .ok (.aload_n 0, 1) := by decide +kernel
theorem dX8_count_116 : decode cX8_count 116 = .ok (.getfield 116, 3) := by decide +kernel
theorem dX8_count_119 : decode cX8_count 119 = .ok (.if_icmp .ge 18, 3) := by decide +kernel
theorem dX8_count_122 : decode cX8_count 122 = .ok (.iload_n 2, 1) := by decide +kernel
theorem dX8_count_123 : decode cX8_count 123 = .ok (.aload_n 0, 1) := by decide +kernel
theorem dX8_count_124 : decode cX8_count 124 = .ok (.getfield 25, 3) := by decide +kernel
theorem dX8_count_127 : decode cX8_count 127 = .ok (.iload_n 3, 1) := by decide +kernel
theorem dX8_count_128 : decode cX8_count 128 = .ok (.iaload, 1) := by decide +kernel
theorem dX8_count_129 : decode cX8_count 129 = .ok (.iadd, 1) := by decide +kernel
theorem dX8_count_130 : decode cX8_count 130 = .ok (.istore_n 2, 1) := by decide +kernel
theorem dX8_count_131 : decode cX8_count 131 = .ok (.iinc 3 1, 3) := by decide +kernel
theorem dX8_count_134 : decode cX8_count 134 = .ok (.goto (-20), 3) := by decide +kernel
theorem dX8_count_137 : decode cX8_count 137 = .ok (.iload_n 2, 1) := by decide +kernel
theorem dX8_count_138 : decode cX8_count 138 = .ok (.ireturn, 1) := by decide +kernel
theorem dX8_count_139 : decode cX8_count 139 = .ok (.iconst (-1), 1) := by decide +kernel
theorem dX8_count_140 : decode cX8_count 140 = .ok (.ireturn, 1) := by decide +kernel
theorem dX8_status_0 : decode cX8_status 0 = .ok (.aload_n 0, 1) := by decide +kernel
theorem dX8_status_1 : decode cX8_status 1 = .ok (.iconst 0, 1) := by decide +kernel
theorem dX8_status_2 : decode cX8_status 2 = .ok (.putfield 78, 3) := by decide +kernel
theorem dX8_status_5 : decode cX8_status 5 = .ok (.aload_n 0, 1) := by decide +kernel
theorem dX8_status_6 : decode cX8_status 6 = .ok (.getfield 81, 3) := by decide +kernel
theorem dX8_status_9 : decode cX8_status 9 = .ok (.ireturn, 1) := by decide +kernel
