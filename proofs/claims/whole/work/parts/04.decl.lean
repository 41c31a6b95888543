theorem dqc_0 : okD cL_law [(0, (.new 7, 3)), (3, (.dup, 1)), (4, (.invokespecial 9, 3)), (7, (.astore_n 1, 1)), (8, (.new 10, 3)), (11, (.dup, 1)), (12, (.invokespecial 12, 3)), (15, (.astore_n 2, 1)), (16, (.iconst 0, 1)), (17, (.istore_n 3, 1)), (18, (.iload_n 3, 1)), (19, (.aload_n 0, 1)), (20, (.arraylength, 1)), (21, (.bipush 6, 2)), (23, (.isub, 1)), (24, (.if_icmp .gt 872, 3)), (27, (.aload_n 0, 1)), (28, (.iload_n 3, 1)), (29, (.iaload, 1)), (30, (.bipush 31, 2)), (32, (.iand, 1)), (33, (.tableswitch 857 0 22 #[107, 150, 183, 206, 249, 282, 305, 348, 371, 414, 447, 480, 513, 576, 599, 612, 625, 668, 721, 755, 778, 821, 844], 107)), (140, (.aload_n 1, 1)), (141, (.aload_n 0, 1)), (142, (.iload_n 3, 1)), (143, (.iconst 1, 1)), (144, (.iadd, 1)), (145, (.iaload, 1)), (146, (.aload_n 0, 1)), (147, (.iload_n 3, 1)), (148, (.iconst 2, 1)), (149, (.iadd, 1)), (150, (.iaload, 1)), (151, (.aload_n 0, 1)), (152, (.iload_n 3, 1)), (153, (.iconst 3, 1)), (154, (.iadd, 1)), (155, (.iaload, 1)), (156, (.invokevirtual 13, 3)), (159, (.aload_n 2, 1))] = true := by decide +kernel
theorem dL_law_0 : decode cL_law 0 = .ok (.new 7, 3) := okD_get dqc_0 0 rfl
theorem dL_law_3 : decode cL_law 3 = .ok (.dup, 1) := okD_get dqc_0 1 rfl
theorem dL_law_4 : decode cL_law 4 = .ok (.invokespecial 9, 3) := okD_get dqc_0 2 rfl
theorem dL_law_7 : decode cL_law 7 = .ok (.astore_n 1, 1) := okD_get dqc_0 3 rfl
theorem dL_law_8 : decode cL_law 8 = .ok (.new 10, 3) := okD_get dqc_0 4 rfl
theorem dL_law_11 : decode cL_law 11 = .ok (.dup, 1) := okD_get dqc_0 5 rfl
theorem dL_law_12 : decode cL_law 12 = .ok (.invokespecial 12, 3) := okD_get dqc_0 6 rfl
theorem dL_law_15 : decode cL_law 15 = .ok (.astore_n 2, 1) := okD_get dqc_0 7 rfl
theorem dL_law_16 : decode cL_law 16 = .ok (.iconst 0, 1) := okD_get dqc_0 8 rfl
theorem dL_law_17 : decode cL_law 17 = .ok (.istore_n 3, 1) := okD_get dqc_0 9 rfl
theorem dL_law_18 : decode cL_law 18 = .ok (.iload_n 3, 1) := okD_get dqc_0 10 rfl
theorem dL_law_19 : decode cL_law 19 = .ok (.aload_n 0, 1) := okD_get dqc_0 11 rfl
theorem dL_law_20 : decode cL_law 20 = .ok (.arraylength, 1) := okD_get dqc_0 12 rfl
theorem dL_law_21 : decode cL_law 21 = .ok (.bipush 6, 2) := okD_get dqc_0 13 rfl
theorem dL_law_23 : decode cL_law 23 = .ok (.isub, 1) := okD_get dqc_0 14 rfl
theorem dL_law_24 : decode cL_law 24 = .ok (.if_icmp .gt 872, 3) := okD_get dqc_0 15 rfl
theorem dL_law_27 : decode cL_law 27 = .ok (.aload_n 0, 1) := okD_get dqc_0 16 rfl
theorem dL_law_28 : decode cL_law 28 = .ok (.iload_n 3, 1) := okD_get dqc_0 17 rfl
theorem dL_law_29 : decode cL_law 29 = .ok (.iaload, 1) := okD_get dqc_0 18 rfl
theorem dL_law_30 : decode cL_law 30 = .ok (.bipush 31, 2) := okD_get dqc_0 19 rfl
theorem dL_law_32 : decode cL_law 32 = .ok (.iand, 1) := okD_get dqc_0 20 rfl
theorem dL_law_33 : decode cL_law 33 = .ok (.tableswitch 857 0 22 #[107, 150, 183, 206, 249, 282, 305, 348, 371, 414, 447, 480, 513, 576, 599, 612, 625, 668, 721, 755, 778, 821, 844], 107) := okD_get dqc_0 21 rfl
theorem dL_law_140 : decode cL_law 140 = .ok (.aload_n 1, 1) := okD_get dqc_0 22 rfl
theorem dL_law_141 : decode cL_law 141 = .ok (.aload_n 0, 1) := okD_get dqc_0 23 rfl
theorem dL_law_142 : decode cL_law 142 = .ok (.iload_n 3, 1) := okD_get dqc_0 24 rfl
theorem dL_law_143 : decode cL_law 143 = .ok (.iconst 1, 1) := okD_get dqc_0 25 rfl
theorem dL_law_144 : decode cL_law 144 = .ok (.iadd, 1) := okD_get dqc_0 26 rfl
theorem dL_law_145 : decode cL_law 145 = .ok (.iaload, 1) := okD_get dqc_0 27 rfl
theorem dL_law_146 : decode cL_law 146 = .ok (.aload_n 0, 1) := okD_get dqc_0 28 rfl
theorem dL_law_147 : decode cL_law 147 = .ok (.iload_n 3, 1) := okD_get dqc_0 29 rfl
theorem dL_law_148 : decode cL_law 148 = .ok (.iconst 2, 1) := okD_get dqc_0 30 rfl
theorem dL_law_149 : decode cL_law 149 = .ok (.iadd, 1) := okD_get dqc_0 31 rfl
theorem dL_law_150 : decode cL_law 150 = .ok (.iaload, 1) := okD_get dqc_0 32 rfl
theorem dL_law_151 : decode cL_law 151 = .ok (.aload_n 0, 1) := okD_get dqc_0 33 rfl
theorem dL_law_152 : decode cL_law 152 = .ok (.iload_n 3, 1) := okD_get dqc_0 34 rfl
theorem dL_law_153 : decode cL_law 153 = .ok (.iconst 3, 1) := okD_get dqc_0 35 rfl
theorem dL_law_154 : decode cL_law 154 = .ok (.iadd, 1) := okD_get dqc_0 36 rfl
theorem dL_law_155 : decode cL_law 155 = .ok (.iaload, 1) := okD_get dqc_0 37 rfl
theorem dL_law_156 : decode cL_law 156 = .ok (.invokevirtual 13, 3) := okD_get dqc_0 38 rfl
theorem dL_law_159 : decode cL_law 159 = .ok (.aload_n 2, 1) := okD_get dqc_0 39 rfl
theorem dqc_1 : okD cL_law [(160, (.aload_n 0, 1)), (161, (.iload_n 3, 1)), (162, (.iconst 1, 1)), (163, (.iadd, 1)), (164, (.iaload, 1)), (165, (.aload_n 0, 1)), (166, (.iload_n 3, 1)), (167, (.iconst 2, 1)), (168, (.iadd, 1)), (169, (.iaload, 1)), (170, (.aload_n 0, 1)), (171, (.iload_n 3, 1)), (172, (.iconst 3, 1)), (173, (.iadd, 1)), (174, (.iaload, 1)), (175, (.invokevirtual 17, 3)), (178, (.if_icmp .eq 712, 3)), (181, (.iconst 0, 1)), (182, (.ireturn, 1)), (183, (.aload_n 1, 1)), (184, (.aload_n 0, 1)), (185, (.iload_n 3, 1)), (186, (.iconst 1, 1)), (187, (.iadd, 1)), (188, (.iaload, 1)), (189, (.aload_n 0, 1)), (190, (.iload_n 3, 1)), (191, (.iconst 2, 1)), (192, (.iadd, 1)), (193, (.iaload, 1)), (194, (.invokevirtual 18, 3)), (197, (.aload_n 2, 1)), (198, (.aload_n 0, 1)), (199, (.iload_n 3, 1)), (200, (.iconst 1, 1)), (201, (.iadd, 1)), (202, (.iaload, 1)), (203, (.aload_n 0, 1)), (204, (.iload_n 3, 1)), (205, (.iconst 2, 1))] = true := by decide +kernel
theorem dL_law_160 : decode cL_law 160 = .ok (.aload_n 0, 1) := okD_get dqc_1 0 rfl
theorem dL_law_161 : decode cL_law 161 = .ok (.iload_n 3, 1) := okD_get dqc_1 1 rfl
theorem dL_law_162 : decode cL_law 162 = .ok (.iconst 1, 1) := okD_get dqc_1 2 rfl
theorem dL_law_163 : decode cL_law 163 = .ok (.iadd, 1) := okD_get dqc_1 3 rfl
theorem dL_law_164 : decode cL_law 164 = .ok (.iaload, 1) := okD_get dqc_1 4 rfl
theorem dL_law_165 : decode cL_law 165 = .ok (.aload_n 0, 1) := okD_get dqc_1 5 rfl
theorem dL_law_166 : decode cL_law 166 = .ok (.iload_n 3, 1) := okD_get dqc_1 6 rfl
theorem dL_law_167 : decode cL_law 167 = .ok (.iconst 2, 1) := okD_get dqc_1 7 rfl
theorem dL_law_168 : decode cL_law 168 = .ok (.iadd, 1) := okD_get dqc_1 8 rfl
theorem dL_law_169 : decode cL_law 169 = .ok (.iaload, 1) := okD_get dqc_1 9 rfl
theorem dL_law_170 : decode cL_law 170 = .ok (.aload_n 0, 1) := okD_get dqc_1 10 rfl
theorem dL_law_171 : decode cL_law 171 = .ok (.iload_n 3, 1) := okD_get dqc_1 11 rfl
theorem dL_law_172 : decode cL_law 172 = .ok (.iconst 3, 1) := okD_get dqc_1 12 rfl
theorem dL_law_173 : decode cL_law 173 = .ok (.iadd, 1) := okD_get dqc_1 13 rfl
theorem dL_law_174 : decode cL_law 174 = .ok (.iaload, 1) := okD_get dqc_1 14 rfl
theorem dL_law_175 : decode cL_law 175 = .ok (.invokevirtual 17, 3) := okD_get dqc_1 15 rfl
theorem dL_law_178 : decode cL_law 178 = .ok (.if_icmp .eq 712, 3) := okD_get dqc_1 16 rfl
theorem dL_law_181 : decode cL_law 181 = .ok (.iconst 0, 1) := okD_get dqc_1 17 rfl
theorem dL_law_182 : decode cL_law 182 = .ok (.ireturn, 1) := okD_get dqc_1 18 rfl
theorem dL_law_183 : decode cL_law 183 = .ok (.aload_n 1, 1) := okD_get dqc_1 19 rfl
theorem dL_law_184 : decode cL_law 184 = .ok (.aload_n 0, 1) := okD_get dqc_1 20 rfl
theorem dL_law_185 : decode cL_law 185 = .ok (.iload_n 3, 1) := okD_get dqc_1 21 rfl
theorem dL_law_186 : decode cL_law 186 = .ok (.iconst 1, 1) := okD_get dqc_1 22 rfl
theorem dL_law_187 : decode cL_law 187 = .ok (.iadd, 1) := okD_get dqc_1 23 rfl
theorem dL_law_188 : decode cL_law 188 = .ok (.iaload, 1) := okD_get dqc_1 24 rfl
theorem dL_law_189 : decode cL_law 189 = .ok (.aload_n 0, 1) := okD_get dqc_1 25 rfl
theorem dL_law_190 : decode cL_law 190 = .ok (.iload_n 3, 1) := okD_get dqc_1 26 rfl
theorem dL_law_191 : decode cL_law 191 = .ok (.iconst 2, 1) := okD_get dqc_1 27 rfl
theorem dL_law_192 : decode cL_law 192 = .ok (.iadd, 1) := okD_get dqc_1 28 rfl
theorem dL_law_193 : decode cL_law 193 = .ok (.iaload, 1) := okD_get dqc_1 29 rfl
theorem dL_law_194 : decode cL_law 194 = .ok (.invokevirtual 18, 3) := okD_get dqc_1 30 rfl
theorem dL_law_197 : decode cL_law 197 = .ok (.aload_n 2, 1) := okD_get dqc_1 31 rfl
theorem dL_law_198 : decode cL_law 198 = .ok (.aload_n 0, 1) := okD_get dqc_1 32 rfl
theorem dL_law_199 : decode cL_law 199 = .ok (.iload_n 3, 1) := okD_get dqc_1 33 rfl
theorem dL_law_200 : decode cL_law 200 = .ok (.iconst 1, 1) := okD_get dqc_1 34 rfl
theorem dL_law_201 : decode cL_law 201 = .ok (.iadd, 1) := okD_get dqc_1 35 rfl
theorem dL_law_202 : decode cL_law 202 = .ok (.iaload, 1) := okD_get dqc_1 36 rfl
theorem dL_law_203 : decode cL_law 203 = .ok (.aload_n 0, 1) := okD_get dqc_1 37 rfl
theorem dL_law_204 : decode cL_law 204 = .ok (.iload_n 3, 1) := okD_get dqc_1 38 rfl
theorem dL_law_205 : decode cL_law 205 = .ok (.iconst 2, 1) := okD_get dqc_1 39 rfl
theorem dqc_2 : okD cL_law [(206, (.iadd, 1)), (207, (.iaload, 1)), (208, (.invokevirtual 22, 3)), (211, (.if_icmp .eq 679, 3)), (214, (.iconst 0, 1)), (215, (.ireturn, 1)), (216, (.aload_n 1, 1)), (217, (.aload_n 0, 1)), (218, (.iload_n 3, 1)), (219, (.iconst 1, 1)), (220, (.iadd, 1)), (221, (.iaload, 1)), (222, (.invokevirtual 23, 3)), (225, (.aload_n 2, 1)), (226, (.aload_n 0, 1)), (227, (.iload_n 3, 1)), (228, (.iconst 1, 1)), (229, (.iadd, 1)), (230, (.iaload, 1)), (231, (.invokevirtual 27, 3)), (234, (.if_icmp .eq 656, 3)), (237, (.iconst 0, 1)), (238, (.ireturn, 1)), (239, (.aload_n 1, 1)), (240, (.aload_n 0, 1)), (241, (.iload_n 3, 1)), (242, (.iconst 1, 1)), (243, (.iadd, 1)), (244, (.iaload, 1)), (245, (.aload_n 0, 1)), (246, (.iload_n 3, 1)), (247, (.iconst 2, 1)), (248, (.iadd, 1)), (249, (.iaload, 1)), (250, (.aload_n 0, 1)), (251, (.iload_n 3, 1)), (252, (.iconst 3, 1)), (253, (.iadd, 1)), (254, (.iaload, 1)), (255, (.invokevirtual 28, 3))] = true := by decide +kernel
theorem dL_law_206 : decode cL_law 206 = .ok (.iadd, 1) := okD_get dqc_2 0 rfl
theorem dL_law_207 : decode cL_law 207 = .ok (.iaload, 1) := okD_get dqc_2 1 rfl
theorem dL_law_208 : decode cL_law 208 = .ok (.invokevirtual 22, 3) := okD_get dqc_2 2 rfl
theorem dL_law_211 : decode cL_law 211 = .ok (.if_icmp .eq 679, 3) := okD_get dqc_2 3 rfl
theorem dL_law_214 : decode cL_law 214 = .ok (.iconst 0, 1) := okD_get dqc_2 4 rfl
theorem dL_law_215 : decode cL_law 215 = .ok (.ireturn, 1) := okD_get dqc_2 5 rfl
theorem dL_law_216 : decode cL_law 216 = .ok (.aload_n 1, 1) := okD_get dqc_2 6 rfl
theorem dL_law_217 : decode cL_law 217 = .ok (.aload_n 0, 1) := okD_get dqc_2 7 rfl
theorem dL_law_218 : decode cL_law 218 = .ok (.iload_n 3, 1) := okD_get dqc_2 8 rfl
theorem dL_law_219 : decode cL_law 219 = .ok (.iconst 1, 1) := okD_get dqc_2 9 rfl
theorem dL_law_220 : decode cL_law 220 = .ok (.iadd, 1) := okD_get dqc_2 10 rfl
theorem dL_law_221 : decode cL_law 221 = .ok (.iaload, 1) := okD_get dqc_2 11 rfl
theorem dL_law_222 : decode cL_law 222 = .ok (.invokevirtual 23, 3) := okD_get dqc_2 12 rfl
theorem dL_law_225 : decode cL_law 225 = .ok (.aload_n 2, 1) := okD_get dqc_2 13 rfl
theorem dL_law_226 : decode cL_law 226 = .ok (.aload_n 0, 1) := okD_get dqc_2 14 rfl
theorem dL_law_227 : decode cL_law 227 = .ok (.iload_n 3, 1) := okD_get dqc_2 15 rfl
theorem dL_law_228 : decode cL_law 228 = .ok (.iconst 1, 1) := okD_get dqc_2 16 rfl
theorem dL_law_229 : decode cL_law 229 = .ok (.iadd, 1) := okD_get dqc_2 17 rfl
theorem dL_law_230 : decode cL_law 230 = .ok (.iaload, 1) := okD_get dqc_2 18 rfl
theorem dL_law_231 : decode cL_law 231 = .ok (.invokevirtual 27, 3) := okD_get dqc_2 19 rfl
theorem dL_law_234 : decode cL_law 234 = .ok (.if_icmp .eq 656, 3) := okD_get dqc_2 20 rfl
theorem dL_law_237 : decode cL_law 237 = .ok (.iconst 0, 1) := okD_get dqc_2 21 rfl
theorem dL_law_238 : decode cL_law 238 = .ok (.ireturn, 1) := okD_get dqc_2 22 rfl
theorem dL_law_239 : decode cL_law 239 = .ok (.aload_n 1, 1) := okD_get dqc_2 23 rfl
theorem dL_law_240 : decode cL_law 240 = .ok (.aload_n 0, 1) := okD_get dqc_2 24 rfl
theorem dL_law_241 : decode cL_law 241 = .ok (.iload_n 3, 1) := okD_get dqc_2 25 rfl
theorem dL_law_242 : decode cL_law 242 = .ok (.iconst 1, 1) := okD_get dqc_2 26 rfl
theorem dL_law_243 : decode cL_law 243 = .ok (.iadd, 1) := okD_get dqc_2 27 rfl
theorem dL_law_244 : decode cL_law 244 = .ok (.iaload, 1) := okD_get dqc_2 28 rfl
theorem dL_law_245 : decode cL_law 245 = .ok (.aload_n 0, 1) := okD_get dqc_2 29 rfl
theorem dL_law_246 : decode cL_law 246 = .ok (.iload_n 3, 1) := okD_get dqc_2 30 rfl
theorem dL_law_247 : decode cL_law 247 = .ok (.iconst 2, 1) := okD_get dqc_2 31 rfl
theorem dL_law_248 : decode cL_law 248 = .ok (.iadd, 1) := okD_get dqc_2 32 rfl
theorem dL_law_249 : decode cL_law 249 = .ok (.iaload, 1) := okD_get dqc_2 33 rfl
theorem dL_law_250 : decode cL_law 250 = .ok (.aload_n 0, 1) := okD_get dqc_2 34 rfl
theorem dL_law_251 : decode cL_law 251 = .ok (.iload_n 3, 1) := okD_get dqc_2 35 rfl
theorem dL_law_252 : decode cL_law 252 = .ok (.iconst 3, 1) := okD_get dqc_2 36 rfl
theorem dL_law_253 : decode cL_law 253 = .ok (.iadd, 1) := okD_get dqc_2 37 rfl
theorem dL_law_254 : decode cL_law 254 = .ok (.iaload, 1) := okD_get dqc_2 38 rfl
theorem dL_law_255 : decode cL_law 255 = .ok (.invokevirtual 28, 3) := okD_get dqc_2 39 rfl
theorem dqc_3 : okD cL_law [(258, (.aload_n 2, 1)), (259, (.aload_n 0, 1)), (260, (.iload_n 3, 1)), (261, (.iconst 1, 1)), (262, (.iadd, 1)), (263, (.iaload, 1)), (264, (.aload_n 0, 1)), (265, (.iload_n 3, 1)), (266, (.iconst 2, 1)), (267, (.iadd, 1)), (268, (.iaload, 1)), (269, (.aload_n 0, 1)), (270, (.iload_n 3, 1)), (271, (.iconst 3, 1)), (272, (.iadd, 1)), (273, (.iaload, 1)), (274, (.invokevirtual 31, 3)), (277, (.if_icmp .eq 613, 3)), (280, (.iconst 0, 1)), (281, (.ireturn, 1)), (282, (.aload_n 1, 1)), (283, (.aload_n 0, 1)), (284, (.iload_n 3, 1)), (285, (.iconst 1, 1)), (286, (.iadd, 1)), (287, (.iaload, 1)), (288, (.aload_n 0, 1)), (289, (.iload_n 3, 1)), (290, (.iconst 2, 1)), (291, (.iadd, 1)), (292, (.iaload, 1)), (293, (.invokevirtual 32, 3)), (296, (.aload_n 2, 1)), (297, (.aload_n 0, 1)), (298, (.iload_n 3, 1)), (299, (.iconst 1, 1)), (300, (.iadd, 1)), (301, (.iaload, 1)), (302, (.aload_n 0, 1)), (303, (.iload_n 3, 1))] = true := by decide +kernel
theorem dL_law_258 : decode cL_law 258 = .ok (.aload_n 2, 1) := okD_get dqc_3 0 rfl
theorem dL_law_259 : decode cL_law 259 = .ok (.aload_n 0, 1) := okD_get dqc_3 1 rfl
theorem dL_law_260 : decode cL_law 260 = .ok (.iload_n 3, 1) := okD_get dqc_3 2 rfl
theorem dL_law_261 : decode cL_law 261 = .ok (.iconst 1, 1) := okD_get dqc_3 3 rfl
theorem dL_law_262 : decode cL_law 262 = .ok (.iadd, 1) := okD_get dqc_3 4 rfl
theorem dL_law_263 : decode cL_law 263 = .ok (.iaload, 1) := okD_get dqc_3 5 rfl
theorem dL_law_264 : decode cL_law 264 = .ok (.aload_n 0, 1) := okD_get dqc_3 6 rfl
theorem dL_law_265 : decode cL_law 265 = .ok (.iload_n 3, 1) := okD_get dqc_3 7 rfl
theorem dL_law_266 : decode cL_law 266 = .ok (.iconst 2, 1) := okD_get dqc_3 8 rfl
theorem dL_law_267 : decode cL_law 267 = .ok (.iadd, 1) := okD_get dqc_3 9 rfl
theorem dL_law_268 : decode cL_law 268 = .ok (.iaload, 1) := okD_get dqc_3 10 rfl
theorem dL_law_269 : decode cL_law 269 = .ok (.aload_n 0, 1) := okD_get dqc_3 11 rfl
theorem dL_law_270 : decode cL_law 270 = .ok (.iload_n 3, 1) := okD_get dqc_3 12 rfl
theorem dL_law_271 : decode cL_law 271 = .ok (.iconst 3, 1) := okD_get dqc_3 13 rfl
theorem dL_law_272 : decode cL_law 272 = .ok (.iadd, 1) := okD_get dqc_3 14 rfl
theorem dL_law_273 : decode cL_law 273 = .ok (.iaload, 1) := okD_get dqc_3 15 rfl
theorem dL_law_274 : decode cL_law 274 = .ok (.invokevirtual 31, 3) := okD_get dqc_3 16 rfl
theorem dL_law_277 : decode cL_law 277 = .ok (.if_icmp .eq 613, 3) := okD_get dqc_3 17 rfl
theorem dL_law_280 : decode cL_law 280 = .ok (.iconst 0, 1) := okD_get dqc_3 18 rfl
theorem dL_law_281 : decode cL_law 281 = .ok (.ireturn, 1) := okD_get dqc_3 19 rfl
theorem dL_law_282 : decode cL_law 282 = .ok (.aload_n 1, 1) := okD_get dqc_3 20 rfl
theorem dL_law_283 : decode cL_law 283 = .ok (.aload_n 0, 1) := okD_get dqc_3 21 rfl
theorem dL_law_284 : decode cL_law 284 = .ok (.iload_n 3, 1) := okD_get dqc_3 22 rfl
theorem dL_law_285 : decode cL_law 285 = .ok (.iconst 1, 1) := okD_get dqc_3 23 rfl
theorem dL_law_286 : decode cL_law 286 = .ok (.iadd, 1) := okD_get dqc_3 24 rfl
theorem dL_law_287 : decode cL_law 287 = .ok (.iaload, 1) := okD_get dqc_3 25 rfl
theorem dL_law_288 : decode cL_law 288 = .ok (.aload_n 0, 1) := okD_get dqc_3 26 rfl
theorem dL_law_289 : decode cL_law 289 = .ok (.iload_n 3, 1) := okD_get dqc_3 27 rfl
theorem dL_law_290 : decode cL_law 290 = .ok (.iconst 2, 1) := okD_get dqc_3 28 rfl
theorem dL_law_291 : decode cL_law 291 = .ok (.iadd, 1) := okD_get dqc_3 29 rfl
theorem dL_law_292 : decode cL_law 292 = .ok (.iaload, 1) := okD_get dqc_3 30 rfl
theorem dL_law_293 : decode cL_law 293 = .ok (.invokevirtual 32, 3) := okD_get dqc_3 31 rfl
theorem dL_law_296 : decode cL_law 296 = .ok (.aload_n 2, 1) := okD_get dqc_3 32 rfl
theorem dL_law_297 : decode cL_law 297 = .ok (.aload_n 0, 1) := okD_get dqc_3 33 rfl
theorem dL_law_298 : decode cL_law 298 = .ok (.iload_n 3, 1) := okD_get dqc_3 34 rfl
theorem dL_law_299 : decode cL_law 299 = .ok (.iconst 1, 1) := okD_get dqc_3 35 rfl
theorem dL_law_300 : decode cL_law 300 = .ok (.iadd, 1) := okD_get dqc_3 36 rfl
theorem dL_law_301 : decode cL_law 301 = .ok (.iaload, 1) := okD_get dqc_3 37 rfl
theorem dL_law_302 : decode cL_law 302 = .ok (.aload_n 0, 1) := okD_get dqc_3 38 rfl
theorem dL_law_303 : decode cL_law 303 = .ok (.iload_n 3, 1) := okD_get dqc_3 39 rfl
theorem dqc_4 : okD cL_law [(304, (.iconst 2, 1)), (305, (.iadd, 1)), (306, (.iaload, 1)), (307, (.invokevirtual 35, 3)), (310, (.if_icmp .eq 580, 3)), (313, (.iconst 0, 1)), (314, (.ireturn, 1)), (315, (.aload_n 1, 1)), (316, (.aload_n 0, 1)), (317, (.iload_n 3, 1)), (318, (.iconst 1, 1)), (319, (.iadd, 1)), (320, (.iaload, 1)), (321, (.invokevirtual 36, 3)), (324, (.aload_n 2, 1)), (325, (.aload_n 0, 1)), (326, (.iload_n 3, 1)), (327, (.iconst 1, 1)), (328, (.iadd, 1)), (329, (.iaload, 1)), (330, (.invokevirtual 39, 3)), (333, (.if_icmp .eq 557, 3)), (336, (.iconst 0, 1)), (337, (.ireturn, 1)), (338, (.aload_n 1, 1)), (339, (.aload_n 0, 1)), (340, (.iload_n 3, 1)), (341, (.iconst 1, 1)), (342, (.iadd, 1)), (343, (.iaload, 1)), (344, (.aload_n 0, 1)), (345, (.iload_n 3, 1)), (346, (.iconst 2, 1)), (347, (.iadd, 1)), (348, (.iaload, 1)), (349, (.aload_n 0, 1)), (350, (.iload_n 3, 1)), (351, (.iconst 3, 1)), (352, (.iadd, 1)), (353, (.iaload, 1))] = true := by decide +kernel
theorem dL_law_304 : decode cL_law 304 = .ok (.iconst 2, 1) := okD_get dqc_4 0 rfl
theorem dL_law_305 : decode cL_law 305 = .ok (.iadd, 1) := okD_get dqc_4 1 rfl
theorem dL_law_306 : decode cL_law 306 = .ok (.iaload, 1) := okD_get dqc_4 2 rfl
theorem dL_law_307 : decode cL_law 307 = .ok (.invokevirtual 35, 3) := okD_get dqc_4 3 rfl
theorem dL_law_310 : decode cL_law 310 = .ok (.if_icmp .eq 580, 3) := okD_get dqc_4 4 rfl
theorem dL_law_313 : decode cL_law 313 = .ok (.iconst 0, 1) := okD_get dqc_4 5 rfl
theorem dL_law_314 : decode cL_law 314 = .ok (.ireturn, 1) := okD_get dqc_4 6 rfl
theorem dL_law_315 : decode cL_law 315 = .ok (.aload_n 1, 1) := okD_get dqc_4 7 rfl
theorem dL_law_316 : decode cL_law 316 = .ok (.aload_n 0, 1) := okD_get dqc_4 8 rfl
theorem dL_law_317 : decode cL_law 317 = .ok (.iload_n 3, 1) := okD_get dqc_4 9 rfl
theorem dL_law_318 : decode cL_law 318 = .ok (.iconst 1, 1) := okD_get dqc_4 10 rfl
theorem dL_law_319 : decode cL_law 319 = .ok (.iadd, 1) := okD_get dqc_4 11 rfl
theorem dL_law_320 : decode cL_law 320 = .ok (.iaload, 1) := okD_get dqc_4 12 rfl
theorem dL_law_321 : decode cL_law 321 = .ok (.invokevirtual 36, 3) := okD_get dqc_4 13 rfl
theorem dL_law_324 : decode cL_law 324 = .ok (.aload_n 2, 1) := okD_get dqc_4 14 rfl
theorem dL_law_325 : decode cL_law 325 = .ok (.aload_n 0, 1) := okD_get dqc_4 15 rfl
theorem dL_law_326 : decode cL_law 326 = .ok (.iload_n 3, 1) := okD_get dqc_4 16 rfl
theorem dL_law_327 : decode cL_law 327 = .ok (.iconst 1, 1) := okD_get dqc_4 17 rfl
theorem dL_law_328 : decode cL_law 328 = .ok (.iadd, 1) := okD_get dqc_4 18 rfl
theorem dL_law_329 : decode cL_law 329 = .ok (.iaload, 1) := okD_get dqc_4 19 rfl
theorem dL_law_330 : decode cL_law 330 = .ok (.invokevirtual 39, 3) := okD_get dqc_4 20 rfl
theorem dL_law_333 : decode cL_law 333 = .ok (.if_icmp .eq 557, 3) := okD_get dqc_4 21 rfl
theorem dL_law_336 : decode cL_law 336 = .ok (.iconst 0, 1) := okD_get dqc_4 22 rfl
theorem dL_law_337 : decode cL_law 337 = .ok (.ireturn, 1) := okD_get dqc_4 23 rfl
theorem dL_law_338 : decode cL_law 338 = .ok (.aload_n 1, 1) := okD_get dqc_4 24 rfl
theorem dL_law_339 : decode cL_law 339 = .ok (.aload_n 0, 1) := okD_get dqc_4 25 rfl
theorem dL_law_340 : decode cL_law 340 = .ok (.iload_n 3, 1) := okD_get dqc_4 26 rfl
theorem dL_law_341 : decode cL_law 341 = .ok (.iconst 1, 1) := okD_get dqc_4 27 rfl
theorem dL_law_342 : decode cL_law 342 = .ok (.iadd, 1) := okD_get dqc_4 28 rfl
theorem dL_law_343 : decode cL_law 343 = .ok (.iaload, 1) := okD_get dqc_4 29 rfl
theorem dL_law_344 : decode cL_law 344 = .ok (.aload_n 0, 1) := okD_get dqc_4 30 rfl
theorem dL_law_345 : decode cL_law 345 = .ok (.iload_n 3, 1) := okD_get dqc_4 31 rfl
theorem dL_law_346 : decode cL_law 346 = .ok (.iconst 2, 1) := okD_get dqc_4 32 rfl
theorem dL_law_347 : decode cL_law 347 = .ok (.iadd, 1) := okD_get dqc_4 33 rfl
theorem dL_law_348 : decode cL_law 348 = .ok (.iaload, 1) := okD_get dqc_4 34 rfl
theorem dL_law_349 : decode cL_law 349 = .ok (.aload_n 0, 1) := okD_get dqc_4 35 rfl
theorem dL_law_350 : decode cL_law 350 = .ok (.iload_n 3, 1) := okD_get dqc_4 36 rfl
theorem dL_law_351 : decode cL_law 351 = .ok (.iconst 3, 1) := okD_get dqc_4 37 rfl
theorem dL_law_352 : decode cL_law 352 = .ok (.iadd, 1) := okD_get dqc_4 38 rfl
theorem dL_law_353 : decode cL_law 353 = .ok (.iaload, 1) := okD_get dqc_4 39 rfl
theorem dqc_5 : okD cL_law [(354, (.invokevirtual 40, 3)), (357, (.aload_n 2, 1)), (358, (.aload_n 0, 1)), (359, (.iload_n 3, 1)), (360, (.iconst 1, 1)), (361, (.iadd, 1)), (362, (.iaload, 1)), (363, (.aload_n 0, 1)), (364, (.iload_n 3, 1)), (365, (.iconst 2, 1)), (366, (.iadd, 1)), (367, (.iaload, 1)), (368, (.aload_n 0, 1)), (369, (.iload_n 3, 1)), (370, (.iconst 3, 1)), (371, (.iadd, 1)), (372, (.iaload, 1)), (373, (.invokevirtual 43, 3)), (376, (.if_icmp .eq 514, 3)), (379, (.iconst 0, 1)), (380, (.ireturn, 1)), (381, (.aload_n 1, 1)), (382, (.aload_n 0, 1)), (383, (.iload_n 3, 1)), (384, (.iconst 1, 1)), (385, (.iadd, 1)), (386, (.iaload, 1)), (387, (.invokevirtual 44, 3)), (390, (.aload_n 2, 1)), (391, (.aload_n 0, 1)), (392, (.iload_n 3, 1)), (393, (.iconst 1, 1)), (394, (.iadd, 1)), (395, (.iaload, 1)), (396, (.invokevirtual 47, 3)), (399, (.if_icmp .eq 491, 3)), (402, (.iconst 0, 1)), (403, (.ireturn, 1)), (404, (.aload_n 1, 1)), (405, (.aload_n 0, 1))] = true := by decide +kernel
theorem dL_law_354 : decode cL_law 354 = .ok (.invokevirtual 40, 3) := okD_get dqc_5 0 rfl
theorem dL_law_357 : decode cL_law 357 = .ok (.aload_n 2, 1) := okD_get dqc_5 1 rfl
theorem dL_law_358 : decode cL_law 358 = .ok (.aload_n 0, 1) := okD_get dqc_5 2 rfl
theorem dL_law_359 : decode cL_law 359 = .ok (.iload_n 3, 1) := okD_get dqc_5 3 rfl
theorem dL_law_360 : decode cL_law 360 = .ok (.iconst 1, 1) := okD_get dqc_5 4 rfl
theorem dL_law_361 : decode cL_law 361 = .ok (.iadd, 1) := okD_get dqc_5 5 rfl
theorem dL_law_362 : decode cL_law 362 = .ok (.iaload, 1) := okD_get dqc_5 6 rfl
theorem dL_law_363 : decode cL_law 363 = .ok (.aload_n 0, 1) := okD_get dqc_5 7 rfl
theorem dL_law_364 : decode cL_law 364 = .ok (.iload_n 3, 1) := okD_get dqc_5 8 rfl
theorem dL_law_365 : decode cL_law 365 = .ok (.iconst 2, 1) := okD_get dqc_5 9 rfl
theorem dL_law_366 : decode cL_law 366 = .ok (.iadd, 1) := okD_get dqc_5 10 rfl
theorem dL_law_367 : decode cL_law 367 = .ok (.iaload, 1) := okD_get dqc_5 11 rfl
theorem dL_law_368 : decode cL_law 368 = .ok (.aload_n 0, 1) := okD_get dqc_5 12 rfl
theorem dL_law_369 : decode cL_law 369 = .ok (.iload_n 3, 1) := okD_get dqc_5 13 rfl
theorem dL_law_370 : decode cL_law 370 = .ok (.iconst 3, 1) := okD_get dqc_5 14 rfl
theorem dL_law_371 : decode cL_law 371 = .ok (.iadd, 1) := okD_get dqc_5 15 rfl
theorem dL_law_372 : decode cL_law 372 = .ok (.iaload, 1) := okD_get dqc_5 16 rfl
theorem dL_law_373 : decode cL_law 373 = .ok (.invokevirtual 43, 3) := okD_get dqc_5 17 rfl
theorem dL_law_376 : decode cL_law 376 = .ok (.if_icmp .eq 514, 3) := okD_get dqc_5 18 rfl
theorem dL_law_379 : decode cL_law 379 = .ok (.iconst 0, 1) := okD_get dqc_5 19 rfl
theorem dL_law_380 : decode cL_law 380 = .ok (.ireturn, 1) := okD_get dqc_5 20 rfl
theorem dL_law_381 : decode cL_law 381 = .ok (.aload_n 1, 1) := okD_get dqc_5 21 rfl
theorem dL_law_382 : decode cL_law 382 = .ok (.aload_n 0, 1) := okD_get dqc_5 22 rfl
theorem dL_law_383 : decode cL_law 383 = .ok (.iload_n 3, 1) := okD_get dqc_5 23 rfl
theorem dL_law_384 : decode cL_law 384 = .ok (.iconst 1, 1) := okD_get dqc_5 24 rfl
theorem dL_law_385 : decode cL_law 385 = .ok (.iadd, 1) := okD_get dqc_5 25 rfl
theorem dL_law_386 : decode cL_law 386 = .ok (.iaload, 1) := okD_get dqc_5 26 rfl
theorem dL_law_387 : decode cL_law 387 = .ok (.invokevirtual 44, 3) := okD_get dqc_5 27 rfl
theorem dL_law_390 : decode cL_law 390 = .ok (.aload_n 2, 1) := okD_get dqc_5 28 rfl
theorem dL_law_391 : decode cL_law 391 = .ok (.aload_n 0, 1) := okD_get dqc_5 29 rfl
theorem dL_law_392 : decode cL_law 392 = .ok (.iload_n 3, 1) := okD_get dqc_5 30 rfl
theorem dL_law_393 : decode cL_law 393 = .ok (.iconst 1, 1) := okD_get dqc_5 31 rfl
theorem dL_law_394 : decode cL_law 394 = .ok (.iadd, 1) := okD_get dqc_5 32 rfl
theorem dL_law_395 : decode cL_law 395 = .ok (.iaload, 1) := okD_get dqc_5 33 rfl
theorem dL_law_396 : decode cL_law 396 = .ok (.invokevirtual 47, 3) := okD_get dqc_5 34 rfl
theorem dL_law_399 : decode cL_law 399 = .ok (.if_icmp .eq 491, 3) := okD_get dqc_5 35 rfl
theorem dL_law_402 : decode cL_law 402 = .ok (.iconst 0, 1) := okD_get dqc_5 36 rfl
theorem dL_law_403 : decode cL_law 403 = .ok (.ireturn, 1) := okD_get dqc_5 37 rfl
theorem dL_law_404 : decode cL_law 404 = .ok (.aload_n 1, 1) := okD_get dqc_5 38 rfl
theorem dL_law_405 : decode cL_law 405 = .ok (.aload_n 0, 1) := okD_get dqc_5 39 rfl
theorem dqc_6 : okD cL_law [(406, (.iload_n 3, 1)), (407, (.iconst 1, 1)), (408, (.iadd, 1)), (409, (.iaload, 1)), (410, (.aload_n 0, 1)), (411, (.iload_n 3, 1)), (412, (.iconst 2, 1)), (413, (.iadd, 1)), (414, (.iaload, 1)), (415, (.aload_n 0, 1)), (416, (.iload_n 3, 1)), (417, (.iconst 3, 1)), (418, (.iadd, 1)), (419, (.iaload, 1)), (420, (.invokevirtual 48, 3)), (423, (.aload_n 2, 1)), (424, (.aload_n 0, 1)), (425, (.iload_n 3, 1)), (426, (.iconst 1, 1)), (427, (.iadd, 1)), (428, (.iaload, 1)), (429, (.aload_n 0, 1)), (430, (.iload_n 3, 1)), (431, (.iconst 2, 1)), (432, (.iadd, 1)), (433, (.iaload, 1)), (434, (.aload_n 0, 1)), (435, (.iload_n 3, 1)), (436, (.iconst 3, 1)), (437, (.iadd, 1)), (438, (.iaload, 1)), (439, (.invokevirtual 51, 3)), (442, (.if_icmp .eq 448, 3)), (445, (.iconst 0, 1)), (446, (.ireturn, 1)), (447, (.aload_n 1, 1)), (448, (.aload_n 0, 1)), (449, (.iload_n 3, 1)), (450, (.iconst 1, 1)), (451, (.iadd, 1))] = true := by decide +kernel
theorem dL_law_406 : decode cL_law 406 = .ok (.iload_n 3, 1) := okD_get dqc_6 0 rfl
theorem dL_law_407 : decode cL_law 407 = .ok (.iconst 1, 1) := okD_get dqc_6 1 rfl
theorem dL_law_408 : decode cL_law 408 = .ok (.iadd, 1) := okD_get dqc_6 2 rfl
theorem dL_law_409 : decode cL_law 409 = .ok (.iaload, 1) := okD_get dqc_6 3 rfl
theorem dL_law_410 : decode cL_law 410 = .ok (.aload_n 0, 1) := okD_get dqc_6 4 rfl
theorem dL_law_411 : decode cL_law 411 = .ok (.iload_n 3, 1) := okD_get dqc_6 5 rfl
theorem dL_law_412 : decode cL_law 412 = .ok (.iconst 2, 1) := okD_get dqc_6 6 rfl
theorem dL_law_413 : decode cL_law 413 = .ok (.iadd, 1) := okD_get dqc_6 7 rfl
theorem dL_law_414 : decode cL_law 414 = .ok (.iaload, 1) := okD_get dqc_6 8 rfl
theorem dL_law_415 : decode cL_law 415 = .ok (.aload_n 0, 1) := okD_get dqc_6 9 rfl
theorem dL_law_416 : decode cL_law 416 = .ok (.iload_n 3, 1) := okD_get dqc_6 10 rfl
theorem dL_law_417 : decode cL_law 417 = .ok (.iconst 3, 1) := okD_get dqc_6 11 rfl
theorem dL_law_418 : decode cL_law 418 = .ok (.iadd, 1) := okD_get dqc_6 12 rfl
theorem dL_law_419 : decode cL_law 419 = .ok (.iaload, 1) := okD_get dqc_6 13 rfl
theorem dL_law_420 : decode cL_law 420 = .ok (.invokevirtual 48, 3) := okD_get dqc_6 14 rfl
theorem dL_law_423 : decode cL_law 423 = .ok (.aload_n 2, 1) := okD_get dqc_6 15 rfl
theorem dL_law_424 : decode cL_law 424 = .ok (.aload_n 0, 1) := okD_get dqc_6 16 rfl
theorem dL_law_425 : decode cL_law 425 = .ok (.iload_n 3, 1) := okD_get dqc_6 17 rfl
theorem dL_law_426 : decode cL_law 426 = .ok (.iconst 1, 1) := okD_get dqc_6 18 rfl
theorem dL_law_427 : decode cL_law 427 = .ok (.iadd, 1) := okD_get dqc_6 19 rfl
theorem dL_law_428 : decode cL_law 428 = .ok (.iaload, 1) := okD_get dqc_6 20 rfl
theorem dL_law_429 : decode cL_law 429 = .ok (.aload_n 0, 1) := okD_get dqc_6 21 rfl
theorem dL_law_430 : decode cL_law 430 = .ok (.iload_n 3, 1) := okD_get dqc_6 22 rfl
theorem dL_law_431 : decode cL_law 431 = .ok (.iconst 2, 1) := okD_get dqc_6 23 rfl
theorem dL_law_432 : decode cL_law 432 = .ok (.iadd, 1) := okD_get dqc_6 24 rfl
theorem dL_law_433 : decode cL_law 433 = .ok (.iaload, 1) := okD_get dqc_6 25 rfl
theorem dL_law_434 : decode cL_law 434 = .ok (.aload_n 0, 1) := okD_get dqc_6 26 rfl
theorem dL_law_435 : decode cL_law 435 = .ok (.iload_n 3, 1) := okD_get dqc_6 27 rfl
theorem dL_law_436 : decode cL_law 436 = .ok (.iconst 3, 1) := okD_get dqc_6 28 rfl
theorem dL_law_437 : decode cL_law 437 = .ok (.iadd, 1) := okD_get dqc_6 29 rfl
theorem dL_law_438 : decode cL_law 438 = .ok (.iaload, 1) := okD_get dqc_6 30 rfl
theorem dL_law_439 : decode cL_law 439 = .ok (.invokevirtual 51, 3) := okD_get dqc_6 31 rfl
theorem dL_law_442 : decode cL_law 442 = .ok (.if_icmp .eq 448, 3) := okD_get dqc_6 32 rfl
theorem dL_law_445 : decode cL_law 445 = .ok (.iconst 0, 1) := okD_get dqc_6 33 rfl
theorem dL_law_446 : decode cL_law 446 = .ok (.ireturn, 1) := okD_get dqc_6 34 rfl
theorem dL_law_447 : decode cL_law 447 = .ok (.aload_n 1, 1) := okD_get dqc_6 35 rfl
theorem dL_law_448 : decode cL_law 448 = .ok (.aload_n 0, 1) := okD_get dqc_6 36 rfl
theorem dL_law_449 : decode cL_law 449 = .ok (.iload_n 3, 1) := okD_get dqc_6 37 rfl
theorem dL_law_450 : decode cL_law 450 = .ok (.iconst 1, 1) := okD_get dqc_6 38 rfl
theorem dL_law_451 : decode cL_law 451 = .ok (.iadd, 1) := okD_get dqc_6 39 rfl
theorem dqc_7 : okD cL_law [(452, (.iaload, 1)), (453, (.aload_n 0, 1)), (454, (.iload_n 3, 1)), (455, (.iconst 2, 1)), (456, (.iadd, 1)), (457, (.iaload, 1)), (458, (.invokevirtual 52, 3)), (461, (.aload_n 2, 1)), (462, (.aload_n 0, 1)), (463, (.iload_n 3, 1)), (464, (.iconst 1, 1)), (465, (.iadd, 1)), (466, (.iaload, 1)), (467, (.aload_n 0, 1)), (468, (.iload_n 3, 1)), (469, (.iconst 2, 1)), (470, (.iadd, 1)), (471, (.iaload, 1)), (472, (.invokevirtual 55, 3)), (475, (.if_icmp .eq 415, 3)), (478, (.iconst 0, 1)), (479, (.ireturn, 1)), (480, (.aload_n 1, 1)), (481, (.aload_n 0, 1)), (482, (.iload_n 3, 1)), (483, (.iconst 1, 1)), (484, (.iadd, 1)), (485, (.iaload, 1)), (486, (.aload_n 0, 1)), (487, (.iload_n 3, 1)), (488, (.iconst 2, 1)), (489, (.iadd, 1)), (490, (.iaload, 1)), (491, (.invokevirtual 56, 3)), (494, (.aload_n 2, 1)), (495, (.aload_n 0, 1)), (496, (.iload_n 3, 1)), (497, (.iconst 1, 1)), (498, (.iadd, 1)), (499, (.iaload, 1))] = true := by decide +kernel
theorem dL_law_452 : decode cL_law 452 = .ok (.iaload, 1) := okD_get dqc_7 0 rfl
theorem dL_law_453 : decode cL_law 453 = .ok (.aload_n 0, 1) := okD_get dqc_7 1 rfl
theorem dL_law_454 : decode cL_law 454 = .ok (.iload_n 3, 1) := okD_get dqc_7 2 rfl
theorem dL_law_455 : decode cL_law 455 = .ok (.iconst 2, 1) := okD_get dqc_7 3 rfl
theorem dL_law_456 : decode cL_law 456 = .ok (.iadd, 1) := okD_get dqc_7 4 rfl
theorem dL_law_457 : decode cL_law 457 = .ok (.iaload, 1) := okD_get dqc_7 5 rfl
theorem dL_law_458 : decode cL_law 458 = .ok (.invokevirtual 52, 3) := okD_get dqc_7 6 rfl
theorem dL_law_461 : decode cL_law 461 = .ok (.aload_n 2, 1) := okD_get dqc_7 7 rfl
theorem dL_law_462 : decode cL_law 462 = .ok (.aload_n 0, 1) := okD_get dqc_7 8 rfl
theorem dL_law_463 : decode cL_law 463 = .ok (.iload_n 3, 1) := okD_get dqc_7 9 rfl
theorem dL_law_464 : decode cL_law 464 = .ok (.iconst 1, 1) := okD_get dqc_7 10 rfl
theorem dL_law_465 : decode cL_law 465 = .ok (.iadd, 1) := okD_get dqc_7 11 rfl
theorem dL_law_466 : decode cL_law 466 = .ok (.iaload, 1) := okD_get dqc_7 12 rfl
theorem dL_law_467 : decode cL_law 467 = .ok (.aload_n 0, 1) := okD_get dqc_7 13 rfl
theorem dL_law_468 : decode cL_law 468 = .ok (.iload_n 3, 1) := okD_get dqc_7 14 rfl
theorem dL_law_469 : decode cL_law 469 = .ok (.iconst 2, 1) := okD_get dqc_7 15 rfl
theorem dL_law_470 : decode cL_law 470 = .ok (.iadd, 1) := okD_get dqc_7 16 rfl
theorem dL_law_471 : decode cL_law 471 = .ok (.iaload, 1) := okD_get dqc_7 17 rfl
theorem dL_law_472 : decode cL_law 472 = .ok (.invokevirtual 55, 3) := okD_get dqc_7 18 rfl
theorem dL_law_475 : decode cL_law 475 = .ok (.if_icmp .eq 415, 3) := okD_get dqc_7 19 rfl
theorem dL_law_478 : decode cL_law 478 = .ok (.iconst 0, 1) := okD_get dqc_7 20 rfl
theorem dL_law_479 : decode cL_law 479 = .ok (.ireturn, 1) := okD_get dqc_7 21 rfl
theorem dL_law_480 : decode cL_law 480 = .ok (.aload_n 1, 1) := okD_get dqc_7 22 rfl
theorem dL_law_481 : decode cL_law 481 = .ok (.aload_n 0, 1) := okD_get dqc_7 23 rfl
theorem dL_law_482 : decode cL_law 482 = .ok (.iload_n 3, 1) := okD_get dqc_7 24 rfl
theorem dL_law_483 : decode cL_law 483 = .ok (.iconst 1, 1) := okD_get dqc_7 25 rfl
theorem dL_law_484 : decode cL_law 484 = .ok (.iadd, 1) := okD_get dqc_7 26 rfl
theorem dL_law_485 : decode cL_law 485 = .ok (.iaload, 1) := okD_get dqc_7 27 rfl
theorem dL_law_486 : decode cL_law 486 = .ok (.aload_n 0, 1) := okD_get dqc_7 28 rfl
theorem dL_law_487 : decode cL_law 487 = .ok (.iload_n 3, 1) := okD_get dqc_7 29 rfl
theorem dL_law_488 : decode cL_law 488 = .ok (.iconst 2, 1) := okD_get dqc_7 30 rfl
theorem dL_law_489 : decode cL_law 489 = .ok (.iadd, 1) := okD_get dqc_7 31 rfl
theorem dL_law_490 : decode cL_law 490 = .ok (.iaload, 1) := okD_get dqc_7 32 rfl
theorem dL_law_491 : decode cL_law 491 = .ok (.invokevirtual 56, 3) := okD_get dqc_7 33 rfl
theorem dL_law_494 : decode cL_law 494 = .ok (.aload_n 2, 1) := okD_get dqc_7 34 rfl
theorem dL_law_495 : decode cL_law 495 = .ok (.aload_n 0, 1) := okD_get dqc_7 35 rfl
theorem dL_law_496 : decode cL_law 496 = .ok (.iload_n 3, 1) := okD_get dqc_7 36 rfl
theorem dL_law_497 : decode cL_law 497 = .ok (.iconst 1, 1) := okD_get dqc_7 37 rfl
theorem dL_law_498 : decode cL_law 498 = .ok (.iadd, 1) := okD_get dqc_7 38 rfl
theorem dL_law_499 : decode cL_law 499 = .ok (.iaload, 1) := okD_get dqc_7 39 rfl
theorem dqc_8 : okD cL_law [(500, (.aload_n 0, 1)), (501, (.iload_n 3, 1)), (502, (.iconst 2, 1)), (503, (.iadd, 1)), (504, (.iaload, 1)), (505, (.invokevirtual 59, 3)), (508, (.if_icmp .eq 382, 3)), (511, (.iconst 0, 1)), (512, (.ireturn, 1)), (513, (.aload_n 1, 1)), (514, (.aload_n 0, 1)), (515, (.iload_n 3, 1)), (516, (.iconst 1, 1)), (517, (.iadd, 1)), (518, (.iaload, 1)), (519, (.aload_n 0, 1)), (520, (.iload_n 3, 1)), (521, (.iconst 2, 1)), (522, (.iadd, 1)), (523, (.iaload, 1)), (524, (.invokevirtual 60, 3)), (527, (.aload_n 2, 1)), (528, (.aload_n 0, 1)), (529, (.iload_n 3, 1)), (530, (.iconst 1, 1)), (531, (.iadd, 1)), (532, (.iaload, 1)), (533, (.aload_n 0, 1)), (534, (.iload_n 3, 1)), (535, (.iconst 2, 1)), (536, (.iadd, 1)), (537, (.iaload, 1)), (538, (.invokevirtual 63, 3)), (541, (.if_icmp .eq 349, 3)), (544, (.iconst 0, 1)), (545, (.ireturn, 1)), (546, (.aload_n 1, 1)), (547, (.aload_n 0, 1)), (548, (.iload_n 3, 1)), (549, (.iconst 1, 1))] = true := by decide +kernel
theorem dL_law_500 : decode cL_law 500 = .ok (.aload_n 0, 1) := okD_get dqc_8 0 rfl
theorem dL_law_501 : decode cL_law 501 = .ok (.iload_n 3, 1) := okD_get dqc_8 1 rfl
theorem dL_law_502 : decode cL_law 502 = .ok (.iconst 2, 1) := okD_get dqc_8 2 rfl
theorem dL_law_503 : decode cL_law 503 = .ok (.iadd, 1) := okD_get dqc_8 3 rfl
theorem dL_law_504 : decode cL_law 504 = .ok (.iaload, 1) := okD_get dqc_8 4 rfl
theorem dL_law_505 : decode cL_law 505 = .ok (.invokevirtual 59, 3) := okD_get dqc_8 5 rfl
theorem dL_law_508 : decode cL_law 508 = .ok (.if_icmp .eq 382, 3) := okD_get dqc_8 6 rfl
theorem dL_law_511 : decode cL_law 511 = .ok (.iconst 0, 1) := okD_get dqc_8 7 rfl
theorem dL_law_512 : decode cL_law 512 = .ok (.ireturn, 1) := okD_get dqc_8 8 rfl
theorem dL_law_513 : decode cL_law 513 = .ok (.aload_n 1, 1) := okD_get dqc_8 9 rfl
theorem dL_law_514 : decode cL_law 514 = .ok (.aload_n 0, 1) := okD_get dqc_8 10 rfl
theorem dL_law_515 : decode cL_law 515 = .ok (.iload_n 3, 1) := okD_get dqc_8 11 rfl
theorem dL_law_516 : decode cL_law 516 = .ok (.iconst 1, 1) := okD_get dqc_8 12 rfl
theorem dL_law_517 : decode cL_law 517 = .ok (.iadd, 1) := okD_get dqc_8 13 rfl
theorem dL_law_518 : decode cL_law 518 = .ok (.iaload, 1) := okD_get dqc_8 14 rfl
theorem dL_law_519 : decode cL_law 519 = .ok (.aload_n 0, 1) := okD_get dqc_8 15 rfl
theorem dL_law_520 : decode cL_law 520 = .ok (.iload_n 3, 1) := okD_get dqc_8 16 rfl
theorem dL_law_521 : decode cL_law 521 = .ok (.iconst 2, 1) := okD_get dqc_8 17 rfl
theorem dL_law_522 : decode cL_law 522 = .ok (.iadd, 1) := okD_get dqc_8 18 rfl
theorem dL_law_523 : decode cL_law 523 = .ok (.iaload, 1) := okD_get dqc_8 19 rfl
theorem dL_law_524 : decode cL_law 524 = .ok (.invokevirtual 60, 3) := okD_get dqc_8 20 rfl
theorem dL_law_527 : decode cL_law 527 = .ok (.aload_n 2, 1) := okD_get dqc_8 21 rfl
theorem dL_law_528 : decode cL_law 528 = .ok (.aload_n 0, 1) := okD_get dqc_8 22 rfl
theorem dL_law_529 : decode cL_law 529 = .ok (.iload_n 3, 1) := okD_get dqc_8 23 rfl
theorem dL_law_530 : decode cL_law 530 = .ok (.iconst 1, 1) := okD_get dqc_8 24 rfl
theorem dL_law_531 : decode cL_law 531 = .ok (.iadd, 1) := okD_get dqc_8 25 rfl
theorem dL_law_532 : decode cL_law 532 = .ok (.iaload, 1) := okD_get dqc_8 26 rfl
theorem dL_law_533 : decode cL_law 533 = .ok (.aload_n 0, 1) := okD_get dqc_8 27 rfl
theorem dL_law_534 : decode cL_law 534 = .ok (.iload_n 3, 1) := okD_get dqc_8 28 rfl
theorem dL_law_535 : decode cL_law 535 = .ok (.iconst 2, 1) := okD_get dqc_8 29 rfl
theorem dL_law_536 : decode cL_law 536 = .ok (.iadd, 1) := okD_get dqc_8 30 rfl
theorem dL_law_537 : decode cL_law 537 = .ok (.iaload, 1) := okD_get dqc_8 31 rfl
theorem dL_law_538 : decode cL_law 538 = .ok (.invokevirtual 63, 3) := okD_get dqc_8 32 rfl
theorem dL_law_541 : decode cL_law 541 = .ok (.if_icmp .eq 349, 3) := okD_get dqc_8 33 rfl
theorem dL_law_544 : decode cL_law 544 = .ok (.iconst 0, 1) := okD_get dqc_8 34 rfl
theorem dL_law_545 : decode cL_law 545 = .ok (.ireturn, 1) := okD_get dqc_8 35 rfl
theorem dL_law_546 : decode cL_law 546 = .ok (.aload_n 1, 1) := okD_get dqc_8 36 rfl
theorem dL_law_547 : decode cL_law 547 = .ok (.aload_n 0, 1) := okD_get dqc_8 37 rfl
theorem dL_law_548 : decode cL_law 548 = .ok (.iload_n 3, 1) := okD_get dqc_8 38 rfl
theorem dL_law_549 : decode cL_law 549 = .ok (.iconst 1, 1) := okD_get dqc_8 39 rfl
theorem dqc_9 : okD cL_law [(550, (.iadd, 1)), (551, (.iaload, 1)), (552, (.aload_n 0, 1)), (553, (.iload_n 3, 1)), (554, (.iconst 2, 1)), (555, (.iadd, 1)), (556, (.iaload, 1)), (557, (.aload_n 0, 1)), (558, (.iload_n 3, 1)), (559, (.iconst 3, 1)), (560, (.iadd, 1)), (561, (.iaload, 1)), (562, (.aload_n 0, 1)), (563, (.iload_n 3, 1)), (564, (.iconst 4, 1)), (565, (.iadd, 1)), (566, (.iaload, 1)), (567, (.aload_n 0, 1)), (568, (.iload_n 3, 1)), (569, (.iconst 5, 1)), (570, (.iadd, 1)), (571, (.iaload, 1)), (572, (.invokevirtual 64, 3)), (575, (.aload_n 2, 1)), (576, (.aload_n 0, 1)), (577, (.iload_n 3, 1)), (578, (.iconst 1, 1)), (579, (.iadd, 1)), (580, (.iaload, 1)), (581, (.aload_n 0, 1)), (582, (.iload_n 3, 1)), (583, (.iconst 2, 1)), (584, (.iadd, 1)), (585, (.iaload, 1)), (586, (.aload_n 0, 1)), (587, (.iload_n 3, 1)), (588, (.iconst 3, 1)), (589, (.iadd, 1)), (590, (.iaload, 1)), (591, (.aload_n 0, 1))] = true := by decide +kernel
theorem dL_law_550 : decode cL_law 550 = .ok (.iadd, 1) := okD_get dqc_9 0 rfl
theorem dL_law_551 : decode cL_law 551 = .ok (.iaload, 1) := okD_get dqc_9 1 rfl
theorem dL_law_552 : decode cL_law 552 = .ok (.aload_n 0, 1) := okD_get dqc_9 2 rfl
theorem dL_law_553 : decode cL_law 553 = .ok (.iload_n 3, 1) := okD_get dqc_9 3 rfl
theorem dL_law_554 : decode cL_law 554 = .ok (.iconst 2, 1) := okD_get dqc_9 4 rfl
theorem dL_law_555 : decode cL_law 555 = .ok (.iadd, 1) := okD_get dqc_9 5 rfl
theorem dL_law_556 : decode cL_law 556 = .ok (.iaload, 1) := okD_get dqc_9 6 rfl
theorem dL_law_557 : decode cL_law 557 = .ok (.aload_n 0, 1) := okD_get dqc_9 7 rfl
theorem dL_law_558 : decode cL_law 558 = .ok (.iload_n 3, 1) := okD_get dqc_9 8 rfl
theorem dL_law_559 : decode cL_law 559 = .ok (.iconst 3, 1) := okD_get dqc_9 9 rfl
theorem dL_law_560 : decode cL_law 560 = .ok (.iadd, 1) := okD_get dqc_9 10 rfl
theorem dL_law_561 : decode cL_law 561 = .ok (.iaload, 1) := okD_get dqc_9 11 rfl
theorem dL_law_562 : decode cL_law 562 = .ok (.aload_n 0, 1) := okD_get dqc_9 12 rfl
theorem dL_law_563 : decode cL_law 563 = .ok (.iload_n 3, 1) := okD_get dqc_9 13 rfl
theorem dL_law_564 : decode cL_law 564 = .ok (.iconst 4, 1) := okD_get dqc_9 14 rfl
theorem dL_law_565 : decode cL_law 565 = .ok (.iadd, 1) := okD_get dqc_9 15 rfl
theorem dL_law_566 : decode cL_law 566 = .ok (.iaload, 1) := okD_get dqc_9 16 rfl
theorem dL_law_567 : decode cL_law 567 = .ok (.aload_n 0, 1) := okD_get dqc_9 17 rfl
theorem dL_law_568 : decode cL_law 568 = .ok (.iload_n 3, 1) := okD_get dqc_9 18 rfl
theorem dL_law_569 : decode cL_law 569 = .ok (.iconst 5, 1) := okD_get dqc_9 19 rfl
theorem dL_law_570 : decode cL_law 570 = .ok (.iadd, 1) := okD_get dqc_9 20 rfl
theorem dL_law_571 : decode cL_law 571 = .ok (.iaload, 1) := okD_get dqc_9 21 rfl
theorem dL_law_572 : decode cL_law 572 = .ok (.invokevirtual 64, 3) := okD_get dqc_9 22 rfl
theorem dL_law_575 : decode cL_law 575 = .ok (.aload_n 2, 1) := okD_get dqc_9 23 rfl
theorem dL_law_576 : decode cL_law 576 = .ok (.aload_n 0, 1) := okD_get dqc_9 24 rfl
theorem dL_law_577 : decode cL_law 577 = .ok (.iload_n 3, 1) := okD_get dqc_9 25 rfl
theorem dL_law_578 : decode cL_law 578 = .ok (.iconst 1, 1) := okD_get dqc_9 26 rfl
theorem dL_law_579 : decode cL_law 579 = .ok (.iadd, 1) := okD_get dqc_9 27 rfl
theorem dL_law_580 : decode cL_law 580 = .ok (.iaload, 1) := okD_get dqc_9 28 rfl
theorem dL_law_581 : decode cL_law 581 = .ok (.aload_n 0, 1) := okD_get dqc_9 29 rfl
theorem dL_law_582 : decode cL_law 582 = .ok (.iload_n 3, 1) := okD_get dqc_9 30 rfl
theorem dL_law_583 : decode cL_law 583 = .ok (.iconst 2, 1) := okD_get dqc_9 31 rfl
theorem dL_law_584 : decode cL_law 584 = .ok (.iadd, 1) := okD_get dqc_9 32 rfl
theorem dL_law_585 : decode cL_law 585 = .ok (.iaload, 1) := okD_get dqc_9 33 rfl
theorem dL_law_586 : decode cL_law 586 = .ok (.aload_n 0, 1) := okD_get dqc_9 34 rfl
theorem dL_law_587 : decode cL_law 587 = .ok (.iload_n 3, 1) := okD_get dqc_9 35 rfl
theorem dL_law_588 : decode cL_law 588 = .ok (.iconst 3, 1) := okD_get dqc_9 36 rfl
theorem dL_law_589 : decode cL_law 589 = .ok (.iadd, 1) := okD_get dqc_9 37 rfl
theorem dL_law_590 : decode cL_law 590 = .ok (.iaload, 1) := okD_get dqc_9 38 rfl
theorem dL_law_591 : decode cL_law 591 = .ok (.aload_n 0, 1) := okD_get dqc_9 39 rfl
theorem dqc_10 : okD cL_law [(592, (.iload_n 3, 1)), (593, (.iconst 4, 1)), (594, (.iadd, 1)), (595, (.iaload, 1)), (596, (.aload_n 0, 1)), (597, (.iload_n 3, 1)), (598, (.iconst 5, 1)), (599, (.iadd, 1)), (600, (.iaload, 1)), (601, (.invokevirtual 68, 3)), (604, (.if_icmp .eq 286, 3)), (607, (.iconst 0, 1)), (608, (.ireturn, 1)), (609, (.aload_n 1, 1)), (610, (.aload_n 0, 1)), (611, (.iload_n 3, 1)), (612, (.iconst 1, 1)), (613, (.iadd, 1)), (614, (.iaload, 1)), (615, (.invokevirtual 69, 3)), (618, (.aload_n 2, 1)), (619, (.aload_n 0, 1)), (620, (.iload_n 3, 1)), (621, (.iconst 1, 1)), (622, (.iadd, 1)), (623, (.iaload, 1)), (624, (.invokevirtual 72, 3)), (627, (.if_icmp .eq 263, 3)), (630, (.iconst 0, 1)), (631, (.ireturn, 1)), (632, (.aload_n 1, 1)), (633, (.invokevirtual 73, 3)), (636, (.aload_n 2, 1)), (637, (.invokevirtual 77, 3)), (640, (.if_icmp .eq 250, 3)), (643, (.iconst 0, 1)), (644, (.ireturn, 1)), (645, (.aload_n 1, 1)), (646, (.invokevirtual 78, 3)), (649, (.aload_n 2, 1))] = true := by decide +kernel
theorem dL_law_592 : decode cL_law 592 = .ok (.iload_n 3, 1) := okD_get dqc_10 0 rfl
theorem dL_law_593 : decode cL_law 593 = .ok (.iconst 4, 1) := okD_get dqc_10 1 rfl
theorem dL_law_594 : decode cL_law 594 = .ok (.iadd, 1) := okD_get dqc_10 2 rfl
theorem dL_law_595 : decode cL_law 595 = .ok (.iaload, 1) := okD_get dqc_10 3 rfl
theorem dL_law_596 : decode cL_law 596 = .ok (.aload_n 0, 1) := okD_get dqc_10 4 rfl
theorem dL_law_597 : decode cL_law 597 = .ok (.iload_n 3, 1) := okD_get dqc_10 5 rfl
theorem dL_law_598 : decode cL_law 598 = .ok (.iconst 5, 1) := okD_get dqc_10 6 rfl
theorem dL_law_599 : decode cL_law 599 = .ok (.iadd, 1) := okD_get dqc_10 7 rfl
theorem dL_law_600 : decode cL_law 600 = .ok (.iaload, 1) := okD_get dqc_10 8 rfl
theorem dL_law_601 : decode cL_law 601 = .ok (.invokevirtual 68, 3) := okD_get dqc_10 9 rfl
theorem dL_law_604 : decode cL_law 604 = .ok (.if_icmp .eq 286, 3) := okD_get dqc_10 10 rfl
theorem dL_law_607 : decode cL_law 607 = .ok (.iconst 0, 1) := okD_get dqc_10 11 rfl
theorem dL_law_608 : decode cL_law 608 = .ok (.ireturn, 1) := okD_get dqc_10 12 rfl
theorem dL_law_609 : decode cL_law 609 = .ok (.aload_n 1, 1) := okD_get dqc_10 13 rfl
theorem dL_law_610 : decode cL_law 610 = .ok (.aload_n 0, 1) := okD_get dqc_10 14 rfl
theorem dL_law_611 : decode cL_law 611 = .ok (.iload_n 3, 1) := okD_get dqc_10 15 rfl
theorem dL_law_612 : decode cL_law 612 = .ok (.iconst 1, 1) := okD_get dqc_10 16 rfl
theorem dL_law_613 : decode cL_law 613 = .ok (.iadd, 1) := okD_get dqc_10 17 rfl
theorem dL_law_614 : decode cL_law 614 = .ok (.iaload, 1) := okD_get dqc_10 18 rfl
theorem dL_law_615 : decode cL_law 615 = .ok (.invokevirtual 69, 3) := okD_get dqc_10 19 rfl
theorem dL_law_618 : decode cL_law 618 = .ok (.aload_n 2, 1) := okD_get dqc_10 20 rfl
theorem dL_law_619 : decode cL_law 619 = .ok (.aload_n 0, 1) := okD_get dqc_10 21 rfl
theorem dL_law_620 : decode cL_law 620 = .ok (.iload_n 3, 1) := okD_get dqc_10 22 rfl
theorem dL_law_621 : decode cL_law 621 = .ok (.iconst 1, 1) := okD_get dqc_10 23 rfl
theorem dL_law_622 : decode cL_law 622 = .ok (.iadd, 1) := okD_get dqc_10 24 rfl
theorem dL_law_623 : decode cL_law 623 = .ok (.iaload, 1) := okD_get dqc_10 25 rfl
theorem dL_law_624 : decode cL_law 624 = .ok (.invokevirtual 72, 3) := okD_get dqc_10 26 rfl
theorem dL_law_627 : decode cL_law 627 = .ok (.if_icmp .eq 263, 3) := okD_get dqc_10 27 rfl
theorem dL_law_630 : decode cL_law 630 = .ok (.iconst 0, 1) := okD_get dqc_10 28 rfl
theorem dL_law_631 : decode cL_law 631 = .ok (.ireturn, 1) := okD_get dqc_10 29 rfl
theorem dL_law_632 : decode cL_law 632 = .ok (.aload_n 1, 1) := okD_get dqc_10 30 rfl
theorem dL_law_633 : decode cL_law 633 = .ok (.invokevirtual 73, 3) := okD_get dqc_10 31 rfl
theorem dL_law_636 : decode cL_law 636 = .ok (.aload_n 2, 1) := okD_get dqc_10 32 rfl
theorem dL_law_637 : decode cL_law 637 = .ok (.invokevirtual 77, 3) := okD_get dqc_10 33 rfl
theorem dL_law_640 : decode cL_law 640 = .ok (.if_icmp .eq 250, 3) := okD_get dqc_10 34 rfl
theorem dL_law_643 : decode cL_law 643 = .ok (.iconst 0, 1) := okD_get dqc_10 35 rfl
theorem dL_law_644 : decode cL_law 644 = .ok (.ireturn, 1) := okD_get dqc_10 36 rfl
theorem dL_law_645 : decode cL_law 645 = .ok (.aload_n 1, 1) := okD_get dqc_10 37 rfl
theorem dL_law_646 : decode cL_law 646 = .ok (.invokevirtual 78, 3) := okD_get dqc_10 38 rfl
theorem dL_law_649 : decode cL_law 649 = .ok (.aload_n 2, 1) := okD_get dqc_10 39 rfl
theorem dqc_11 : okD cL_law [(650, (.invokevirtual 81, 3)), (653, (.if_icmp .eq 237, 3)), (656, (.iconst 0, 1)), (657, (.ireturn, 1)), (658, (.aload_n 1, 1)), (659, (.aload_n 0, 1)), (660, (.iload_n 3, 1)), (661, (.iconst 1, 1)), (662, (.iadd, 1)), (663, (.iaload, 1)), (664, (.aload_n 0, 1)), (665, (.iload_n 3, 1)), (666, (.iconst 2, 1)), (667, (.iadd, 1)), (668, (.iaload, 1)), (669, (.aload_n 0, 1)), (670, (.iload_n 3, 1)), (671, (.iconst 3, 1)), (672, (.iadd, 1)), (673, (.iaload, 1)), (674, (.invokevirtual 82, 3)), (677, (.aload_n 2, 1)), (678, (.aload_n 0, 1)), (679, (.iload_n 3, 1)), (680, (.iconst 1, 1)), (681, (.iadd, 1)), (682, (.iaload, 1)), (683, (.aload_n 0, 1)), (684, (.iload_n 3, 1)), (685, (.iconst 2, 1)), (686, (.iadd, 1)), (687, (.iaload, 1)), (688, (.aload_n 0, 1)), (689, (.iload_n 3, 1)), (690, (.iconst 3, 1)), (691, (.iadd, 1)), (692, (.iaload, 1)), (693, (.invokevirtual 85, 3)), (696, (.if_icmp .eq 194, 3)), (699, (.iconst 0, 1))] = true := by decide +kernel
theorem dL_law_650 : decode cL_law 650 = .ok (.invokevirtual 81, 3) := okD_get dqc_11 0 rfl
theorem dL_law_653 : decode cL_law 653 = .ok (.if_icmp .eq 237, 3) := okD_get dqc_11 1 rfl
theorem dL_law_656 : decode cL_law 656 = .ok (.iconst 0, 1) := okD_get dqc_11 2 rfl
theorem dL_law_657 : decode cL_law 657 = .ok (.ireturn, 1) := okD_get dqc_11 3 rfl
theorem dL_law_658 : decode cL_law 658 = .ok (.aload_n 1, 1) := okD_get dqc_11 4 rfl
theorem dL_law_659 : decode cL_law 659 = .ok (.aload_n 0, 1) := okD_get dqc_11 5 rfl
theorem dL_law_660 : decode cL_law 660 = .ok (.iload_n 3, 1) := okD_get dqc_11 6 rfl
theorem dL_law_661 : decode cL_law 661 = .ok (.iconst 1, 1) := okD_get dqc_11 7 rfl
theorem dL_law_662 : decode cL_law 662 = .ok (.iadd, 1) := okD_get dqc_11 8 rfl
theorem dL_law_663 : decode cL_law 663 = .ok (.iaload, 1) := okD_get dqc_11 9 rfl
theorem dL_law_664 : decode cL_law 664 = .ok (.aload_n 0, 1) := okD_get dqc_11 10 rfl
theorem dL_law_665 : decode cL_law 665 = .ok (.iload_n 3, 1) := okD_get dqc_11 11 rfl
theorem dL_law_666 : decode cL_law 666 = .ok (.iconst 2, 1) := okD_get dqc_11 12 rfl
theorem dL_law_667 : decode cL_law 667 = .ok (.iadd, 1) := okD_get dqc_11 13 rfl
theorem dL_law_668 : decode cL_law 668 = .ok (.iaload, 1) := okD_get dqc_11 14 rfl
theorem dL_law_669 : decode cL_law 669 = .ok (.aload_n 0, 1) := okD_get dqc_11 15 rfl
theorem dL_law_670 : decode cL_law 670 = .ok (.iload_n 3, 1) := okD_get dqc_11 16 rfl
theorem dL_law_671 : decode cL_law 671 = .ok (.iconst 3, 1) := okD_get dqc_11 17 rfl
theorem dL_law_672 : decode cL_law 672 = .ok (.iadd, 1) := okD_get dqc_11 18 rfl
theorem dL_law_673 : decode cL_law 673 = .ok (.iaload, 1) := okD_get dqc_11 19 rfl
theorem dL_law_674 : decode cL_law 674 = .ok (.invokevirtual 82, 3) := okD_get dqc_11 20 rfl
theorem dL_law_677 : decode cL_law 677 = .ok (.aload_n 2, 1) := okD_get dqc_11 21 rfl
theorem dL_law_678 : decode cL_law 678 = .ok (.aload_n 0, 1) := okD_get dqc_11 22 rfl
theorem dL_law_679 : decode cL_law 679 = .ok (.iload_n 3, 1) := okD_get dqc_11 23 rfl
theorem dL_law_680 : decode cL_law 680 = .ok (.iconst 1, 1) := okD_get dqc_11 24 rfl
theorem dL_law_681 : decode cL_law 681 = .ok (.iadd, 1) := okD_get dqc_11 25 rfl
theorem dL_law_682 : decode cL_law 682 = .ok (.iaload, 1) := okD_get dqc_11 26 rfl
theorem dL_law_683 : decode cL_law 683 = .ok (.aload_n 0, 1) := okD_get dqc_11 27 rfl
theorem dL_law_684 : decode cL_law 684 = .ok (.iload_n 3, 1) := okD_get dqc_11 28 rfl
theorem dL_law_685 : decode cL_law 685 = .ok (.iconst 2, 1) := okD_get dqc_11 29 rfl
theorem dL_law_686 : decode cL_law 686 = .ok (.iadd, 1) := okD_get dqc_11 30 rfl
theorem dL_law_687 : decode cL_law 687 = .ok (.iaload, 1) := okD_get dqc_11 31 rfl
theorem dL_law_688 : decode cL_law 688 = .ok (.aload_n 0, 1) := okD_get dqc_11 32 rfl
theorem dL_law_689 : decode cL_law 689 = .ok (.iload_n 3, 1) := okD_get dqc_11 33 rfl
theorem dL_law_690 : decode cL_law 690 = .ok (.iconst 3, 1) := okD_get dqc_11 34 rfl
theorem dL_law_691 : decode cL_law 691 = .ok (.iadd, 1) := okD_get dqc_11 35 rfl
theorem dL_law_692 : decode cL_law 692 = .ok (.iaload, 1) := okD_get dqc_11 36 rfl
theorem dL_law_693 : decode cL_law 693 = .ok (.invokevirtual 85, 3) := okD_get dqc_11 37 rfl
theorem dL_law_696 : decode cL_law 696 = .ok (.if_icmp .eq 194, 3) := okD_get dqc_11 38 rfl
theorem dL_law_699 : decode cL_law 699 = .ok (.iconst 0, 1) := okD_get dqc_11 39 rfl
theorem dqc_12 : okD cL_law [(700, (.ireturn, 1)), (701, (.aload_n 1, 1)), (702, (.aload_n 0, 1)), (703, (.iload_n 3, 1)), (704, (.iconst 1, 1)), (705, (.iadd, 1)), (706, (.iaload, 1)), (707, (.aload_n 0, 1)), (708, (.iload_n 3, 1)), (709, (.iconst 2, 1)), (710, (.iadd, 1)), (711, (.iaload, 1)), (712, (.aload_n 0, 1)), (713, (.iload_n 3, 1)), (714, (.iconst 3, 1)), (715, (.iadd, 1)), (716, (.iaload, 1)), (717, (.aload_n 0, 1)), (718, (.iload_n 3, 1)), (719, (.iconst 4, 1)), (720, (.iadd, 1)), (721, (.iaload, 1)), (722, (.invokevirtual 86, 3)), (725, (.aload_n 2, 1)), (726, (.aload_n 0, 1)), (727, (.iload_n 3, 1)), (728, (.iconst 1, 1)), (729, (.iadd, 1)), (730, (.iaload, 1)), (731, (.aload_n 0, 1)), (732, (.iload_n 3, 1)), (733, (.iconst 2, 1)), (734, (.iadd, 1)), (735, (.iaload, 1)), (736, (.aload_n 0, 1)), (737, (.iload_n 3, 1)), (738, (.iconst 3, 1)), (739, (.iadd, 1)), (740, (.iaload, 1)), (741, (.aload_n 0, 1))] = true := by decide +kernel
theorem dL_law_700 : decode cL_law 700 = .ok (.ireturn, 1) := okD_get dqc_12 0 rfl
theorem dL_law_701 : decode cL_law 701 = .ok (.aload_n 1, 1) := okD_get dqc_12 1 rfl
theorem dL_law_702 : decode cL_law 702 = .ok (.aload_n 0, 1) := okD_get dqc_12 2 rfl
theorem dL_law_703 : decode cL_law 703 = .ok (.iload_n 3, 1) := okD_get dqc_12 3 rfl
theorem dL_law_704 : decode cL_law 704 = .ok (.iconst 1, 1) := okD_get dqc_12 4 rfl
theorem dL_law_705 : decode cL_law 705 = .ok (.iadd, 1) := okD_get dqc_12 5 rfl
theorem dL_law_706 : decode cL_law 706 = .ok (.iaload, 1) := okD_get dqc_12 6 rfl
theorem dL_law_707 : decode cL_law 707 = .ok (.aload_n 0, 1) := okD_get dqc_12 7 rfl
theorem dL_law_708 : decode cL_law 708 = .ok (.iload_n 3, 1) := okD_get dqc_12 8 rfl
theorem dL_law_709 : decode cL_law 709 = .ok (.iconst 2, 1) := okD_get dqc_12 9 rfl
theorem dL_law_710 : decode cL_law 710 = .ok (.iadd, 1) := okD_get dqc_12 10 rfl
theorem dL_law_711 : decode cL_law 711 = .ok (.iaload, 1) := okD_get dqc_12 11 rfl
theorem dL_law_712 : decode cL_law 712 = .ok (.aload_n 0, 1) := okD_get dqc_12 12 rfl
theorem dL_law_713 : decode cL_law 713 = .ok (.iload_n 3, 1) := okD_get dqc_12 13 rfl
theorem dL_law_714 : decode cL_law 714 = .ok (.iconst 3, 1) := okD_get dqc_12 14 rfl
theorem dL_law_715 : decode cL_law 715 = .ok (.iadd, 1) := okD_get dqc_12 15 rfl
theorem dL_law_716 : decode cL_law 716 = .ok (.iaload, 1) := okD_get dqc_12 16 rfl
theorem dL_law_717 : decode cL_law 717 = .ok (.aload_n 0, 1) := okD_get dqc_12 17 rfl
theorem dL_law_718 : decode cL_law 718 = .ok (.iload_n 3, 1) := okD_get dqc_12 18 rfl
theorem dL_law_719 : decode cL_law 719 = .ok (.iconst 4, 1) := okD_get dqc_12 19 rfl
theorem dL_law_720 : decode cL_law 720 = .ok (.iadd, 1) := okD_get dqc_12 20 rfl
theorem dL_law_721 : decode cL_law 721 = .ok (.iaload, 1) := okD_get dqc_12 21 rfl
theorem dL_law_722 : decode cL_law 722 = .ok (.invokevirtual 86, 3) := okD_get dqc_12 22 rfl
theorem dL_law_725 : decode cL_law 725 = .ok (.aload_n 2, 1) := okD_get dqc_12 23 rfl
theorem dL_law_726 : decode cL_law 726 = .ok (.aload_n 0, 1) := okD_get dqc_12 24 rfl
theorem dL_law_727 : decode cL_law 727 = .ok (.iload_n 3, 1) := okD_get dqc_12 25 rfl
theorem dL_law_728 : decode cL_law 728 = .ok (.iconst 1, 1) := okD_get dqc_12 26 rfl
theorem dL_law_729 : decode cL_law 729 = .ok (.iadd, 1) := okD_get dqc_12 27 rfl
theorem dL_law_730 : decode cL_law 730 = .ok (.iaload, 1) := okD_get dqc_12 28 rfl
theorem dL_law_731 : decode cL_law 731 = .ok (.aload_n 0, 1) := okD_get dqc_12 29 rfl
theorem dL_law_732 : decode cL_law 732 = .ok (.iload_n 3, 1) := okD_get dqc_12 30 rfl
theorem dL_law_733 : decode cL_law 733 = .ok (.iconst 2, 1) := okD_get dqc_12 31 rfl
theorem dL_law_734 : decode cL_law 734 = .ok (.iadd, 1) := okD_get dqc_12 32 rfl
theorem dL_law_735 : decode cL_law 735 = .ok (.iaload, 1) := okD_get dqc_12 33 rfl
theorem dL_law_736 : decode cL_law 736 = .ok (.aload_n 0, 1) := okD_get dqc_12 34 rfl
theorem dL_law_737 : decode cL_law 737 = .ok (.iload_n 3, 1) := okD_get dqc_12 35 rfl
theorem dL_law_738 : decode cL_law 738 = .ok (.iconst 3, 1) := okD_get dqc_12 36 rfl
theorem dL_law_739 : decode cL_law 739 = .ok (.iadd, 1) := okD_get dqc_12 37 rfl
theorem dL_law_740 : decode cL_law 740 = .ok (.iaload, 1) := okD_get dqc_12 38 rfl
theorem dL_law_741 : decode cL_law 741 = .ok (.aload_n 0, 1) := okD_get dqc_12 39 rfl
theorem dqc_13 : okD cL_law [(742, (.iload_n 3, 1)), (743, (.iconst 4, 1)), (744, (.iadd, 1)), (745, (.iaload, 1)), (746, (.invokevirtual 90, 3)), (749, (.if_icmp .eq 141, 3)), (752, (.iconst 0, 1)), (753, (.ireturn, 1)), (754, (.aload_n 1, 1)), (755, (.aload_n 0, 1)), (756, (.iload_n 3, 1)), (757, (.iconst 1, 1)), (758, (.iadd, 1)), (759, (.iaload, 1)), (760, (.aload_n 0, 1)), (761, (.iload_n 3, 1)), (762, (.iconst 2, 1)), (763, (.iadd, 1)), (764, (.iaload, 1)), (765, (.invokevirtual 91, 3)), (768, (.aload_n 2, 1)), (769, (.aload_n 0, 1)), (770, (.iload_n 3, 1)), (771, (.iconst 1, 1)), (772, (.iadd, 1)), (773, (.iaload, 1)), (774, (.aload_n 0, 1)), (775, (.iload_n 3, 1)), (776, (.iconst 2, 1)), (777, (.iadd, 1)), (778, (.iaload, 1)), (779, (.invokevirtual 95, 3)), (782, (.lcmp, 1)), (783, (.ifCond .eq 107, 3)), (786, (.iconst 0, 1)), (787, (.ireturn, 1)), (788, (.aload_n 1, 1)), (789, (.aload_n 0, 1)), (790, (.iload_n 3, 1)), (791, (.iconst 1, 1))] = true := by decide +kernel
theorem dL_law_742 : decode cL_law 742 = .ok (.iload_n 3, 1) := okD_get dqc_13 0 rfl
theorem dL_law_743 : decode cL_law 743 = .ok (.iconst 4, 1) := okD_get dqc_13 1 rfl
theorem dL_law_744 : decode cL_law 744 = .ok (.iadd, 1) := okD_get dqc_13 2 rfl
theorem dL_law_745 : decode cL_law 745 = .ok (.iaload, 1) := okD_get dqc_13 3 rfl
theorem dL_law_746 : decode cL_law 746 = .ok (.invokevirtual 90, 3) := okD_get dqc_13 4 rfl
theorem dL_law_749 : decode cL_law 749 = .ok (.if_icmp .eq 141, 3) := okD_get dqc_13 5 rfl
theorem dL_law_752 : decode cL_law 752 = .ok (.iconst 0, 1) := okD_get dqc_13 6 rfl
theorem dL_law_753 : decode cL_law 753 = .ok (.ireturn, 1) := okD_get dqc_13 7 rfl
theorem dL_law_754 : decode cL_law 754 = .ok (.aload_n 1, 1) := okD_get dqc_13 8 rfl
theorem dL_law_755 : decode cL_law 755 = .ok (.aload_n 0, 1) := okD_get dqc_13 9 rfl
theorem dL_law_756 : decode cL_law 756 = .ok (.iload_n 3, 1) := okD_get dqc_13 10 rfl
theorem dL_law_757 : decode cL_law 757 = .ok (.iconst 1, 1) := okD_get dqc_13 11 rfl
theorem dL_law_758 : decode cL_law 758 = .ok (.iadd, 1) := okD_get dqc_13 12 rfl
theorem dL_law_759 : decode cL_law 759 = .ok (.iaload, 1) := okD_get dqc_13 13 rfl
theorem dL_law_760 : decode cL_law 760 = .ok (.aload_n 0, 1) := okD_get dqc_13 14 rfl
theorem dL_law_761 : decode cL_law 761 = .ok (.iload_n 3, 1) := okD_get dqc_13 15 rfl
theorem dL_law_762 : decode cL_law 762 = .ok (.iconst 2, 1) := okD_get dqc_13 16 rfl
theorem dL_law_763 : decode cL_law 763 = .ok (.iadd, 1) := okD_get dqc_13 17 rfl
theorem dL_law_764 : decode cL_law 764 = .ok (.iaload, 1) := okD_get dqc_13 18 rfl
theorem dL_law_765 : decode cL_law 765 = .ok (.invokevirtual 91, 3) := okD_get dqc_13 19 rfl
theorem dL_law_768 : decode cL_law 768 = .ok (.aload_n 2, 1) := okD_get dqc_13 20 rfl
theorem dL_law_769 : decode cL_law 769 = .ok (.aload_n 0, 1) := okD_get dqc_13 21 rfl
theorem dL_law_770 : decode cL_law 770 = .ok (.iload_n 3, 1) := okD_get dqc_13 22 rfl
theorem dL_law_771 : decode cL_law 771 = .ok (.iconst 1, 1) := okD_get dqc_13 23 rfl
theorem dL_law_772 : decode cL_law 772 = .ok (.iadd, 1) := okD_get dqc_13 24 rfl
theorem dL_law_773 : decode cL_law 773 = .ok (.iaload, 1) := okD_get dqc_13 25 rfl
theorem dL_law_774 : decode cL_law 774 = .ok (.aload_n 0, 1) := okD_get dqc_13 26 rfl
theorem dL_law_775 : decode cL_law 775 = .ok (.iload_n 3, 1) := okD_get dqc_13 27 rfl
theorem dL_law_776 : decode cL_law 776 = .ok (.iconst 2, 1) := okD_get dqc_13 28 rfl
theorem dL_law_777 : decode cL_law 777 = .ok (.iadd, 1) := okD_get dqc_13 29 rfl
theorem dL_law_778 : decode cL_law 778 = .ok (.iaload, 1) := okD_get dqc_13 30 rfl
theorem dL_law_779 : decode cL_law 779 = .ok (.invokevirtual 95, 3) := okD_get dqc_13 31 rfl
theorem dL_law_782 : decode cL_law 782 = .ok (.lcmp, 1) := okD_get dqc_13 32 rfl
theorem dL_law_783 : decode cL_law 783 = .ok (.ifCond .eq 107, 3) := okD_get dqc_13 33 rfl
theorem dL_law_786 : decode cL_law 786 = .ok (.iconst 0, 1) := okD_get dqc_13 34 rfl
theorem dL_law_787 : decode cL_law 787 = .ok (.ireturn, 1) := okD_get dqc_13 35 rfl
theorem dL_law_788 : decode cL_law 788 = .ok (.aload_n 1, 1) := okD_get dqc_13 36 rfl
theorem dL_law_789 : decode cL_law 789 = .ok (.aload_n 0, 1) := okD_get dqc_13 37 rfl
theorem dL_law_790 : decode cL_law 790 = .ok (.iload_n 3, 1) := okD_get dqc_13 38 rfl
theorem dL_law_791 : decode cL_law 791 = .ok (.iconst 1, 1) := okD_get dqc_13 39 rfl
theorem dqc_14 : okD cL_law [(792, (.iadd, 1)), (793, (.iaload, 1)), (794, (.invokevirtual 96, 3)), (797, (.aload_n 2, 1)), (798, (.aload_n 0, 1)), (799, (.iload_n 3, 1)), (800, (.iconst 1, 1)), (801, (.iadd, 1)), (802, (.iaload, 1)), (803, (.invokevirtual 99, 3)), (806, (.if_icmp .eq 84, 3)), (809, (.iconst 0, 1)), (810, (.ireturn, 1)), (811, (.aload_n 1, 1)), (812, (.aload_n 0, 1)), (813, (.iload_n 3, 1)), (814, (.iconst 1, 1)), (815, (.iadd, 1)), (816, (.iaload, 1)), (817, (.aload_n 0, 1)), (818, (.iload_n 3, 1)), (819, (.iconst 2, 1)), (820, (.iadd, 1)), (821, (.iaload, 1)), (822, (.aload_n 0, 1)), (823, (.iload_n 3, 1)), (824, (.iconst 3, 1)), (825, (.iadd, 1)), (826, (.iaload, 1)), (827, (.invokevirtual 100, 3)), (830, (.aload_n 2, 1)), (831, (.aload_n 0, 1)), (832, (.iload_n 3, 1)), (833, (.iconst 1, 1)), (834, (.iadd, 1)), (835, (.iaload, 1)), (836, (.aload_n 0, 1)), (837, (.iload_n 3, 1)), (838, (.iconst 2, 1)), (839, (.iadd, 1))] = true := by decide +kernel
theorem dL_law_792 : decode cL_law 792 = .ok (.iadd, 1) := okD_get dqc_14 0 rfl
theorem dL_law_793 : decode cL_law 793 = .ok (.iaload, 1) := okD_get dqc_14 1 rfl
theorem dL_law_794 : decode cL_law 794 = .ok (.invokevirtual 96, 3) := okD_get dqc_14 2 rfl
theorem dL_law_797 : decode cL_law 797 = .ok (.aload_n 2, 1) := okD_get dqc_14 3 rfl
theorem dL_law_798 : decode cL_law 798 = .ok (.aload_n 0, 1) := okD_get dqc_14 4 rfl
theorem dL_law_799 : decode cL_law 799 = .ok (.iload_n 3, 1) := okD_get dqc_14 5 rfl
theorem dL_law_800 : decode cL_law 800 = .ok (.iconst 1, 1) := okD_get dqc_14 6 rfl
theorem dL_law_801 : decode cL_law 801 = .ok (.iadd, 1) := okD_get dqc_14 7 rfl
theorem dL_law_802 : decode cL_law 802 = .ok (.iaload, 1) := okD_get dqc_14 8 rfl
theorem dL_law_803 : decode cL_law 803 = .ok (.invokevirtual 99, 3) := okD_get dqc_14 9 rfl
theorem dL_law_806 : decode cL_law 806 = .ok (.if_icmp .eq 84, 3) := okD_get dqc_14 10 rfl
theorem dL_law_809 : decode cL_law 809 = .ok (.iconst 0, 1) := okD_get dqc_14 11 rfl
theorem dL_law_810 : decode cL_law 810 = .ok (.ireturn, 1) := okD_get dqc_14 12 rfl
theorem dL_law_811 : decode cL_law 811 = .ok (.aload_n 1, 1) := okD_get dqc_14 13 rfl
theorem dL_law_812 : decode cL_law 812 = .ok (.aload_n 0, 1) := okD_get dqc_14 14 rfl
theorem dL_law_813 : decode cL_law 813 = .ok (.iload_n 3, 1) := okD_get dqc_14 15 rfl
theorem dL_law_814 : decode cL_law 814 = .ok (.iconst 1, 1) := okD_get dqc_14 16 rfl
theorem dL_law_815 : decode cL_law 815 = .ok (.iadd, 1) := okD_get dqc_14 17 rfl
theorem dL_law_816 : decode cL_law 816 = .ok (.iaload, 1) := okD_get dqc_14 18 rfl
theorem dL_law_817 : decode cL_law 817 = .ok (.aload_n 0, 1) := okD_get dqc_14 19 rfl
theorem dL_law_818 : decode cL_law 818 = .ok (.iload_n 3, 1) := okD_get dqc_14 20 rfl
theorem dL_law_819 : decode cL_law 819 = .ok (.iconst 2, 1) := okD_get dqc_14 21 rfl
theorem dL_law_820 : decode cL_law 820 = .ok (.iadd, 1) := okD_get dqc_14 22 rfl
theorem dL_law_821 : decode cL_law 821 = .ok (.iaload, 1) := okD_get dqc_14 23 rfl
theorem dL_law_822 : decode cL_law 822 = .ok (.aload_n 0, 1) := okD_get dqc_14 24 rfl
theorem dL_law_823 : decode cL_law 823 = .ok (.iload_n 3, 1) := okD_get dqc_14 25 rfl
theorem dL_law_824 : decode cL_law 824 = .ok (.iconst 3, 1) := okD_get dqc_14 26 rfl
theorem dL_law_825 : decode cL_law 825 = .ok (.iadd, 1) := okD_get dqc_14 27 rfl
theorem dL_law_826 : decode cL_law 826 = .ok (.iaload, 1) := okD_get dqc_14 28 rfl
theorem dL_law_827 : decode cL_law 827 = .ok (.invokevirtual 100, 3) := okD_get dqc_14 29 rfl
theorem dL_law_830 : decode cL_law 830 = .ok (.aload_n 2, 1) := okD_get dqc_14 30 rfl
theorem dL_law_831 : decode cL_law 831 = .ok (.aload_n 0, 1) := okD_get dqc_14 31 rfl
theorem dL_law_832 : decode cL_law 832 = .ok (.iload_n 3, 1) := okD_get dqc_14 32 rfl
theorem dL_law_833 : decode cL_law 833 = .ok (.iconst 1, 1) := okD_get dqc_14 33 rfl
theorem dL_law_834 : decode cL_law 834 = .ok (.iadd, 1) := okD_get dqc_14 34 rfl
theorem dL_law_835 : decode cL_law 835 = .ok (.iaload, 1) := okD_get dqc_14 35 rfl
theorem dL_law_836 : decode cL_law 836 = .ok (.aload_n 0, 1) := okD_get dqc_14 36 rfl
theorem dL_law_837 : decode cL_law 837 = .ok (.iload_n 3, 1) := okD_get dqc_14 37 rfl
theorem dL_law_838 : decode cL_law 838 = .ok (.iconst 2, 1) := okD_get dqc_14 38 rfl
theorem dL_law_839 : decode cL_law 839 = .ok (.iadd, 1) := okD_get dqc_14 39 rfl
theorem dqc_15 : okD cL_law [(840, (.iaload, 1)), (841, (.aload_n 0, 1)), (842, (.iload_n 3, 1)), (843, (.iconst 3, 1)), (844, (.iadd, 1)), (845, (.iaload, 1)), (846, (.invokevirtual 103, 3)), (849, (.if_icmp .eq 41, 3)), (852, (.iconst 0, 1)), (853, (.ireturn, 1)), (854, (.aload_n 1, 1)), (855, (.aload_n 0, 1)), (856, (.iload_n 3, 1)), (857, (.iconst 1, 1)), (858, (.iadd, 1)), (859, (.iaload, 1)), (860, (.invokevirtual 104, 3)), (863, (.aload_n 2, 1)), (864, (.aload_n 0, 1)), (865, (.iload_n 3, 1)), (866, (.iconst 1, 1)), (867, (.iadd, 1)), (868, (.iaload, 1)), (869, (.invokevirtual 107, 3)), (872, (.if_icmp .eq 18, 3)), (875, (.iconst 0, 1)), (876, (.ireturn, 1)), (877, (.aload_n 1, 1)), (878, (.invokevirtual 108, 3)), (881, (.aload_n 2, 1)), (882, (.invokevirtual 111, 3)), (885, (.if_icmp .eq 5, 3)), (888, (.iconst 0, 1)), (889, (.ireturn, 1)), (890, (.iinc 3 6, 3)), (893, (.goto (-875), 3)), (896, (.iconst 1, 1)), (897, (.ireturn, 1))] = true := by decide +kernel
theorem dL_law_840 : decode cL_law 840 = .ok (.iaload, 1) := okD_get dqc_15 0 rfl
theorem dL_law_841 : decode cL_law 841 = .ok (.aload_n 0, 1) := okD_get dqc_15 1 rfl
theorem dL_law_842 : decode cL_law 842 = .ok (.iload_n 3, 1) := okD_get dqc_15 2 rfl
theorem dL_law_843 : decode cL_law 843 = .ok (.iconst 3, 1) := okD_get dqc_15 3 rfl
theorem dL_law_844 : decode cL_law 844 = .ok (.iadd, 1) := okD_get dqc_15 4 rfl
theorem dL_law_845 : decode cL_law 845 = .ok (.iaload, 1) := okD_get dqc_15 5 rfl
theorem dL_law_846 : decode cL_law 846 = .ok (.invokevirtual 103, 3) := okD_get dqc_15 6 rfl
theorem dL_law_849 : decode cL_law 849 = .ok (.if_icmp .eq 41, 3) := okD_get dqc_15 7 rfl
theorem dL_law_852 : decode cL_law 852 = .ok (.iconst 0, 1) := okD_get dqc_15 8 rfl
theorem dL_law_853 : decode cL_law 853 = .ok (.ireturn, 1) := okD_get dqc_15 9 rfl
theorem dL_law_854 : decode cL_law 854 = .ok (.aload_n 1, 1) := okD_get dqc_15 10 rfl
theorem dL_law_855 : decode cL_law 855 = .ok (.aload_n 0, 1) := okD_get dqc_15 11 rfl
theorem dL_law_856 : decode cL_law 856 = .ok (.iload_n 3, 1) := okD_get dqc_15 12 rfl
theorem dL_law_857 : decode cL_law 857 = .ok (.iconst 1, 1) := okD_get dqc_15 13 rfl
theorem dL_law_858 : decode cL_law 858 = .ok (.iadd, 1) := okD_get dqc_15 14 rfl
theorem dL_law_859 : decode cL_law 859 = .ok (.iaload, 1) := okD_get dqc_15 15 rfl
theorem dL_law_860 : decode cL_law 860 = .ok (.invokevirtual 104, 3) := okD_get dqc_15 16 rfl
theorem dL_law_863 : decode cL_law 863 = .ok (.aload_n 2, 1) := okD_get dqc_15 17 rfl
theorem dL_law_864 : decode cL_law 864 = .ok (.aload_n 0, 1) := okD_get dqc_15 18 rfl
theorem dL_law_865 : decode cL_law 865 = .ok (.iload_n 3, 1) := okD_get dqc_15 19 rfl
theorem dL_law_866 : decode cL_law 866 = .ok (.iconst 1, 1) := okD_get dqc_15 20 rfl
theorem dL_law_867 : decode cL_law 867 = .ok (.iadd, 1) := okD_get dqc_15 21 rfl
theorem dL_law_868 : decode cL_law 868 = .ok (.iaload, 1) := okD_get dqc_15 22 rfl
theorem dL_law_869 : decode cL_law 869 = .ok (.invokevirtual 107, 3) := okD_get dqc_15 23 rfl
theorem dL_law_872 : decode cL_law 872 = .ok (.if_icmp .eq 18, 3) := okD_get dqc_15 24 rfl
theorem dL_law_875 : decode cL_law 875 = .ok (.iconst 0, 1) := okD_get dqc_15 25 rfl
theorem dL_law_876 : decode cL_law 876 = .ok (.ireturn, 1) := okD_get dqc_15 26 rfl
theorem dL_law_877 : decode cL_law 877 = .ok (.aload_n 1, 1) := okD_get dqc_15 27 rfl
theorem dL_law_878 : decode cL_law 878 = .ok (.invokevirtual 108, 3) := okD_get dqc_15 28 rfl
theorem dL_law_881 : decode cL_law 881 = .ok (.aload_n 2, 1) := okD_get dqc_15 29 rfl
theorem dL_law_882 : decode cL_law 882 = .ok (.invokevirtual 111, 3) := okD_get dqc_15 30 rfl
theorem dL_law_885 : decode cL_law 885 = .ok (.if_icmp .eq 5, 3) := okD_get dqc_15 31 rfl
theorem dL_law_888 : decode cL_law 888 = .ok (.iconst 0, 1) := okD_get dqc_15 32 rfl
theorem dL_law_889 : decode cL_law 889 = .ok (.ireturn, 1) := okD_get dqc_15 33 rfl
theorem dL_law_890 : decode cL_law 890 = .ok (.iinc 3 6, 3) := okD_get dqc_15 34 rfl
theorem dL_law_893 : decode cL_law 893 = .ok (.goto (-875), 3) := okD_get dqc_15 35 rfl
theorem dL_law_896 : decode cL_law 896 = .ok (.iconst 1, 1) := okD_get dqc_15 36 rfl
theorem dL_law_897 : decode cL_law 897 = .ok (.ireturn, 1) := okD_get dqc_15 37 rfl
