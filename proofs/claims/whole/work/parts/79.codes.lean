/-! The law's instructions. -/
def tL_law_0 : List (Nat × Instr × Nat) := [(0, .new 8, 3), (3, .dup, 1), (4, .invokespecial 67, 3), (7, .astore_n 1, 1), (8, .new 68, 3), (11, .dup, 1), (12, .invokespecial 70, 3), (15, .astore_n 2, 1), (16, .iconst 1, 1), (17, .newarray .long, 2), (19, .astore_n 3, 1), (20, .iconst 0, 1), (21, .istore 4, 2), (23, .iload 4, 2), (25, .aload_n 0, 1), (26, .arraylength, 1), (27, .iconst 4, 1), (28, .isub, 1), (29, .if_icmp .gt 1257, 3), (32, .aload_n 0, 1), (33, .iload 4, 2), (35, .iaload, 1), (36, .bipush 31, 2), (38, .iand, 1), (39, .tableswitch 1241 0 22 #[105, 173, 229, 285, 353, 421, 477, 490, 546, 559, 572, 616, 684, 764, 832, 912, 980, 1036, 1104, 1160, 1173, 1186, 1227], 105), (144, .aload_n 1, 1), (145, .aload_n 0, 1), (146, .iload 4, 2), (148, .iconst 1, 1), (149, .iadd, 1), (150, .iaload, 1), (151, .aload_n 0, 1), (152, .iload 4, 2), (154, .iconst 2, 1), (155, .iadd, 1), (156, .iaload, 1), (157, .aload_n 3, 1), (158, .invokestatic 71, 3), (161, .istore 5, 2), (163, .aload_n 2, 1), (164, .aload_n 0, 1), (165, .iload 4, 2), (167, .iconst 1, 1), (168, .iadd, 1), (169, .iaload, 1), (170, .aload_n 0, 1), (171, .iload 4, 2), (173, .iconst 2, 1), (174, .iadd, 1), (175, .iaload, 1), (176, .invokevirtual 76, 3), (179, .istore 6, 2), (181, .aload_n 2, 1), (182, .invokevirtual 77, 3), (185, .iload 5, 2), (187, .if_icmp .eq 5, 3), (190, .iconst 0, 1), (191, .ireturn, 1), (192, .iload 5, 2), (194, .ifCond .ne 15, 3)]
theorem tL_law_0_ok : tL_law_0.all (fun q => decide (decode cL_law q.1 = .ok q.2)) = true := by decide +kernel
theorem dL_law_0 : decode cL_law 0 = .ok (.new 8, 3) := td tL_law_0_ok 0 (q := (0, .new 8, 3)) rfl
theorem dL_law_3 : decode cL_law 3 = .ok (.dup, 1) := td tL_law_0_ok 1 (q := (3, .dup, 1)) rfl
theorem dL_law_4 : decode cL_law 4 = .ok (.invokespecial 67, 3) := td tL_law_0_ok 2 (q := (4, .invokespecial 67, 3)) rfl
theorem dL_law_7 : decode cL_law 7 = .ok (.astore_n 1, 1) := td tL_law_0_ok 3 (q := (7, .astore_n 1, 1)) rfl
theorem dL_law_8 : decode cL_law 8 = .ok (.new 68, 3) := td tL_law_0_ok 4 (q := (8, .new 68, 3)) rfl
theorem dL_law_11 : decode cL_law 11 = .ok (.dup, 1) := td tL_law_0_ok 5 (q := (11, .dup, 1)) rfl
theorem dL_law_12 : decode cL_law 12 = .ok (.invokespecial 70, 3) := td tL_law_0_ok 6 (q := (12, .invokespecial 70, 3)) rfl
theorem dL_law_15 : decode cL_law 15 = .ok (.astore_n 2, 1) := td tL_law_0_ok 7 (q := (15, .astore_n 2, 1)) rfl
theorem dL_law_16 : decode cL_law 16 = .ok (.iconst 1, 1) := td tL_law_0_ok 8 (q := (16, .iconst 1, 1)) rfl
theorem dL_law_17 : decode cL_law 17 = .ok (.newarray .long, 2) := td tL_law_0_ok 9 (q := (17, .newarray .long, 2)) rfl
theorem dL_law_19 : decode cL_law 19 = .ok (.astore_n 3, 1) := td tL_law_0_ok 10 (q := (19, .astore_n 3, 1)) rfl
theorem dL_law_20 : decode cL_law 20 = .ok (.iconst 0, 1) := td tL_law_0_ok 11 (q := (20, .iconst 0, 1)) rfl
theorem dL_law_21 : decode cL_law 21 = .ok (.istore 4, 2) := td tL_law_0_ok 12 (q := (21, .istore 4, 2)) rfl
theorem dL_law_23 : decode cL_law 23 = .ok (.iload 4, 2) := td tL_law_0_ok 13 (q := (23, .iload 4, 2)) rfl
theorem dL_law_25 : decode cL_law 25 = .ok (.aload_n 0, 1) := td tL_law_0_ok 14 (q := (25, .aload_n 0, 1)) rfl
theorem dL_law_26 : decode cL_law 26 = .ok (.arraylength, 1) := td tL_law_0_ok 15 (q := (26, .arraylength, 1)) rfl
theorem dL_law_27 : decode cL_law 27 = .ok (.iconst 4, 1) := td tL_law_0_ok 16 (q := (27, .iconst 4, 1)) rfl
theorem dL_law_28 : decode cL_law 28 = .ok (.isub, 1) := td tL_law_0_ok 17 (q := (28, .isub, 1)) rfl
theorem dL_law_29 : decode cL_law 29 = .ok (.if_icmp .gt 1257, 3) := td tL_law_0_ok 18 (q := (29, .if_icmp .gt 1257, 3)) rfl
theorem dL_law_32 : decode cL_law 32 = .ok (.aload_n 0, 1) := td tL_law_0_ok 19 (q := (32, .aload_n 0, 1)) rfl
theorem dL_law_33 : decode cL_law 33 = .ok (.iload 4, 2) := td tL_law_0_ok 20 (q := (33, .iload 4, 2)) rfl
theorem dL_law_35 : decode cL_law 35 = .ok (.iaload, 1) := td tL_law_0_ok 21 (q := (35, .iaload, 1)) rfl
theorem dL_law_36 : decode cL_law 36 = .ok (.bipush 31, 2) := td tL_law_0_ok 22 (q := (36, .bipush 31, 2)) rfl
theorem dL_law_38 : decode cL_law 38 = .ok (.iand, 1) := td tL_law_0_ok 23 (q := (38, .iand, 1)) rfl
theorem dL_law_39 : decode cL_law 39 = .ok (.tableswitch 1241 0 22 #[105, 173, 229, 285, 353, 421, 477, 490, 546, 559, 572, 616, 684, 764, 832, 912, 980, 1036, 1104, 1160, 1173, 1186, 1227], 105) := td tL_law_0_ok 24 (q := (39, .tableswitch 1241 0 22 #[105, 173, 229, 285, 353, 421, 477, 490, 546, 559, 572, 616, 684, 764, 832, 912, 980, 1036, 1104, 1160, 1173, 1186, 1227], 105)) rfl
theorem dL_law_144 : decode cL_law 144 = .ok (.aload_n 1, 1) := td tL_law_0_ok 25 (q := (144, .aload_n 1, 1)) rfl
theorem dL_law_145 : decode cL_law 145 = .ok (.aload_n 0, 1) := td tL_law_0_ok 26 (q := (145, .aload_n 0, 1)) rfl
theorem dL_law_146 : decode cL_law 146 = .ok (.iload 4, 2) := td tL_law_0_ok 27 (q := (146, .iload 4, 2)) rfl
theorem dL_law_148 : decode cL_law 148 = .ok (.iconst 1, 1) := td tL_law_0_ok 28 (q := (148, .iconst 1, 1)) rfl
theorem dL_law_149 : decode cL_law 149 = .ok (.iadd, 1) := td tL_law_0_ok 29 (q := (149, .iadd, 1)) rfl
theorem dL_law_150 : decode cL_law 150 = .ok (.iaload, 1) := td tL_law_0_ok 30 (q := (150, .iaload, 1)) rfl
theorem dL_law_151 : decode cL_law 151 = .ok (.aload_n 0, 1) := td tL_law_0_ok 31 (q := (151, .aload_n 0, 1)) rfl
theorem dL_law_152 : decode cL_law 152 = .ok (.iload 4, 2) := td tL_law_0_ok 32 (q := (152, .iload 4, 2)) rfl
theorem dL_law_154 : decode cL_law 154 = .ok (.iconst 2, 1) := td tL_law_0_ok 33 (q := (154, .iconst 2, 1)) rfl
theorem dL_law_155 : decode cL_law 155 = .ok (.iadd, 1) := td tL_law_0_ok 34 (q := (155, .iadd, 1)) rfl
theorem dL_law_156 : decode cL_law 156 = .ok (.iaload, 1) := td tL_law_0_ok 35 (q := (156, .iaload, 1)) rfl
theorem dL_law_157 : decode cL_law 157 = .ok (.aload_n 3, 1) := td tL_law_0_ok 36 (q := (157, .aload_n 3, 1)) rfl
theorem dL_law_158 : decode cL_law 158 = .ok (.invokestatic 71, 3) := td tL_law_0_ok 37 (q := (158, .invokestatic 71, 3)) rfl
theorem dL_law_161 : decode cL_law 161 = .ok (.istore 5, 2) := td tL_law_0_ok 38 (q := (161, .istore 5, 2)) rfl
theorem dL_law_163 : decode cL_law 163 = .ok (.aload_n 2, 1) := td tL_law_0_ok 39 (q := (163, .aload_n 2, 1)) rfl
theorem dL_law_164 : decode cL_law 164 = .ok (.aload_n 0, 1) := td tL_law_0_ok 40 (q := (164, .aload_n 0, 1)) rfl
theorem dL_law_165 : decode cL_law 165 = .ok (.iload 4, 2) := td tL_law_0_ok 41 (q := (165, .iload 4, 2)) rfl
theorem dL_law_167 : decode cL_law 167 = .ok (.iconst 1, 1) := td tL_law_0_ok 42 (q := (167, .iconst 1, 1)) rfl
theorem dL_law_168 : decode cL_law 168 = .ok (.iadd, 1) := td tL_law_0_ok 43 (q := (168, .iadd, 1)) rfl
theorem dL_law_169 : decode cL_law 169 = .ok (.iaload, 1) := td tL_law_0_ok 44 (q := (169, .iaload, 1)) rfl
theorem dL_law_170 : decode cL_law 170 = .ok (.aload_n 0, 1) := td tL_law_0_ok 45 (q := (170, .aload_n 0, 1)) rfl
theorem dL_law_171 : decode cL_law 171 = .ok (.iload 4, 2) := td tL_law_0_ok 46 (q := (171, .iload 4, 2)) rfl
theorem dL_law_173 : decode cL_law 173 = .ok (.iconst 2, 1) := td tL_law_0_ok 47 (q := (173, .iconst 2, 1)) rfl
theorem dL_law_174 : decode cL_law 174 = .ok (.iadd, 1) := td tL_law_0_ok 48 (q := (174, .iadd, 1)) rfl
theorem dL_law_175 : decode cL_law 175 = .ok (.iaload, 1) := td tL_law_0_ok 49 (q := (175, .iaload, 1)) rfl
theorem dL_law_176 : decode cL_law 176 = .ok (.invokevirtual 76, 3) := td tL_law_0_ok 50 (q := (176, .invokevirtual 76, 3)) rfl
theorem dL_law_179 : decode cL_law 179 = .ok (.istore 6, 2) := td tL_law_0_ok 51 (q := (179, .istore 6, 2)) rfl
theorem dL_law_181 : decode cL_law 181 = .ok (.aload_n 2, 1) := td tL_law_0_ok 52 (q := (181, .aload_n 2, 1)) rfl
theorem dL_law_182 : decode cL_law 182 = .ok (.invokevirtual 77, 3) := td tL_law_0_ok 53 (q := (182, .invokevirtual 77, 3)) rfl
theorem dL_law_185 : decode cL_law 185 = .ok (.iload 5, 2) := td tL_law_0_ok 54 (q := (185, .iload 5, 2)) rfl
theorem dL_law_187 : decode cL_law 187 = .ok (.if_icmp .eq 5, 3) := td tL_law_0_ok 55 (q := (187, .if_icmp .eq 5, 3)) rfl
theorem dL_law_190 : decode cL_law 190 = .ok (.iconst 0, 1) := td tL_law_0_ok 56 (q := (190, .iconst 0, 1)) rfl
theorem dL_law_191 : decode cL_law 191 = .ok (.ireturn, 1) := td tL_law_0_ok 57 (q := (191, .ireturn, 1)) rfl
theorem dL_law_192 : decode cL_law 192 = .ok (.iload 5, 2) := td tL_law_0_ok 58 (q := (192, .iload 5, 2)) rfl
theorem dL_law_194 : decode cL_law 194 = .ok (.ifCond .ne 15, 3) := td tL_law_0_ok 59 (q := (194, .ifCond .ne 15, 3)) rfl
def tL_law_1 : List (Nat × Instr × Nat) := [(197, .aload_n 3, 1), (198, .iconst 0, 1), (199, .laload, 1), (200, .iload 6, 2), (202, .i2l, 1), (203, .lcmp, 1), (204, .ifCond .eq 5, 3), (207, .iconst 0, 1), (208, .ireturn, 1), (209, .goto 1071, 3), (212, .aload_n 1, 1), (213, .aload_n 0, 1), (214, .iload 4, 2), (216, .iconst 1, 1), (217, .iadd, 1), (218, .iaload, 1), (219, .aload_n 3, 1), (220, .invokestatic 80, 3), (223, .istore 5, 2), (225, .aload_n 2, 1), (226, .aload_n 0, 1), (227, .iload 4, 2), (229, .iconst 1, 1), (230, .iadd, 1), (231, .iaload, 1), (232, .invokevirtual 83, 3), (235, .istore 6, 2), (237, .aload_n 2, 1), (238, .invokevirtual 77, 3), (241, .iload 5, 2), (243, .if_icmp .eq 5, 3), (246, .iconst 0, 1), (247, .ireturn, 1), (248, .iload 5, 2), (250, .ifCond .ne 15, 3), (253, .aload_n 3, 1), (254, .iconst 0, 1), (255, .laload, 1), (256, .iload 6, 2), (258, .i2l, 1), (259, .lcmp, 1), (260, .ifCond .eq 5, 3), (263, .iconst 0, 1), (264, .ireturn, 1), (265, .goto 1015, 3), (268, .aload_n 1, 1), (269, .aload_n 0, 1), (270, .iload 4, 2), (272, .iconst 1, 1), (273, .iadd, 1), (274, .iaload, 1), (275, .aload_n 3, 1), (276, .invokestatic 84, 3), (279, .istore 5, 2), (281, .aload_n 2, 1), (282, .aload_n 0, 1), (283, .iload 4, 2), (285, .iconst 1, 1), (286, .iadd, 1), (287, .iaload, 1)]
theorem tL_law_1_ok : tL_law_1.all (fun q => decide (decode cL_law q.1 = .ok q.2)) = true := by decide +kernel
theorem dL_law_197 : decode cL_law 197 = .ok (.aload_n 3, 1) := td tL_law_1_ok 0 (q := (197, .aload_n 3, 1)) rfl
theorem dL_law_198 : decode cL_law 198 = .ok (.iconst 0, 1) := td tL_law_1_ok 1 (q := (198, .iconst 0, 1)) rfl
theorem dL_law_199 : decode cL_law 199 = .ok (.laload, 1) := td tL_law_1_ok 2 (q := (199, .laload, 1)) rfl
theorem dL_law_200 : decode cL_law 200 = .ok (.iload 6, 2) := td tL_law_1_ok 3 (q := (200, .iload 6, 2)) rfl
theorem dL_law_202 : decode cL_law 202 = .ok (.i2l, 1) := td tL_law_1_ok 4 (q := (202, .i2l, 1)) rfl
theorem dL_law_203 : decode cL_law 203 = .ok (.lcmp, 1) := td tL_law_1_ok 5 (q := (203, .lcmp, 1)) rfl
theorem dL_law_204 : decode cL_law 204 = .ok (.ifCond .eq 5, 3) := td tL_law_1_ok 6 (q := (204, .ifCond .eq 5, 3)) rfl
theorem dL_law_207 : decode cL_law 207 = .ok (.iconst 0, 1) := td tL_law_1_ok 7 (q := (207, .iconst 0, 1)) rfl
theorem dL_law_208 : decode cL_law 208 = .ok (.ireturn, 1) := td tL_law_1_ok 8 (q := (208, .ireturn, 1)) rfl
theorem dL_law_209 : decode cL_law 209 = .ok (.goto 1071, 3) := td tL_law_1_ok 9 (q := (209, .goto 1071, 3)) rfl
theorem dL_law_212 : decode cL_law 212 = .ok (.aload_n 1, 1) := td tL_law_1_ok 10 (q := (212, .aload_n 1, 1)) rfl
theorem dL_law_213 : decode cL_law 213 = .ok (.aload_n 0, 1) := td tL_law_1_ok 11 (q := (213, .aload_n 0, 1)) rfl
theorem dL_law_214 : decode cL_law 214 = .ok (.iload 4, 2) := td tL_law_1_ok 12 (q := (214, .iload 4, 2)) rfl
theorem dL_law_216 : decode cL_law 216 = .ok (.iconst 1, 1) := td tL_law_1_ok 13 (q := (216, .iconst 1, 1)) rfl
theorem dL_law_217 : decode cL_law 217 = .ok (.iadd, 1) := td tL_law_1_ok 14 (q := (217, .iadd, 1)) rfl
theorem dL_law_218 : decode cL_law 218 = .ok (.iaload, 1) := td tL_law_1_ok 15 (q := (218, .iaload, 1)) rfl
theorem dL_law_219 : decode cL_law 219 = .ok (.aload_n 3, 1) := td tL_law_1_ok 16 (q := (219, .aload_n 3, 1)) rfl
theorem dL_law_220 : decode cL_law 220 = .ok (.invokestatic 80, 3) := td tL_law_1_ok 17 (q := (220, .invokestatic 80, 3)) rfl
theorem dL_law_223 : decode cL_law 223 = .ok (.istore 5, 2) := td tL_law_1_ok 18 (q := (223, .istore 5, 2)) rfl
theorem dL_law_225 : decode cL_law 225 = .ok (.aload_n 2, 1) := td tL_law_1_ok 19 (q := (225, .aload_n 2, 1)) rfl
theorem dL_law_226 : decode cL_law 226 = .ok (.aload_n 0, 1) := td tL_law_1_ok 20 (q := (226, .aload_n 0, 1)) rfl
theorem dL_law_227 : decode cL_law 227 = .ok (.iload 4, 2) := td tL_law_1_ok 21 (q := (227, .iload 4, 2)) rfl
theorem dL_law_229 : decode cL_law 229 = .ok (.iconst 1, 1) := td tL_law_1_ok 22 (q := (229, .iconst 1, 1)) rfl
theorem dL_law_230 : decode cL_law 230 = .ok (.iadd, 1) := td tL_law_1_ok 23 (q := (230, .iadd, 1)) rfl
theorem dL_law_231 : decode cL_law 231 = .ok (.iaload, 1) := td tL_law_1_ok 24 (q := (231, .iaload, 1)) rfl
theorem dL_law_232 : decode cL_law 232 = .ok (.invokevirtual 83, 3) := td tL_law_1_ok 25 (q := (232, .invokevirtual 83, 3)) rfl
theorem dL_law_235 : decode cL_law 235 = .ok (.istore 6, 2) := td tL_law_1_ok 26 (q := (235, .istore 6, 2)) rfl
theorem dL_law_237 : decode cL_law 237 = .ok (.aload_n 2, 1) := td tL_law_1_ok 27 (q := (237, .aload_n 2, 1)) rfl
theorem dL_law_238 : decode cL_law 238 = .ok (.invokevirtual 77, 3) := td tL_law_1_ok 28 (q := (238, .invokevirtual 77, 3)) rfl
theorem dL_law_241 : decode cL_law 241 = .ok (.iload 5, 2) := td tL_law_1_ok 29 (q := (241, .iload 5, 2)) rfl
theorem dL_law_243 : decode cL_law 243 = .ok (.if_icmp .eq 5, 3) := td tL_law_1_ok 30 (q := (243, .if_icmp .eq 5, 3)) rfl
theorem dL_law_246 : decode cL_law 246 = .ok (.iconst 0, 1) := td tL_law_1_ok 31 (q := (246, .iconst 0, 1)) rfl
theorem dL_law_247 : decode cL_law 247 = .ok (.ireturn, 1) := td tL_law_1_ok 32 (q := (247, .ireturn, 1)) rfl
theorem dL_law_248 : decode cL_law 248 = .ok (.iload 5, 2) := td tL_law_1_ok 33 (q := (248, .iload 5, 2)) rfl
theorem dL_law_250 : decode cL_law 250 = .ok (.ifCond .ne 15, 3) := td tL_law_1_ok 34 (q := (250, .ifCond .ne 15, 3)) rfl
theorem dL_law_253 : decode cL_law 253 = .ok (.aload_n 3, 1) := td tL_law_1_ok 35 (q := (253, .aload_n 3, 1)) rfl
theorem dL_law_254 : decode cL_law 254 = .ok (.iconst 0, 1) := td tL_law_1_ok 36 (q := (254, .iconst 0, 1)) rfl
theorem dL_law_255 : decode cL_law 255 = .ok (.laload, 1) := td tL_law_1_ok 37 (q := (255, .laload, 1)) rfl
theorem dL_law_256 : decode cL_law 256 = .ok (.iload 6, 2) := td tL_law_1_ok 38 (q := (256, .iload 6, 2)) rfl
theorem dL_law_258 : decode cL_law 258 = .ok (.i2l, 1) := td tL_law_1_ok 39 (q := (258, .i2l, 1)) rfl
theorem dL_law_259 : decode cL_law 259 = .ok (.lcmp, 1) := td tL_law_1_ok 40 (q := (259, .lcmp, 1)) rfl
theorem dL_law_260 : decode cL_law 260 = .ok (.ifCond .eq 5, 3) := td tL_law_1_ok 41 (q := (260, .ifCond .eq 5, 3)) rfl
theorem dL_law_263 : decode cL_law 263 = .ok (.iconst 0, 1) := td tL_law_1_ok 42 (q := (263, .iconst 0, 1)) rfl
theorem dL_law_264 : decode cL_law 264 = .ok (.ireturn, 1) := td tL_law_1_ok 43 (q := (264, .ireturn, 1)) rfl
theorem dL_law_265 : decode cL_law 265 = .ok (.goto 1015, 3) := td tL_law_1_ok 44 (q := (265, .goto 1015, 3)) rfl
theorem dL_law_268 : decode cL_law 268 = .ok (.aload_n 1, 1) := td tL_law_1_ok 45 (q := (268, .aload_n 1, 1)) rfl
theorem dL_law_269 : decode cL_law 269 = .ok (.aload_n 0, 1) := td tL_law_1_ok 46 (q := (269, .aload_n 0, 1)) rfl
theorem dL_law_270 : decode cL_law 270 = .ok (.iload 4, 2) := td tL_law_1_ok 47 (q := (270, .iload 4, 2)) rfl
theorem dL_law_272 : decode cL_law 272 = .ok (.iconst 1, 1) := td tL_law_1_ok 48 (q := (272, .iconst 1, 1)) rfl
theorem dL_law_273 : decode cL_law 273 = .ok (.iadd, 1) := td tL_law_1_ok 49 (q := (273, .iadd, 1)) rfl
theorem dL_law_274 : decode cL_law 274 = .ok (.iaload, 1) := td tL_law_1_ok 50 (q := (274, .iaload, 1)) rfl
theorem dL_law_275 : decode cL_law 275 = .ok (.aload_n 3, 1) := td tL_law_1_ok 51 (q := (275, .aload_n 3, 1)) rfl
theorem dL_law_276 : decode cL_law 276 = .ok (.invokestatic 84, 3) := td tL_law_1_ok 52 (q := (276, .invokestatic 84, 3)) rfl
theorem dL_law_279 : decode cL_law 279 = .ok (.istore 5, 2) := td tL_law_1_ok 53 (q := (279, .istore 5, 2)) rfl
theorem dL_law_281 : decode cL_law 281 = .ok (.aload_n 2, 1) := td tL_law_1_ok 54 (q := (281, .aload_n 2, 1)) rfl
theorem dL_law_282 : decode cL_law 282 = .ok (.aload_n 0, 1) := td tL_law_1_ok 55 (q := (282, .aload_n 0, 1)) rfl
theorem dL_law_283 : decode cL_law 283 = .ok (.iload 4, 2) := td tL_law_1_ok 56 (q := (283, .iload 4, 2)) rfl
theorem dL_law_285 : decode cL_law 285 = .ok (.iconst 1, 1) := td tL_law_1_ok 57 (q := (285, .iconst 1, 1)) rfl
theorem dL_law_286 : decode cL_law 286 = .ok (.iadd, 1) := td tL_law_1_ok 58 (q := (286, .iadd, 1)) rfl
theorem dL_law_287 : decode cL_law 287 = .ok (.iaload, 1) := td tL_law_1_ok 59 (q := (287, .iaload, 1)) rfl
def tL_law_2 : List (Nat × Instr × Nat) := [(288, .invokevirtual 86, 3), (291, .istore 6, 2), (293, .aload_n 2, 1), (294, .invokevirtual 77, 3), (297, .iload 5, 2), (299, .if_icmp .eq 5, 3), (302, .iconst 0, 1), (303, .ireturn, 1), (304, .iload 5, 2), (306, .ifCond .ne 15, 3), (309, .aload_n 3, 1), (310, .iconst 0, 1), (311, .laload, 1), (312, .iload 6, 2), (314, .i2l, 1), (315, .lcmp, 1), (316, .ifCond .eq 5, 3), (319, .iconst 0, 1), (320, .ireturn, 1), (321, .goto 959, 3), (324, .aload_n 1, 1), (325, .aload_n 0, 1), (326, .iload 4, 2), (328, .iconst 1, 1), (329, .iadd, 1), (330, .iaload, 1), (331, .aload_n 0, 1), (332, .iload 4, 2), (334, .iconst 2, 1), (335, .iadd, 1), (336, .iaload, 1), (337, .aload_n 3, 1), (338, .invokestatic 87, 3), (341, .istore 5, 2), (343, .aload_n 2, 1), (344, .aload_n 0, 1), (345, .iload 4, 2), (347, .iconst 1, 1), (348, .iadd, 1), (349, .iaload, 1), (350, .aload_n 0, 1), (351, .iload 4, 2), (353, .iconst 2, 1), (354, .iadd, 1), (355, .iaload, 1), (356, .invokevirtual 89, 3), (359, .istore 6, 2), (361, .aload_n 2, 1), (362, .invokevirtual 77, 3), (365, .iload 5, 2), (367, .if_icmp .eq 5, 3), (370, .iconst 0, 1), (371, .ireturn, 1), (372, .iload 5, 2), (374, .ifCond .ne 15, 3), (377, .aload_n 3, 1), (378, .iconst 0, 1), (379, .laload, 1), (380, .iload 6, 2), (382, .i2l, 1)]
theorem tL_law_2_ok : tL_law_2.all (fun q => decide (decode cL_law q.1 = .ok q.2)) = true := by decide +kernel
theorem dL_law_288 : decode cL_law 288 = .ok (.invokevirtual 86, 3) := td tL_law_2_ok 0 (q := (288, .invokevirtual 86, 3)) rfl
theorem dL_law_291 : decode cL_law 291 = .ok (.istore 6, 2) := td tL_law_2_ok 1 (q := (291, .istore 6, 2)) rfl
theorem dL_law_293 : decode cL_law 293 = .ok (.aload_n 2, 1) := td tL_law_2_ok 2 (q := (293, .aload_n 2, 1)) rfl
theorem dL_law_294 : decode cL_law 294 = .ok (.invokevirtual 77, 3) := td tL_law_2_ok 3 (q := (294, .invokevirtual 77, 3)) rfl
theorem dL_law_297 : decode cL_law 297 = .ok (.iload 5, 2) := td tL_law_2_ok 4 (q := (297, .iload 5, 2)) rfl
theorem dL_law_299 : decode cL_law 299 = .ok (.if_icmp .eq 5, 3) := td tL_law_2_ok 5 (q := (299, .if_icmp .eq 5, 3)) rfl
theorem dL_law_302 : decode cL_law 302 = .ok (.iconst 0, 1) := td tL_law_2_ok 6 (q := (302, .iconst 0, 1)) rfl
theorem dL_law_303 : decode cL_law 303 = .ok (.ireturn, 1) := td tL_law_2_ok 7 (q := (303, .ireturn, 1)) rfl
theorem dL_law_304 : decode cL_law 304 = .ok (.iload 5, 2) := td tL_law_2_ok 8 (q := (304, .iload 5, 2)) rfl
theorem dL_law_306 : decode cL_law 306 = .ok (.ifCond .ne 15, 3) := td tL_law_2_ok 9 (q := (306, .ifCond .ne 15, 3)) rfl
theorem dL_law_309 : decode cL_law 309 = .ok (.aload_n 3, 1) := td tL_law_2_ok 10 (q := (309, .aload_n 3, 1)) rfl
theorem dL_law_310 : decode cL_law 310 = .ok (.iconst 0, 1) := td tL_law_2_ok 11 (q := (310, .iconst 0, 1)) rfl
theorem dL_law_311 : decode cL_law 311 = .ok (.laload, 1) := td tL_law_2_ok 12 (q := (311, .laload, 1)) rfl
theorem dL_law_312 : decode cL_law 312 = .ok (.iload 6, 2) := td tL_law_2_ok 13 (q := (312, .iload 6, 2)) rfl
theorem dL_law_314 : decode cL_law 314 = .ok (.i2l, 1) := td tL_law_2_ok 14 (q := (314, .i2l, 1)) rfl
theorem dL_law_315 : decode cL_law 315 = .ok (.lcmp, 1) := td tL_law_2_ok 15 (q := (315, .lcmp, 1)) rfl
theorem dL_law_316 : decode cL_law 316 = .ok (.ifCond .eq 5, 3) := td tL_law_2_ok 16 (q := (316, .ifCond .eq 5, 3)) rfl
theorem dL_law_319 : decode cL_law 319 = .ok (.iconst 0, 1) := td tL_law_2_ok 17 (q := (319, .iconst 0, 1)) rfl
theorem dL_law_320 : decode cL_law 320 = .ok (.ireturn, 1) := td tL_law_2_ok 18 (q := (320, .ireturn, 1)) rfl
theorem dL_law_321 : decode cL_law 321 = .ok (.goto 959, 3) := td tL_law_2_ok 19 (q := (321, .goto 959, 3)) rfl
theorem dL_law_324 : decode cL_law 324 = .ok (.aload_n 1, 1) := td tL_law_2_ok 20 (q := (324, .aload_n 1, 1)) rfl
theorem dL_law_325 : decode cL_law 325 = .ok (.aload_n 0, 1) := td tL_law_2_ok 21 (q := (325, .aload_n 0, 1)) rfl
theorem dL_law_326 : decode cL_law 326 = .ok (.iload 4, 2) := td tL_law_2_ok 22 (q := (326, .iload 4, 2)) rfl
theorem dL_law_328 : decode cL_law 328 = .ok (.iconst 1, 1) := td tL_law_2_ok 23 (q := (328, .iconst 1, 1)) rfl
theorem dL_law_329 : decode cL_law 329 = .ok (.iadd, 1) := td tL_law_2_ok 24 (q := (329, .iadd, 1)) rfl
theorem dL_law_330 : decode cL_law 330 = .ok (.iaload, 1) := td tL_law_2_ok 25 (q := (330, .iaload, 1)) rfl
theorem dL_law_331 : decode cL_law 331 = .ok (.aload_n 0, 1) := td tL_law_2_ok 26 (q := (331, .aload_n 0, 1)) rfl
theorem dL_law_332 : decode cL_law 332 = .ok (.iload 4, 2) := td tL_law_2_ok 27 (q := (332, .iload 4, 2)) rfl
theorem dL_law_334 : decode cL_law 334 = .ok (.iconst 2, 1) := td tL_law_2_ok 28 (q := (334, .iconst 2, 1)) rfl
theorem dL_law_335 : decode cL_law 335 = .ok (.iadd, 1) := td tL_law_2_ok 29 (q := (335, .iadd, 1)) rfl
theorem dL_law_336 : decode cL_law 336 = .ok (.iaload, 1) := td tL_law_2_ok 30 (q := (336, .iaload, 1)) rfl
theorem dL_law_337 : decode cL_law 337 = .ok (.aload_n 3, 1) := td tL_law_2_ok 31 (q := (337, .aload_n 3, 1)) rfl
theorem dL_law_338 : decode cL_law 338 = .ok (.invokestatic 87, 3) := td tL_law_2_ok 32 (q := (338, .invokestatic 87, 3)) rfl
theorem dL_law_341 : decode cL_law 341 = .ok (.istore 5, 2) := td tL_law_2_ok 33 (q := (341, .istore 5, 2)) rfl
theorem dL_law_343 : decode cL_law 343 = .ok (.aload_n 2, 1) := td tL_law_2_ok 34 (q := (343, .aload_n 2, 1)) rfl
theorem dL_law_344 : decode cL_law 344 = .ok (.aload_n 0, 1) := td tL_law_2_ok 35 (q := (344, .aload_n 0, 1)) rfl
theorem dL_law_345 : decode cL_law 345 = .ok (.iload 4, 2) := td tL_law_2_ok 36 (q := (345, .iload 4, 2)) rfl
theorem dL_law_347 : decode cL_law 347 = .ok (.iconst 1, 1) := td tL_law_2_ok 37 (q := (347, .iconst 1, 1)) rfl
theorem dL_law_348 : decode cL_law 348 = .ok (.iadd, 1) := td tL_law_2_ok 38 (q := (348, .iadd, 1)) rfl
theorem dL_law_349 : decode cL_law 349 = .ok (.iaload, 1) := td tL_law_2_ok 39 (q := (349, .iaload, 1)) rfl
theorem dL_law_350 : decode cL_law 350 = .ok (.aload_n 0, 1) := td tL_law_2_ok 40 (q := (350, .aload_n 0, 1)) rfl
theorem dL_law_351 : decode cL_law 351 = .ok (.iload 4, 2) := td tL_law_2_ok 41 (q := (351, .iload 4, 2)) rfl
theorem dL_law_353 : decode cL_law 353 = .ok (.iconst 2, 1) := td tL_law_2_ok 42 (q := (353, .iconst 2, 1)) rfl
theorem dL_law_354 : decode cL_law 354 = .ok (.iadd, 1) := td tL_law_2_ok 43 (q := (354, .iadd, 1)) rfl
theorem dL_law_355 : decode cL_law 355 = .ok (.iaload, 1) := td tL_law_2_ok 44 (q := (355, .iaload, 1)) rfl
theorem dL_law_356 : decode cL_law 356 = .ok (.invokevirtual 89, 3) := td tL_law_2_ok 45 (q := (356, .invokevirtual 89, 3)) rfl
theorem dL_law_359 : decode cL_law 359 = .ok (.istore 6, 2) := td tL_law_2_ok 46 (q := (359, .istore 6, 2)) rfl
theorem dL_law_361 : decode cL_law 361 = .ok (.aload_n 2, 1) := td tL_law_2_ok 47 (q := (361, .aload_n 2, 1)) rfl
theorem dL_law_362 : decode cL_law 362 = .ok (.invokevirtual 77, 3) := td tL_law_2_ok 48 (q := (362, .invokevirtual 77, 3)) rfl
theorem dL_law_365 : decode cL_law 365 = .ok (.iload 5, 2) := td tL_law_2_ok 49 (q := (365, .iload 5, 2)) rfl
theorem dL_law_367 : decode cL_law 367 = .ok (.if_icmp .eq 5, 3) := td tL_law_2_ok 50 (q := (367, .if_icmp .eq 5, 3)) rfl
theorem dL_law_370 : decode cL_law 370 = .ok (.iconst 0, 1) := td tL_law_2_ok 51 (q := (370, .iconst 0, 1)) rfl
theorem dL_law_371 : decode cL_law 371 = .ok (.ireturn, 1) := td tL_law_2_ok 52 (q := (371, .ireturn, 1)) rfl
theorem dL_law_372 : decode cL_law 372 = .ok (.iload 5, 2) := td tL_law_2_ok 53 (q := (372, .iload 5, 2)) rfl
theorem dL_law_374 : decode cL_law 374 = .ok (.ifCond .ne 15, 3) := td tL_law_2_ok 54 (q := (374, .ifCond .ne 15, 3)) rfl
theorem dL_law_377 : decode cL_law 377 = .ok (.aload_n 3, 1) := td tL_law_2_ok 55 (q := (377, .aload_n 3, 1)) rfl
theorem dL_law_378 : decode cL_law 378 = .ok (.iconst 0, 1) := td tL_law_2_ok 56 (q := (378, .iconst 0, 1)) rfl
theorem dL_law_379 : decode cL_law 379 = .ok (.laload, 1) := td tL_law_2_ok 57 (q := (379, .laload, 1)) rfl
theorem dL_law_380 : decode cL_law 380 = .ok (.iload 6, 2) := td tL_law_2_ok 58 (q := (380, .iload 6, 2)) rfl
theorem dL_law_382 : decode cL_law 382 = .ok (.i2l, 1) := td tL_law_2_ok 59 (q := (382, .i2l, 1)) rfl
def tL_law_3 : List (Nat × Instr × Nat) := [(383, .lcmp, 1), (384, .ifCond .eq 5, 3), (387, .iconst 0, 1), (388, .ireturn, 1), (389, .goto 891, 3), (392, .aload_n 1, 1), (393, .aload_n 0, 1), (394, .iload 4, 2), (396, .iconst 1, 1), (397, .iadd, 1), (398, .iaload, 1), (399, .aload_n 0, 1), (400, .iload 4, 2), (402, .iconst 2, 1), (403, .iadd, 1), (404, .iaload, 1), (405, .aload_n 3, 1), (406, .invokestatic 90, 3), (409, .istore 5, 2), (411, .aload_n 2, 1), (412, .aload_n 0, 1), (413, .iload 4, 2), (415, .iconst 1, 1), (416, .iadd, 1), (417, .iaload, 1), (418, .aload_n 0, 1), (419, .iload 4, 2), (421, .iconst 2, 1), (422, .iadd, 1), (423, .iaload, 1), (424, .invokevirtual 92, 3), (427, .istore 6, 2), (429, .aload_n 2, 1), (430, .invokevirtual 77, 3), (433, .iload 5, 2), (435, .if_icmp .eq 5, 3), (438, .iconst 0, 1), (439, .ireturn, 1), (440, .iload 5, 2), (442, .ifCond .ne 15, 3), (445, .aload_n 3, 1), (446, .iconst 0, 1), (447, .laload, 1), (448, .iload 6, 2), (450, .i2l, 1), (451, .lcmp, 1), (452, .ifCond .eq 5, 3), (455, .iconst 0, 1), (456, .ireturn, 1), (457, .goto 823, 3), (460, .aload_n 1, 1), (461, .aload_n 0, 1), (462, .iload 4, 2), (464, .iconst 1, 1), (465, .iadd, 1), (466, .iaload, 1), (467, .aload_n 3, 1), (468, .invokestatic 93, 3), (471, .istore 5, 2), (473, .aload_n 2, 1)]
theorem tL_law_3_ok : tL_law_3.all (fun q => decide (decode cL_law q.1 = .ok q.2)) = true := by decide +kernel
theorem dL_law_383 : decode cL_law 383 = .ok (.lcmp, 1) := td tL_law_3_ok 0 (q := (383, .lcmp, 1)) rfl
theorem dL_law_384 : decode cL_law 384 = .ok (.ifCond .eq 5, 3) := td tL_law_3_ok 1 (q := (384, .ifCond .eq 5, 3)) rfl
theorem dL_law_387 : decode cL_law 387 = .ok (.iconst 0, 1) := td tL_law_3_ok 2 (q := (387, .iconst 0, 1)) rfl
theorem dL_law_388 : decode cL_law 388 = .ok (.ireturn, 1) := td tL_law_3_ok 3 (q := (388, .ireturn, 1)) rfl
theorem dL_law_389 : decode cL_law 389 = .ok (.goto 891, 3) := td tL_law_3_ok 4 (q := (389, .goto 891, 3)) rfl
theorem dL_law_392 : decode cL_law 392 = .ok (.aload_n 1, 1) := td tL_law_3_ok 5 (q := (392, .aload_n 1, 1)) rfl
theorem dL_law_393 : decode cL_law 393 = .ok (.aload_n 0, 1) := td tL_law_3_ok 6 (q := (393, .aload_n 0, 1)) rfl
theorem dL_law_394 : decode cL_law 394 = .ok (.iload 4, 2) := td tL_law_3_ok 7 (q := (394, .iload 4, 2)) rfl
theorem dL_law_396 : decode cL_law 396 = .ok (.iconst 1, 1) := td tL_law_3_ok 8 (q := (396, .iconst 1, 1)) rfl
theorem dL_law_397 : decode cL_law 397 = .ok (.iadd, 1) := td tL_law_3_ok 9 (q := (397, .iadd, 1)) rfl
theorem dL_law_398 : decode cL_law 398 = .ok (.iaload, 1) := td tL_law_3_ok 10 (q := (398, .iaload, 1)) rfl
theorem dL_law_399 : decode cL_law 399 = .ok (.aload_n 0, 1) := td tL_law_3_ok 11 (q := (399, .aload_n 0, 1)) rfl
theorem dL_law_400 : decode cL_law 400 = .ok (.iload 4, 2) := td tL_law_3_ok 12 (q := (400, .iload 4, 2)) rfl
theorem dL_law_402 : decode cL_law 402 = .ok (.iconst 2, 1) := td tL_law_3_ok 13 (q := (402, .iconst 2, 1)) rfl
theorem dL_law_403 : decode cL_law 403 = .ok (.iadd, 1) := td tL_law_3_ok 14 (q := (403, .iadd, 1)) rfl
theorem dL_law_404 : decode cL_law 404 = .ok (.iaload, 1) := td tL_law_3_ok 15 (q := (404, .iaload, 1)) rfl
theorem dL_law_405 : decode cL_law 405 = .ok (.aload_n 3, 1) := td tL_law_3_ok 16 (q := (405, .aload_n 3, 1)) rfl
theorem dL_law_406 : decode cL_law 406 = .ok (.invokestatic 90, 3) := td tL_law_3_ok 17 (q := (406, .invokestatic 90, 3)) rfl
theorem dL_law_409 : decode cL_law 409 = .ok (.istore 5, 2) := td tL_law_3_ok 18 (q := (409, .istore 5, 2)) rfl
theorem dL_law_411 : decode cL_law 411 = .ok (.aload_n 2, 1) := td tL_law_3_ok 19 (q := (411, .aload_n 2, 1)) rfl
theorem dL_law_412 : decode cL_law 412 = .ok (.aload_n 0, 1) := td tL_law_3_ok 20 (q := (412, .aload_n 0, 1)) rfl
theorem dL_law_413 : decode cL_law 413 = .ok (.iload 4, 2) := td tL_law_3_ok 21 (q := (413, .iload 4, 2)) rfl
theorem dL_law_415 : decode cL_law 415 = .ok (.iconst 1, 1) := td tL_law_3_ok 22 (q := (415, .iconst 1, 1)) rfl
theorem dL_law_416 : decode cL_law 416 = .ok (.iadd, 1) := td tL_law_3_ok 23 (q := (416, .iadd, 1)) rfl
theorem dL_law_417 : decode cL_law 417 = .ok (.iaload, 1) := td tL_law_3_ok 24 (q := (417, .iaload, 1)) rfl
theorem dL_law_418 : decode cL_law 418 = .ok (.aload_n 0, 1) := td tL_law_3_ok 25 (q := (418, .aload_n 0, 1)) rfl
theorem dL_law_419 : decode cL_law 419 = .ok (.iload 4, 2) := td tL_law_3_ok 26 (q := (419, .iload 4, 2)) rfl
theorem dL_law_421 : decode cL_law 421 = .ok (.iconst 2, 1) := td tL_law_3_ok 27 (q := (421, .iconst 2, 1)) rfl
theorem dL_law_422 : decode cL_law 422 = .ok (.iadd, 1) := td tL_law_3_ok 28 (q := (422, .iadd, 1)) rfl
theorem dL_law_423 : decode cL_law 423 = .ok (.iaload, 1) := td tL_law_3_ok 29 (q := (423, .iaload, 1)) rfl
theorem dL_law_424 : decode cL_law 424 = .ok (.invokevirtual 92, 3) := td tL_law_3_ok 30 (q := (424, .invokevirtual 92, 3)) rfl
theorem dL_law_427 : decode cL_law 427 = .ok (.istore 6, 2) := td tL_law_3_ok 31 (q := (427, .istore 6, 2)) rfl
theorem dL_law_429 : decode cL_law 429 = .ok (.aload_n 2, 1) := td tL_law_3_ok 32 (q := (429, .aload_n 2, 1)) rfl
theorem dL_law_430 : decode cL_law 430 = .ok (.invokevirtual 77, 3) := td tL_law_3_ok 33 (q := (430, .invokevirtual 77, 3)) rfl
theorem dL_law_433 : decode cL_law 433 = .ok (.iload 5, 2) := td tL_law_3_ok 34 (q := (433, .iload 5, 2)) rfl
theorem dL_law_435 : decode cL_law 435 = .ok (.if_icmp .eq 5, 3) := td tL_law_3_ok 35 (q := (435, .if_icmp .eq 5, 3)) rfl
theorem dL_law_438 : decode cL_law 438 = .ok (.iconst 0, 1) := td tL_law_3_ok 36 (q := (438, .iconst 0, 1)) rfl
theorem dL_law_439 : decode cL_law 439 = .ok (.ireturn, 1) := td tL_law_3_ok 37 (q := (439, .ireturn, 1)) rfl
theorem dL_law_440 : decode cL_law 440 = .ok (.iload 5, 2) := td tL_law_3_ok 38 (q := (440, .iload 5, 2)) rfl
theorem dL_law_442 : decode cL_law 442 = .ok (.ifCond .ne 15, 3) := td tL_law_3_ok 39 (q := (442, .ifCond .ne 15, 3)) rfl
theorem dL_law_445 : decode cL_law 445 = .ok (.aload_n 3, 1) := td tL_law_3_ok 40 (q := (445, .aload_n 3, 1)) rfl
theorem dL_law_446 : decode cL_law 446 = .ok (.iconst 0, 1) := td tL_law_3_ok 41 (q := (446, .iconst 0, 1)) rfl
theorem dL_law_447 : decode cL_law 447 = .ok (.laload, 1) := td tL_law_3_ok 42 (q := (447, .laload, 1)) rfl
theorem dL_law_448 : decode cL_law 448 = .ok (.iload 6, 2) := td tL_law_3_ok 43 (q := (448, .iload 6, 2)) rfl
theorem dL_law_450 : decode cL_law 450 = .ok (.i2l, 1) := td tL_law_3_ok 44 (q := (450, .i2l, 1)) rfl
theorem dL_law_451 : decode cL_law 451 = .ok (.lcmp, 1) := td tL_law_3_ok 45 (q := (451, .lcmp, 1)) rfl
theorem dL_law_452 : decode cL_law 452 = .ok (.ifCond .eq 5, 3) := td tL_law_3_ok 46 (q := (452, .ifCond .eq 5, 3)) rfl
theorem dL_law_455 : decode cL_law 455 = .ok (.iconst 0, 1) := td tL_law_3_ok 47 (q := (455, .iconst 0, 1)) rfl
theorem dL_law_456 : decode cL_law 456 = .ok (.ireturn, 1) := td tL_law_3_ok 48 (q := (456, .ireturn, 1)) rfl
theorem dL_law_457 : decode cL_law 457 = .ok (.goto 823, 3) := td tL_law_3_ok 49 (q := (457, .goto 823, 3)) rfl
theorem dL_law_460 : decode cL_law 460 = .ok (.aload_n 1, 1) := td tL_law_3_ok 50 (q := (460, .aload_n 1, 1)) rfl
theorem dL_law_461 : decode cL_law 461 = .ok (.aload_n 0, 1) := td tL_law_3_ok 51 (q := (461, .aload_n 0, 1)) rfl
theorem dL_law_462 : decode cL_law 462 = .ok (.iload 4, 2) := td tL_law_3_ok 52 (q := (462, .iload 4, 2)) rfl
theorem dL_law_464 : decode cL_law 464 = .ok (.iconst 1, 1) := td tL_law_3_ok 53 (q := (464, .iconst 1, 1)) rfl
theorem dL_law_465 : decode cL_law 465 = .ok (.iadd, 1) := td tL_law_3_ok 54 (q := (465, .iadd, 1)) rfl
theorem dL_law_466 : decode cL_law 466 = .ok (.iaload, 1) := td tL_law_3_ok 55 (q := (466, .iaload, 1)) rfl
theorem dL_law_467 : decode cL_law 467 = .ok (.aload_n 3, 1) := td tL_law_3_ok 56 (q := (467, .aload_n 3, 1)) rfl
theorem dL_law_468 : decode cL_law 468 = .ok (.invokestatic 93, 3) := td tL_law_3_ok 57 (q := (468, .invokestatic 93, 3)) rfl
theorem dL_law_471 : decode cL_law 471 = .ok (.istore 5, 2) := td tL_law_3_ok 58 (q := (471, .istore 5, 2)) rfl
theorem dL_law_473 : decode cL_law 473 = .ok (.aload_n 2, 1) := td tL_law_3_ok 59 (q := (473, .aload_n 2, 1)) rfl
def tL_law_4 : List (Nat × Instr × Nat) := [(474, .aload_n 0, 1), (475, .iload 4, 2), (477, .iconst 1, 1), (478, .iadd, 1), (479, .iaload, 1), (480, .invokevirtual 95, 3), (483, .istore 6, 2), (485, .aload_n 2, 1), (486, .invokevirtual 77, 3), (489, .iload 5, 2), (491, .if_icmp .eq 5, 3), (494, .iconst 0, 1), (495, .ireturn, 1), (496, .iload 5, 2), (498, .ifCond .ne 15, 3), (501, .aload_n 3, 1), (502, .iconst 0, 1), (503, .laload, 1), (504, .iload 6, 2), (506, .i2l, 1), (507, .lcmp, 1), (508, .ifCond .eq 5, 3), (511, .iconst 0, 1), (512, .ireturn, 1), (513, .goto 767, 3), (516, .aload_n 1, 1), (517, .invokevirtual 96, 3), (520, .aload_n 2, 1), (521, .invokevirtual 99, 3), (524, .if_icmp .eq 756, 3), (527, .iconst 0, 1), (528, .ireturn, 1), (529, .aload_n 1, 1), (530, .aload_n 0, 1), (531, .iload 4, 2), (533, .iconst 1, 1), (534, .iadd, 1), (535, .iaload, 1), (536, .aload_n 3, 1), (537, .invokestatic 100, 3), (540, .istore 5, 2), (542, .aload_n 2, 1), (543, .aload_n 0, 1), (544, .iload 4, 2), (546, .iconst 1, 1), (547, .iadd, 1), (548, .iaload, 1), (549, .invokevirtual 102, 3), (552, .istore 6, 2), (554, .aload_n 2, 1), (555, .invokevirtual 77, 3), (558, .iload 5, 2), (560, .if_icmp .eq 5, 3), (563, .iconst 0, 1), (564, .ireturn, 1), (565, .iload 5, 2), (567, .ifCond .ne 15, 3), (570, .aload_n 3, 1), (571, .iconst 0, 1), (572, .laload, 1)]
theorem tL_law_4_ok : tL_law_4.all (fun q => decide (decode cL_law q.1 = .ok q.2)) = true := by decide +kernel
theorem dL_law_474 : decode cL_law 474 = .ok (.aload_n 0, 1) := td tL_law_4_ok 0 (q := (474, .aload_n 0, 1)) rfl
theorem dL_law_475 : decode cL_law 475 = .ok (.iload 4, 2) := td tL_law_4_ok 1 (q := (475, .iload 4, 2)) rfl
theorem dL_law_477 : decode cL_law 477 = .ok (.iconst 1, 1) := td tL_law_4_ok 2 (q := (477, .iconst 1, 1)) rfl
theorem dL_law_478 : decode cL_law 478 = .ok (.iadd, 1) := td tL_law_4_ok 3 (q := (478, .iadd, 1)) rfl
theorem dL_law_479 : decode cL_law 479 = .ok (.iaload, 1) := td tL_law_4_ok 4 (q := (479, .iaload, 1)) rfl
theorem dL_law_480 : decode cL_law 480 = .ok (.invokevirtual 95, 3) := td tL_law_4_ok 5 (q := (480, .invokevirtual 95, 3)) rfl
theorem dL_law_483 : decode cL_law 483 = .ok (.istore 6, 2) := td tL_law_4_ok 6 (q := (483, .istore 6, 2)) rfl
theorem dL_law_485 : decode cL_law 485 = .ok (.aload_n 2, 1) := td tL_law_4_ok 7 (q := (485, .aload_n 2, 1)) rfl
theorem dL_law_486 : decode cL_law 486 = .ok (.invokevirtual 77, 3) := td tL_law_4_ok 8 (q := (486, .invokevirtual 77, 3)) rfl
theorem dL_law_489 : decode cL_law 489 = .ok (.iload 5, 2) := td tL_law_4_ok 9 (q := (489, .iload 5, 2)) rfl
theorem dL_law_491 : decode cL_law 491 = .ok (.if_icmp .eq 5, 3) := td tL_law_4_ok 10 (q := (491, .if_icmp .eq 5, 3)) rfl
theorem dL_law_494 : decode cL_law 494 = .ok (.iconst 0, 1) := td tL_law_4_ok 11 (q := (494, .iconst 0, 1)) rfl
theorem dL_law_495 : decode cL_law 495 = .ok (.ireturn, 1) := td tL_law_4_ok 12 (q := (495, .ireturn, 1)) rfl
theorem dL_law_496 : decode cL_law 496 = .ok (.iload 5, 2) := td tL_law_4_ok 13 (q := (496, .iload 5, 2)) rfl
theorem dL_law_498 : decode cL_law 498 = .ok (.ifCond .ne 15, 3) := td tL_law_4_ok 14 (q := (498, .ifCond .ne 15, 3)) rfl
theorem dL_law_501 : decode cL_law 501 = .ok (.aload_n 3, 1) := td tL_law_4_ok 15 (q := (501, .aload_n 3, 1)) rfl
theorem dL_law_502 : decode cL_law 502 = .ok (.iconst 0, 1) := td tL_law_4_ok 16 (q := (502, .iconst 0, 1)) rfl
theorem dL_law_503 : decode cL_law 503 = .ok (.laload, 1) := td tL_law_4_ok 17 (q := (503, .laload, 1)) rfl
theorem dL_law_504 : decode cL_law 504 = .ok (.iload 6, 2) := td tL_law_4_ok 18 (q := (504, .iload 6, 2)) rfl
theorem dL_law_506 : decode cL_law 506 = .ok (.i2l, 1) := td tL_law_4_ok 19 (q := (506, .i2l, 1)) rfl
theorem dL_law_507 : decode cL_law 507 = .ok (.lcmp, 1) := td tL_law_4_ok 20 (q := (507, .lcmp, 1)) rfl
theorem dL_law_508 : decode cL_law 508 = .ok (.ifCond .eq 5, 3) := td tL_law_4_ok 21 (q := (508, .ifCond .eq 5, 3)) rfl
theorem dL_law_511 : decode cL_law 511 = .ok (.iconst 0, 1) := td tL_law_4_ok 22 (q := (511, .iconst 0, 1)) rfl
theorem dL_law_512 : decode cL_law 512 = .ok (.ireturn, 1) := td tL_law_4_ok 23 (q := (512, .ireturn, 1)) rfl
theorem dL_law_513 : decode cL_law 513 = .ok (.goto 767, 3) := td tL_law_4_ok 24 (q := (513, .goto 767, 3)) rfl
theorem dL_law_516 : decode cL_law 516 = .ok (.aload_n 1, 1) := td tL_law_4_ok 25 (q := (516, .aload_n 1, 1)) rfl
theorem dL_law_517 : decode cL_law 517 = .ok (.invokevirtual 96, 3) := td tL_law_4_ok 26 (q := (517, .invokevirtual 96, 3)) rfl
theorem dL_law_520 : decode cL_law 520 = .ok (.aload_n 2, 1) := td tL_law_4_ok 27 (q := (520, .aload_n 2, 1)) rfl
theorem dL_law_521 : decode cL_law 521 = .ok (.invokevirtual 99, 3) := td tL_law_4_ok 28 (q := (521, .invokevirtual 99, 3)) rfl
theorem dL_law_524 : decode cL_law 524 = .ok (.if_icmp .eq 756, 3) := td tL_law_4_ok 29 (q := (524, .if_icmp .eq 756, 3)) rfl
theorem dL_law_527 : decode cL_law 527 = .ok (.iconst 0, 1) := td tL_law_4_ok 30 (q := (527, .iconst 0, 1)) rfl
theorem dL_law_528 : decode cL_law 528 = .ok (.ireturn, 1) := td tL_law_4_ok 31 (q := (528, .ireturn, 1)) rfl
theorem dL_law_529 : decode cL_law 529 = .ok (.aload_n 1, 1) := td tL_law_4_ok 32 (q := (529, .aload_n 1, 1)) rfl
theorem dL_law_530 : decode cL_law 530 = .ok (.aload_n 0, 1) := td tL_law_4_ok 33 (q := (530, .aload_n 0, 1)) rfl
theorem dL_law_531 : decode cL_law 531 = .ok (.iload 4, 2) := td tL_law_4_ok 34 (q := (531, .iload 4, 2)) rfl
theorem dL_law_533 : decode cL_law 533 = .ok (.iconst 1, 1) := td tL_law_4_ok 35 (q := (533, .iconst 1, 1)) rfl
theorem dL_law_534 : decode cL_law 534 = .ok (.iadd, 1) := td tL_law_4_ok 36 (q := (534, .iadd, 1)) rfl
theorem dL_law_535 : decode cL_law 535 = .ok (.iaload, 1) := td tL_law_4_ok 37 (q := (535, .iaload, 1)) rfl
theorem dL_law_536 : decode cL_law 536 = .ok (.aload_n 3, 1) := td tL_law_4_ok 38 (q := (536, .aload_n 3, 1)) rfl
theorem dL_law_537 : decode cL_law 537 = .ok (.invokestatic 100, 3) := td tL_law_4_ok 39 (q := (537, .invokestatic 100, 3)) rfl
theorem dL_law_540 : decode cL_law 540 = .ok (.istore 5, 2) := td tL_law_4_ok 40 (q := (540, .istore 5, 2)) rfl
theorem dL_law_542 : decode cL_law 542 = .ok (.aload_n 2, 1) := td tL_law_4_ok 41 (q := (542, .aload_n 2, 1)) rfl
theorem dL_law_543 : decode cL_law 543 = .ok (.aload_n 0, 1) := td tL_law_4_ok 42 (q := (543, .aload_n 0, 1)) rfl
theorem dL_law_544 : decode cL_law 544 = .ok (.iload 4, 2) := td tL_law_4_ok 43 (q := (544, .iload 4, 2)) rfl
theorem dL_law_546 : decode cL_law 546 = .ok (.iconst 1, 1) := td tL_law_4_ok 44 (q := (546, .iconst 1, 1)) rfl
theorem dL_law_547 : decode cL_law 547 = .ok (.iadd, 1) := td tL_law_4_ok 45 (q := (547, .iadd, 1)) rfl
theorem dL_law_548 : decode cL_law 548 = .ok (.iaload, 1) := td tL_law_4_ok 46 (q := (548, .iaload, 1)) rfl
theorem dL_law_549 : decode cL_law 549 = .ok (.invokevirtual 102, 3) := td tL_law_4_ok 47 (q := (549, .invokevirtual 102, 3)) rfl
theorem dL_law_552 : decode cL_law 552 = .ok (.istore 6, 2) := td tL_law_4_ok 48 (q := (552, .istore 6, 2)) rfl
theorem dL_law_554 : decode cL_law 554 = .ok (.aload_n 2, 1) := td tL_law_4_ok 49 (q := (554, .aload_n 2, 1)) rfl
theorem dL_law_555 : decode cL_law 555 = .ok (.invokevirtual 77, 3) := td tL_law_4_ok 50 (q := (555, .invokevirtual 77, 3)) rfl
theorem dL_law_558 : decode cL_law 558 = .ok (.iload 5, 2) := td tL_law_4_ok 51 (q := (558, .iload 5, 2)) rfl
theorem dL_law_560 : decode cL_law 560 = .ok (.if_icmp .eq 5, 3) := td tL_law_4_ok 52 (q := (560, .if_icmp .eq 5, 3)) rfl
theorem dL_law_563 : decode cL_law 563 = .ok (.iconst 0, 1) := td tL_law_4_ok 53 (q := (563, .iconst 0, 1)) rfl
theorem dL_law_564 : decode cL_law 564 = .ok (.ireturn, 1) := td tL_law_4_ok 54 (q := (564, .ireturn, 1)) rfl
theorem dL_law_565 : decode cL_law 565 = .ok (.iload 5, 2) := td tL_law_4_ok 55 (q := (565, .iload 5, 2)) rfl
theorem dL_law_567 : decode cL_law 567 = .ok (.ifCond .ne 15, 3) := td tL_law_4_ok 56 (q := (567, .ifCond .ne 15, 3)) rfl
theorem dL_law_570 : decode cL_law 570 = .ok (.aload_n 3, 1) := td tL_law_4_ok 57 (q := (570, .aload_n 3, 1)) rfl
theorem dL_law_571 : decode cL_law 571 = .ok (.iconst 0, 1) := td tL_law_4_ok 58 (q := (571, .iconst 0, 1)) rfl
theorem dL_law_572 : decode cL_law 572 = .ok (.laload, 1) := td tL_law_4_ok 59 (q := (572, .laload, 1)) rfl
def tL_law_5 : List (Nat × Instr × Nat) := [(573, .iload 6, 2), (575, .i2l, 1), (576, .lcmp, 1), (577, .ifCond .eq 5, 3), (580, .iconst 0, 1), (581, .ireturn, 1), (582, .goto 698, 3), (585, .aload_n 1, 1), (586, .invokevirtual 103, 3), (589, .aload_n 2, 1), (590, .invokevirtual 106, 3), (593, .if_icmp .eq 687, 3), (596, .iconst 0, 1), (597, .ireturn, 1), (598, .aload_n 1, 1), (599, .invokevirtual 107, 3), (602, .aload_n 2, 1), (603, .invokevirtual 110, 3), (606, .if_icmp .eq 674, 3), (609, .iconst 0, 1), (610, .ireturn, 1), (611, .aload_n 1, 1), (612, .aload_n 3, 1), (613, .invokestatic 111, 3), (616, .istore 5, 2), (618, .aload_n 2, 1), (619, .invokevirtual 114, 3), (622, .istore 6, 2), (624, .aload_n 2, 1), (625, .invokevirtual 77, 3), (628, .iload 5, 2), (630, .if_icmp .eq 5, 3), (633, .iconst 0, 1), (634, .ireturn, 1), (635, .iload 5, 2), (637, .ifCond .ne 15, 3), (640, .aload_n 3, 1), (641, .iconst 0, 1), (642, .laload, 1), (643, .iload 6, 2), (645, .i2l, 1), (646, .lcmp, 1), (647, .ifCond .eq 5, 3), (650, .iconst 0, 1), (651, .ireturn, 1), (652, .goto 628, 3), (655, .aload_n 1, 1), (656, .aload_n 0, 1), (657, .iload 4, 2), (659, .iconst 1, 1), (660, .iadd, 1), (661, .iaload, 1), (662, .aload_n 0, 1), (663, .iload 4, 2), (665, .iconst 2, 1), (666, .iadd, 1), (667, .iaload, 1), (668, .aload_n 3, 1), (669, .invokestatic 115, 3), (672, .istore 5, 2)]
theorem tL_law_5_ok : tL_law_5.all (fun q => decide (decode cL_law q.1 = .ok q.2)) = true := by decide +kernel
theorem dL_law_573 : decode cL_law 573 = .ok (.iload 6, 2) := td tL_law_5_ok 0 (q := (573, .iload 6, 2)) rfl
theorem dL_law_575 : decode cL_law 575 = .ok (.i2l, 1) := td tL_law_5_ok 1 (q := (575, .i2l, 1)) rfl
theorem dL_law_576 : decode cL_law 576 = .ok (.lcmp, 1) := td tL_law_5_ok 2 (q := (576, .lcmp, 1)) rfl
theorem dL_law_577 : decode cL_law 577 = .ok (.ifCond .eq 5, 3) := td tL_law_5_ok 3 (q := (577, .ifCond .eq 5, 3)) rfl
theorem dL_law_580 : decode cL_law 580 = .ok (.iconst 0, 1) := td tL_law_5_ok 4 (q := (580, .iconst 0, 1)) rfl
theorem dL_law_581 : decode cL_law 581 = .ok (.ireturn, 1) := td tL_law_5_ok 5 (q := (581, .ireturn, 1)) rfl
theorem dL_law_582 : decode cL_law 582 = .ok (.goto 698, 3) := td tL_law_5_ok 6 (q := (582, .goto 698, 3)) rfl
theorem dL_law_585 : decode cL_law 585 = .ok (.aload_n 1, 1) := td tL_law_5_ok 7 (q := (585, .aload_n 1, 1)) rfl
theorem dL_law_586 : decode cL_law 586 = .ok (.invokevirtual 103, 3) := td tL_law_5_ok 8 (q := (586, .invokevirtual 103, 3)) rfl
theorem dL_law_589 : decode cL_law 589 = .ok (.aload_n 2, 1) := td tL_law_5_ok 9 (q := (589, .aload_n 2, 1)) rfl
theorem dL_law_590 : decode cL_law 590 = .ok (.invokevirtual 106, 3) := td tL_law_5_ok 10 (q := (590, .invokevirtual 106, 3)) rfl
theorem dL_law_593 : decode cL_law 593 = .ok (.if_icmp .eq 687, 3) := td tL_law_5_ok 11 (q := (593, .if_icmp .eq 687, 3)) rfl
theorem dL_law_596 : decode cL_law 596 = .ok (.iconst 0, 1) := td tL_law_5_ok 12 (q := (596, .iconst 0, 1)) rfl
theorem dL_law_597 : decode cL_law 597 = .ok (.ireturn, 1) := td tL_law_5_ok 13 (q := (597, .ireturn, 1)) rfl
theorem dL_law_598 : decode cL_law 598 = .ok (.aload_n 1, 1) := td tL_law_5_ok 14 (q := (598, .aload_n 1, 1)) rfl
theorem dL_law_599 : decode cL_law 599 = .ok (.invokevirtual 107, 3) := td tL_law_5_ok 15 (q := (599, .invokevirtual 107, 3)) rfl
theorem dL_law_602 : decode cL_law 602 = .ok (.aload_n 2, 1) := td tL_law_5_ok 16 (q := (602, .aload_n 2, 1)) rfl
theorem dL_law_603 : decode cL_law 603 = .ok (.invokevirtual 110, 3) := td tL_law_5_ok 17 (q := (603, .invokevirtual 110, 3)) rfl
theorem dL_law_606 : decode cL_law 606 = .ok (.if_icmp .eq 674, 3) := td tL_law_5_ok 18 (q := (606, .if_icmp .eq 674, 3)) rfl
theorem dL_law_609 : decode cL_law 609 = .ok (.iconst 0, 1) := td tL_law_5_ok 19 (q := (609, .iconst 0, 1)) rfl
theorem dL_law_610 : decode cL_law 610 = .ok (.ireturn, 1) := td tL_law_5_ok 20 (q := (610, .ireturn, 1)) rfl
theorem dL_law_611 : decode cL_law 611 = .ok (.aload_n 1, 1) := td tL_law_5_ok 21 (q := (611, .aload_n 1, 1)) rfl
theorem dL_law_612 : decode cL_law 612 = .ok (.aload_n 3, 1) := td tL_law_5_ok 22 (q := (612, .aload_n 3, 1)) rfl
theorem dL_law_613 : decode cL_law 613 = .ok (.invokestatic 111, 3) := td tL_law_5_ok 23 (q := (613, .invokestatic 111, 3)) rfl
theorem dL_law_616 : decode cL_law 616 = .ok (.istore 5, 2) := td tL_law_5_ok 24 (q := (616, .istore 5, 2)) rfl
theorem dL_law_618 : decode cL_law 618 = .ok (.aload_n 2, 1) := td tL_law_5_ok 25 (q := (618, .aload_n 2, 1)) rfl
theorem dL_law_619 : decode cL_law 619 = .ok (.invokevirtual 114, 3) := td tL_law_5_ok 26 (q := (619, .invokevirtual 114, 3)) rfl
theorem dL_law_622 : decode cL_law 622 = .ok (.istore 6, 2) := td tL_law_5_ok 27 (q := (622, .istore 6, 2)) rfl
theorem dL_law_624 : decode cL_law 624 = .ok (.aload_n 2, 1) := td tL_law_5_ok 28 (q := (624, .aload_n 2, 1)) rfl
theorem dL_law_625 : decode cL_law 625 = .ok (.invokevirtual 77, 3) := td tL_law_5_ok 29 (q := (625, .invokevirtual 77, 3)) rfl
theorem dL_law_628 : decode cL_law 628 = .ok (.iload 5, 2) := td tL_law_5_ok 30 (q := (628, .iload 5, 2)) rfl
theorem dL_law_630 : decode cL_law 630 = .ok (.if_icmp .eq 5, 3) := td tL_law_5_ok 31 (q := (630, .if_icmp .eq 5, 3)) rfl
theorem dL_law_633 : decode cL_law 633 = .ok (.iconst 0, 1) := td tL_law_5_ok 32 (q := (633, .iconst 0, 1)) rfl
theorem dL_law_634 : decode cL_law 634 = .ok (.ireturn, 1) := td tL_law_5_ok 33 (q := (634, .ireturn, 1)) rfl
theorem dL_law_635 : decode cL_law 635 = .ok (.iload 5, 2) := td tL_law_5_ok 34 (q := (635, .iload 5, 2)) rfl
theorem dL_law_637 : decode cL_law 637 = .ok (.ifCond .ne 15, 3) := td tL_law_5_ok 35 (q := (637, .ifCond .ne 15, 3)) rfl
theorem dL_law_640 : decode cL_law 640 = .ok (.aload_n 3, 1) := td tL_law_5_ok 36 (q := (640, .aload_n 3, 1)) rfl
theorem dL_law_641 : decode cL_law 641 = .ok (.iconst 0, 1) := td tL_law_5_ok 37 (q := (641, .iconst 0, 1)) rfl
theorem dL_law_642 : decode cL_law 642 = .ok (.laload, 1) := td tL_law_5_ok 38 (q := (642, .laload, 1)) rfl
theorem dL_law_643 : decode cL_law 643 = .ok (.iload 6, 2) := td tL_law_5_ok 39 (q := (643, .iload 6, 2)) rfl
theorem dL_law_645 : decode cL_law 645 = .ok (.i2l, 1) := td tL_law_5_ok 40 (q := (645, .i2l, 1)) rfl
theorem dL_law_646 : decode cL_law 646 = .ok (.lcmp, 1) := td tL_law_5_ok 41 (q := (646, .lcmp, 1)) rfl
theorem dL_law_647 : decode cL_law 647 = .ok (.ifCond .eq 5, 3) := td tL_law_5_ok 42 (q := (647, .ifCond .eq 5, 3)) rfl
theorem dL_law_650 : decode cL_law 650 = .ok (.iconst 0, 1) := td tL_law_5_ok 43 (q := (650, .iconst 0, 1)) rfl
theorem dL_law_651 : decode cL_law 651 = .ok (.ireturn, 1) := td tL_law_5_ok 44 (q := (651, .ireturn, 1)) rfl
theorem dL_law_652 : decode cL_law 652 = .ok (.goto 628, 3) := td tL_law_5_ok 45 (q := (652, .goto 628, 3)) rfl
theorem dL_law_655 : decode cL_law 655 = .ok (.aload_n 1, 1) := td tL_law_5_ok 46 (q := (655, .aload_n 1, 1)) rfl
theorem dL_law_656 : decode cL_law 656 = .ok (.aload_n 0, 1) := td tL_law_5_ok 47 (q := (656, .aload_n 0, 1)) rfl
theorem dL_law_657 : decode cL_law 657 = .ok (.iload 4, 2) := td tL_law_5_ok 48 (q := (657, .iload 4, 2)) rfl
theorem dL_law_659 : decode cL_law 659 = .ok (.iconst 1, 1) := td tL_law_5_ok 49 (q := (659, .iconst 1, 1)) rfl
theorem dL_law_660 : decode cL_law 660 = .ok (.iadd, 1) := td tL_law_5_ok 50 (q := (660, .iadd, 1)) rfl
theorem dL_law_661 : decode cL_law 661 = .ok (.iaload, 1) := td tL_law_5_ok 51 (q := (661, .iaload, 1)) rfl
theorem dL_law_662 : decode cL_law 662 = .ok (.aload_n 0, 1) := td tL_law_5_ok 52 (q := (662, .aload_n 0, 1)) rfl
theorem dL_law_663 : decode cL_law 663 = .ok (.iload 4, 2) := td tL_law_5_ok 53 (q := (663, .iload 4, 2)) rfl
theorem dL_law_665 : decode cL_law 665 = .ok (.iconst 2, 1) := td tL_law_5_ok 54 (q := (665, .iconst 2, 1)) rfl
theorem dL_law_666 : decode cL_law 666 = .ok (.iadd, 1) := td tL_law_5_ok 55 (q := (666, .iadd, 1)) rfl
theorem dL_law_667 : decode cL_law 667 = .ok (.iaload, 1) := td tL_law_5_ok 56 (q := (667, .iaload, 1)) rfl
theorem dL_law_668 : decode cL_law 668 = .ok (.aload_n 3, 1) := td tL_law_5_ok 57 (q := (668, .aload_n 3, 1)) rfl
theorem dL_law_669 : decode cL_law 669 = .ok (.invokestatic 115, 3) := td tL_law_5_ok 58 (q := (669, .invokestatic 115, 3)) rfl
theorem dL_law_672 : decode cL_law 672 = .ok (.istore 5, 2) := td tL_law_5_ok 59 (q := (672, .istore 5, 2)) rfl
def tL_law_6 : List (Nat × Instr × Nat) := [(674, .aload_n 2, 1), (675, .aload_n 0, 1), (676, .iload 4, 2), (678, .iconst 1, 1), (679, .iadd, 1), (680, .iaload, 1), (681, .aload_n 0, 1), (682, .iload 4, 2), (684, .iconst 2, 1), (685, .iadd, 1), (686, .iaload, 1), (687, .invokevirtual 117, 3), (690, .istore 6, 2), (692, .aload_n 2, 1), (693, .invokevirtual 77, 3), (696, .iload 5, 2), (698, .if_icmp .eq 5, 3), (701, .iconst 0, 1), (702, .ireturn, 1), (703, .iload 5, 2), (705, .ifCond .ne 15, 3), (708, .aload_n 3, 1), (709, .iconst 0, 1), (710, .laload, 1), (711, .iload 6, 2), (713, .i2l, 1), (714, .lcmp, 1), (715, .ifCond .eq 5, 3), (718, .iconst 0, 1), (719, .ireturn, 1), (720, .goto 560, 3), (723, .aload_n 1, 1), (724, .aload_n 0, 1), (725, .iload 4, 2), (727, .iconst 1, 1), (728, .iadd, 1), (729, .iaload, 1), (730, .aload_n 0, 1), (731, .iload 4, 2), (733, .iconst 2, 1), (734, .iadd, 1), (735, .iaload, 1), (736, .aload_n 0, 1), (737, .iload 4, 2), (739, .iconst 3, 1), (740, .iadd, 1), (741, .iaload, 1), (742, .aload_n 3, 1), (743, .invokestatic 118, 3), (746, .istore 5, 2), (748, .aload_n 2, 1), (749, .aload_n 0, 1), (750, .iload 4, 2), (752, .iconst 1, 1), (753, .iadd, 1), (754, .iaload, 1), (755, .aload_n 0, 1), (756, .iload 4, 2), (758, .iconst 2, 1), (759, .iadd, 1)]
theorem tL_law_6_ok : tL_law_6.all (fun q => decide (decode cL_law q.1 = .ok q.2)) = true := by decide +kernel
theorem dL_law_674 : decode cL_law 674 = .ok (.aload_n 2, 1) := td tL_law_6_ok 0 (q := (674, .aload_n 2, 1)) rfl
theorem dL_law_675 : decode cL_law 675 = .ok (.aload_n 0, 1) := td tL_law_6_ok 1 (q := (675, .aload_n 0, 1)) rfl
theorem dL_law_676 : decode cL_law 676 = .ok (.iload 4, 2) := td tL_law_6_ok 2 (q := (676, .iload 4, 2)) rfl
theorem dL_law_678 : decode cL_law 678 = .ok (.iconst 1, 1) := td tL_law_6_ok 3 (q := (678, .iconst 1, 1)) rfl
theorem dL_law_679 : decode cL_law 679 = .ok (.iadd, 1) := td tL_law_6_ok 4 (q := (679, .iadd, 1)) rfl
theorem dL_law_680 : decode cL_law 680 = .ok (.iaload, 1) := td tL_law_6_ok 5 (q := (680, .iaload, 1)) rfl
theorem dL_law_681 : decode cL_law 681 = .ok (.aload_n 0, 1) := td tL_law_6_ok 6 (q := (681, .aload_n 0, 1)) rfl
theorem dL_law_682 : decode cL_law 682 = .ok (.iload 4, 2) := td tL_law_6_ok 7 (q := (682, .iload 4, 2)) rfl
theorem dL_law_684 : decode cL_law 684 = .ok (.iconst 2, 1) := td tL_law_6_ok 8 (q := (684, .iconst 2, 1)) rfl
theorem dL_law_685 : decode cL_law 685 = .ok (.iadd, 1) := td tL_law_6_ok 9 (q := (685, .iadd, 1)) rfl
theorem dL_law_686 : decode cL_law 686 = .ok (.iaload, 1) := td tL_law_6_ok 10 (q := (686, .iaload, 1)) rfl
theorem dL_law_687 : decode cL_law 687 = .ok (.invokevirtual 117, 3) := td tL_law_6_ok 11 (q := (687, .invokevirtual 117, 3)) rfl
theorem dL_law_690 : decode cL_law 690 = .ok (.istore 6, 2) := td tL_law_6_ok 12 (q := (690, .istore 6, 2)) rfl
theorem dL_law_692 : decode cL_law 692 = .ok (.aload_n 2, 1) := td tL_law_6_ok 13 (q := (692, .aload_n 2, 1)) rfl
theorem dL_law_693 : decode cL_law 693 = .ok (.invokevirtual 77, 3) := td tL_law_6_ok 14 (q := (693, .invokevirtual 77, 3)) rfl
theorem dL_law_696 : decode cL_law 696 = .ok (.iload 5, 2) := td tL_law_6_ok 15 (q := (696, .iload 5, 2)) rfl
theorem dL_law_698 : decode cL_law 698 = .ok (.if_icmp .eq 5, 3) := td tL_law_6_ok 16 (q := (698, .if_icmp .eq 5, 3)) rfl
theorem dL_law_701 : decode cL_law 701 = .ok (.iconst 0, 1) := td tL_law_6_ok 17 (q := (701, .iconst 0, 1)) rfl
theorem dL_law_702 : decode cL_law 702 = .ok (.ireturn, 1) := td tL_law_6_ok 18 (q := (702, .ireturn, 1)) rfl
theorem dL_law_703 : decode cL_law 703 = .ok (.iload 5, 2) := td tL_law_6_ok 19 (q := (703, .iload 5, 2)) rfl
theorem dL_law_705 : decode cL_law 705 = .ok (.ifCond .ne 15, 3) := td tL_law_6_ok 20 (q := (705, .ifCond .ne 15, 3)) rfl
theorem dL_law_708 : decode cL_law 708 = .ok (.aload_n 3, 1) := td tL_law_6_ok 21 (q := (708, .aload_n 3, 1)) rfl
theorem dL_law_709 : decode cL_law 709 = .ok (.iconst 0, 1) := td tL_law_6_ok 22 (q := (709, .iconst 0, 1)) rfl
theorem dL_law_710 : decode cL_law 710 = .ok (.laload, 1) := td tL_law_6_ok 23 (q := (710, .laload, 1)) rfl
theorem dL_law_711 : decode cL_law 711 = .ok (.iload 6, 2) := td tL_law_6_ok 24 (q := (711, .iload 6, 2)) rfl
theorem dL_law_713 : decode cL_law 713 = .ok (.i2l, 1) := td tL_law_6_ok 25 (q := (713, .i2l, 1)) rfl
theorem dL_law_714 : decode cL_law 714 = .ok (.lcmp, 1) := td tL_law_6_ok 26 (q := (714, .lcmp, 1)) rfl
theorem dL_law_715 : decode cL_law 715 = .ok (.ifCond .eq 5, 3) := td tL_law_6_ok 27 (q := (715, .ifCond .eq 5, 3)) rfl
theorem dL_law_718 : decode cL_law 718 = .ok (.iconst 0, 1) := td tL_law_6_ok 28 (q := (718, .iconst 0, 1)) rfl
theorem dL_law_719 : decode cL_law 719 = .ok (.ireturn, 1) := td tL_law_6_ok 29 (q := (719, .ireturn, 1)) rfl
theorem dL_law_720 : decode cL_law 720 = .ok (.goto 560, 3) := td tL_law_6_ok 30 (q := (720, .goto 560, 3)) rfl
theorem dL_law_723 : decode cL_law 723 = .ok (.aload_n 1, 1) := td tL_law_6_ok 31 (q := (723, .aload_n 1, 1)) rfl
theorem dL_law_724 : decode cL_law 724 = .ok (.aload_n 0, 1) := td tL_law_6_ok 32 (q := (724, .aload_n 0, 1)) rfl
theorem dL_law_725 : decode cL_law 725 = .ok (.iload 4, 2) := td tL_law_6_ok 33 (q := (725, .iload 4, 2)) rfl
theorem dL_law_727 : decode cL_law 727 = .ok (.iconst 1, 1) := td tL_law_6_ok 34 (q := (727, .iconst 1, 1)) rfl
theorem dL_law_728 : decode cL_law 728 = .ok (.iadd, 1) := td tL_law_6_ok 35 (q := (728, .iadd, 1)) rfl
theorem dL_law_729 : decode cL_law 729 = .ok (.iaload, 1) := td tL_law_6_ok 36 (q := (729, .iaload, 1)) rfl
theorem dL_law_730 : decode cL_law 730 = .ok (.aload_n 0, 1) := td tL_law_6_ok 37 (q := (730, .aload_n 0, 1)) rfl
theorem dL_law_731 : decode cL_law 731 = .ok (.iload 4, 2) := td tL_law_6_ok 38 (q := (731, .iload 4, 2)) rfl
theorem dL_law_733 : decode cL_law 733 = .ok (.iconst 2, 1) := td tL_law_6_ok 39 (q := (733, .iconst 2, 1)) rfl
theorem dL_law_734 : decode cL_law 734 = .ok (.iadd, 1) := td tL_law_6_ok 40 (q := (734, .iadd, 1)) rfl
theorem dL_law_735 : decode cL_law 735 = .ok (.iaload, 1) := td tL_law_6_ok 41 (q := (735, .iaload, 1)) rfl
theorem dL_law_736 : decode cL_law 736 = .ok (.aload_n 0, 1) := td tL_law_6_ok 42 (q := (736, .aload_n 0, 1)) rfl
theorem dL_law_737 : decode cL_law 737 = .ok (.iload 4, 2) := td tL_law_6_ok 43 (q := (737, .iload 4, 2)) rfl
theorem dL_law_739 : decode cL_law 739 = .ok (.iconst 3, 1) := td tL_law_6_ok 44 (q := (739, .iconst 3, 1)) rfl
theorem dL_law_740 : decode cL_law 740 = .ok (.iadd, 1) := td tL_law_6_ok 45 (q := (740, .iadd, 1)) rfl
theorem dL_law_741 : decode cL_law 741 = .ok (.iaload, 1) := td tL_law_6_ok 46 (q := (741, .iaload, 1)) rfl
theorem dL_law_742 : decode cL_law 742 = .ok (.aload_n 3, 1) := td tL_law_6_ok 47 (q := (742, .aload_n 3, 1)) rfl
theorem dL_law_743 : decode cL_law 743 = .ok (.invokestatic 118, 3) := td tL_law_6_ok 48 (q := (743, .invokestatic 118, 3)) rfl
theorem dL_law_746 : decode cL_law 746 = .ok (.istore 5, 2) := td tL_law_6_ok 49 (q := (746, .istore 5, 2)) rfl
theorem dL_law_748 : decode cL_law 748 = .ok (.aload_n 2, 1) := td tL_law_6_ok 50 (q := (748, .aload_n 2, 1)) rfl
theorem dL_law_749 : decode cL_law 749 = .ok (.aload_n 0, 1) := td tL_law_6_ok 51 (q := (749, .aload_n 0, 1)) rfl
theorem dL_law_750 : decode cL_law 750 = .ok (.iload 4, 2) := td tL_law_6_ok 52 (q := (750, .iload 4, 2)) rfl
theorem dL_law_752 : decode cL_law 752 = .ok (.iconst 1, 1) := td tL_law_6_ok 53 (q := (752, .iconst 1, 1)) rfl
theorem dL_law_753 : decode cL_law 753 = .ok (.iadd, 1) := td tL_law_6_ok 54 (q := (753, .iadd, 1)) rfl
theorem dL_law_754 : decode cL_law 754 = .ok (.iaload, 1) := td tL_law_6_ok 55 (q := (754, .iaload, 1)) rfl
theorem dL_law_755 : decode cL_law 755 = .ok (.aload_n 0, 1) := td tL_law_6_ok 56 (q := (755, .aload_n 0, 1)) rfl
theorem dL_law_756 : decode cL_law 756 = .ok (.iload 4, 2) := td tL_law_6_ok 57 (q := (756, .iload 4, 2)) rfl
theorem dL_law_758 : decode cL_law 758 = .ok (.iconst 2, 1) := td tL_law_6_ok 58 (q := (758, .iconst 2, 1)) rfl
theorem dL_law_759 : decode cL_law 759 = .ok (.iadd, 1) := td tL_law_6_ok 59 (q := (759, .iadd, 1)) rfl
def tL_law_7 : List (Nat × Instr × Nat) := [(760, .iaload, 1), (761, .aload_n 0, 1), (762, .iload 4, 2), (764, .iconst 3, 1), (765, .iadd, 1), (766, .iaload, 1), (767, .invokevirtual 121, 3), (770, .istore 6, 2), (772, .aload_n 2, 1), (773, .invokevirtual 77, 3), (776, .iload 5, 2), (778, .if_icmp .eq 5, 3), (781, .iconst 0, 1), (782, .ireturn, 1), (783, .iload 5, 2), (785, .ifCond .ne 15, 3), (788, .aload_n 3, 1), (789, .iconst 0, 1), (790, .laload, 1), (791, .iload 6, 2), (793, .i2l, 1), (794, .lcmp, 1), (795, .ifCond .eq 5, 3), (798, .iconst 0, 1), (799, .ireturn, 1), (800, .goto 480, 3), (803, .aload_n 1, 1), (804, .aload_n 0, 1), (805, .iload 4, 2), (807, .iconst 1, 1), (808, .iadd, 1), (809, .iaload, 1), (810, .aload_n 0, 1), (811, .iload 4, 2), (813, .iconst 2, 1), (814, .iadd, 1), (815, .iaload, 1), (816, .aload_n 3, 1), (817, .invokestatic 122, 3), (820, .istore 5, 2), (822, .aload_n 2, 1), (823, .aload_n 0, 1), (824, .iload 4, 2), (826, .iconst 1, 1), (827, .iadd, 1), (828, .iaload, 1), (829, .aload_n 0, 1), (830, .iload 4, 2), (832, .iconst 2, 1), (833, .iadd, 1), (834, .iaload, 1), (835, .invokevirtual 124, 3), (838, .istore 6, 2), (840, .aload_n 2, 1), (841, .invokevirtual 77, 3), (844, .iload 5, 2), (846, .if_icmp .eq 5, 3), (849, .iconst 0, 1), (850, .ireturn, 1), (851, .iload 5, 2)]
theorem tL_law_7_ok : tL_law_7.all (fun q => decide (decode cL_law q.1 = .ok q.2)) = true := by decide +kernel
theorem dL_law_760 : decode cL_law 760 = .ok (.iaload, 1) := td tL_law_7_ok 0 (q := (760, .iaload, 1)) rfl
theorem dL_law_761 : decode cL_law 761 = .ok (.aload_n 0, 1) := td tL_law_7_ok 1 (q := (761, .aload_n 0, 1)) rfl
theorem dL_law_762 : decode cL_law 762 = .ok (.iload 4, 2) := td tL_law_7_ok 2 (q := (762, .iload 4, 2)) rfl
theorem dL_law_764 : decode cL_law 764 = .ok (.iconst 3, 1) := td tL_law_7_ok 3 (q := (764, .iconst 3, 1)) rfl
theorem dL_law_765 : decode cL_law 765 = .ok (.iadd, 1) := td tL_law_7_ok 4 (q := (765, .iadd, 1)) rfl
theorem dL_law_766 : decode cL_law 766 = .ok (.iaload, 1) := td tL_law_7_ok 5 (q := (766, .iaload, 1)) rfl
theorem dL_law_767 : decode cL_law 767 = .ok (.invokevirtual 121, 3) := td tL_law_7_ok 6 (q := (767, .invokevirtual 121, 3)) rfl
theorem dL_law_770 : decode cL_law 770 = .ok (.istore 6, 2) := td tL_law_7_ok 7 (q := (770, .istore 6, 2)) rfl
theorem dL_law_772 : decode cL_law 772 = .ok (.aload_n 2, 1) := td tL_law_7_ok 8 (q := (772, .aload_n 2, 1)) rfl
theorem dL_law_773 : decode cL_law 773 = .ok (.invokevirtual 77, 3) := td tL_law_7_ok 9 (q := (773, .invokevirtual 77, 3)) rfl
theorem dL_law_776 : decode cL_law 776 = .ok (.iload 5, 2) := td tL_law_7_ok 10 (q := (776, .iload 5, 2)) rfl
theorem dL_law_778 : decode cL_law 778 = .ok (.if_icmp .eq 5, 3) := td tL_law_7_ok 11 (q := (778, .if_icmp .eq 5, 3)) rfl
theorem dL_law_781 : decode cL_law 781 = .ok (.iconst 0, 1) := td tL_law_7_ok 12 (q := (781, .iconst 0, 1)) rfl
theorem dL_law_782 : decode cL_law 782 = .ok (.ireturn, 1) := td tL_law_7_ok 13 (q := (782, .ireturn, 1)) rfl
theorem dL_law_783 : decode cL_law 783 = .ok (.iload 5, 2) := td tL_law_7_ok 14 (q := (783, .iload 5, 2)) rfl
theorem dL_law_785 : decode cL_law 785 = .ok (.ifCond .ne 15, 3) := td tL_law_7_ok 15 (q := (785, .ifCond .ne 15, 3)) rfl
theorem dL_law_788 : decode cL_law 788 = .ok (.aload_n 3, 1) := td tL_law_7_ok 16 (q := (788, .aload_n 3, 1)) rfl
theorem dL_law_789 : decode cL_law 789 = .ok (.iconst 0, 1) := td tL_law_7_ok 17 (q := (789, .iconst 0, 1)) rfl
theorem dL_law_790 : decode cL_law 790 = .ok (.laload, 1) := td tL_law_7_ok 18 (q := (790, .laload, 1)) rfl
theorem dL_law_791 : decode cL_law 791 = .ok (.iload 6, 2) := td tL_law_7_ok 19 (q := (791, .iload 6, 2)) rfl
theorem dL_law_793 : decode cL_law 793 = .ok (.i2l, 1) := td tL_law_7_ok 20 (q := (793, .i2l, 1)) rfl
theorem dL_law_794 : decode cL_law 794 = .ok (.lcmp, 1) := td tL_law_7_ok 21 (q := (794, .lcmp, 1)) rfl
theorem dL_law_795 : decode cL_law 795 = .ok (.ifCond .eq 5, 3) := td tL_law_7_ok 22 (q := (795, .ifCond .eq 5, 3)) rfl
theorem dL_law_798 : decode cL_law 798 = .ok (.iconst 0, 1) := td tL_law_7_ok 23 (q := (798, .iconst 0, 1)) rfl
theorem dL_law_799 : decode cL_law 799 = .ok (.ireturn, 1) := td tL_law_7_ok 24 (q := (799, .ireturn, 1)) rfl
theorem dL_law_800 : decode cL_law 800 = .ok (.goto 480, 3) := td tL_law_7_ok 25 (q := (800, .goto 480, 3)) rfl
theorem dL_law_803 : decode cL_law 803 = .ok (.aload_n 1, 1) := td tL_law_7_ok 26 (q := (803, .aload_n 1, 1)) rfl
theorem dL_law_804 : decode cL_law 804 = .ok (.aload_n 0, 1) := td tL_law_7_ok 27 (q := (804, .aload_n 0, 1)) rfl
theorem dL_law_805 : decode cL_law 805 = .ok (.iload 4, 2) := td tL_law_7_ok 28 (q := (805, .iload 4, 2)) rfl
theorem dL_law_807 : decode cL_law 807 = .ok (.iconst 1, 1) := td tL_law_7_ok 29 (q := (807, .iconst 1, 1)) rfl
theorem dL_law_808 : decode cL_law 808 = .ok (.iadd, 1) := td tL_law_7_ok 30 (q := (808, .iadd, 1)) rfl
theorem dL_law_809 : decode cL_law 809 = .ok (.iaload, 1) := td tL_law_7_ok 31 (q := (809, .iaload, 1)) rfl
theorem dL_law_810 : decode cL_law 810 = .ok (.aload_n 0, 1) := td tL_law_7_ok 32 (q := (810, .aload_n 0, 1)) rfl
theorem dL_law_811 : decode cL_law 811 = .ok (.iload 4, 2) := td tL_law_7_ok 33 (q := (811, .iload 4, 2)) rfl
theorem dL_law_813 : decode cL_law 813 = .ok (.iconst 2, 1) := td tL_law_7_ok 34 (q := (813, .iconst 2, 1)) rfl
theorem dL_law_814 : decode cL_law 814 = .ok (.iadd, 1) := td tL_law_7_ok 35 (q := (814, .iadd, 1)) rfl
theorem dL_law_815 : decode cL_law 815 = .ok (.iaload, 1) := td tL_law_7_ok 36 (q := (815, .iaload, 1)) rfl
theorem dL_law_816 : decode cL_law 816 = .ok (.aload_n 3, 1) := td tL_law_7_ok 37 (q := (816, .aload_n 3, 1)) rfl
theorem dL_law_817 : decode cL_law 817 = .ok (.invokestatic 122, 3) := td tL_law_7_ok 38 (q := (817, .invokestatic 122, 3)) rfl
theorem dL_law_820 : decode cL_law 820 = .ok (.istore 5, 2) := td tL_law_7_ok 39 (q := (820, .istore 5, 2)) rfl
theorem dL_law_822 : decode cL_law 822 = .ok (.aload_n 2, 1) := td tL_law_7_ok 40 (q := (822, .aload_n 2, 1)) rfl
theorem dL_law_823 : decode cL_law 823 = .ok (.aload_n 0, 1) := td tL_law_7_ok 41 (q := (823, .aload_n 0, 1)) rfl
theorem dL_law_824 : decode cL_law 824 = .ok (.iload 4, 2) := td tL_law_7_ok 42 (q := (824, .iload 4, 2)) rfl
theorem dL_law_826 : decode cL_law 826 = .ok (.iconst 1, 1) := td tL_law_7_ok 43 (q := (826, .iconst 1, 1)) rfl
theorem dL_law_827 : decode cL_law 827 = .ok (.iadd, 1) := td tL_law_7_ok 44 (q := (827, .iadd, 1)) rfl
theorem dL_law_828 : decode cL_law 828 = .ok (.iaload, 1) := td tL_law_7_ok 45 (q := (828, .iaload, 1)) rfl
theorem dL_law_829 : decode cL_law 829 = .ok (.aload_n 0, 1) := td tL_law_7_ok 46 (q := (829, .aload_n 0, 1)) rfl
theorem dL_law_830 : decode cL_law 830 = .ok (.iload 4, 2) := td tL_law_7_ok 47 (q := (830, .iload 4, 2)) rfl
theorem dL_law_832 : decode cL_law 832 = .ok (.iconst 2, 1) := td tL_law_7_ok 48 (q := (832, .iconst 2, 1)) rfl
theorem dL_law_833 : decode cL_law 833 = .ok (.iadd, 1) := td tL_law_7_ok 49 (q := (833, .iadd, 1)) rfl
theorem dL_law_834 : decode cL_law 834 = .ok (.iaload, 1) := td tL_law_7_ok 50 (q := (834, .iaload, 1)) rfl
theorem dL_law_835 : decode cL_law 835 = .ok (.invokevirtual 124, 3) := td tL_law_7_ok 51 (q := (835, .invokevirtual 124, 3)) rfl
theorem dL_law_838 : decode cL_law 838 = .ok (.istore 6, 2) := td tL_law_7_ok 52 (q := (838, .istore 6, 2)) rfl
theorem dL_law_840 : decode cL_law 840 = .ok (.aload_n 2, 1) := td tL_law_7_ok 53 (q := (840, .aload_n 2, 1)) rfl
theorem dL_law_841 : decode cL_law 841 = .ok (.invokevirtual 77, 3) := td tL_law_7_ok 54 (q := (841, .invokevirtual 77, 3)) rfl
theorem dL_law_844 : decode cL_law 844 = .ok (.iload 5, 2) := td tL_law_7_ok 55 (q := (844, .iload 5, 2)) rfl
theorem dL_law_846 : decode cL_law 846 = .ok (.if_icmp .eq 5, 3) := td tL_law_7_ok 56 (q := (846, .if_icmp .eq 5, 3)) rfl
theorem dL_law_849 : decode cL_law 849 = .ok (.iconst 0, 1) := td tL_law_7_ok 57 (q := (849, .iconst 0, 1)) rfl
theorem dL_law_850 : decode cL_law 850 = .ok (.ireturn, 1) := td tL_law_7_ok 58 (q := (850, .ireturn, 1)) rfl
theorem dL_law_851 : decode cL_law 851 = .ok (.iload 5, 2) := td tL_law_7_ok 59 (q := (851, .iload 5, 2)) rfl
def tL_law_8 : List (Nat × Instr × Nat) := [(853, .ifCond .ne 15, 3), (856, .aload_n 3, 1), (857, .iconst 0, 1), (858, .laload, 1), (859, .iload 6, 2), (861, .i2l, 1), (862, .lcmp, 1), (863, .ifCond .eq 5, 3), (866, .iconst 0, 1), (867, .ireturn, 1), (868, .goto 412, 3), (871, .aload_n 1, 1), (872, .aload_n 0, 1), (873, .iload 4, 2), (875, .iconst 1, 1), (876, .iadd, 1), (877, .iaload, 1), (878, .aload_n 0, 1), (879, .iload 4, 2), (881, .iconst 2, 1), (882, .iadd, 1), (883, .iaload, 1), (884, .aload_n 0, 1), (885, .iload 4, 2), (887, .iconst 3, 1), (888, .iadd, 1), (889, .iaload, 1), (890, .aload_n 3, 1), (891, .invokestatic 125, 3), (894, .istore 5, 2), (896, .aload_n 2, 1), (897, .aload_n 0, 1), (898, .iload 4, 2), (900, .iconst 1, 1), (901, .iadd, 1), (902, .iaload, 1), (903, .aload_n 0, 1), (904, .iload 4, 2), (906, .iconst 2, 1), (907, .iadd, 1), (908, .iaload, 1), (909, .aload_n 0, 1), (910, .iload 4, 2), (912, .iconst 3, 1), (913, .iadd, 1), (914, .iaload, 1), (915, .invokevirtual 127, 3), (918, .istore 6, 2), (920, .aload_n 2, 1), (921, .invokevirtual 77, 3), (924, .iload 5, 2), (926, .if_icmp .eq 5, 3), (929, .iconst 0, 1), (930, .ireturn, 1), (931, .iload 5, 2), (933, .ifCond .ne 15, 3), (936, .aload_n 3, 1), (937, .iconst 0, 1), (938, .laload, 1), (939, .iload 6, 2)]
theorem tL_law_8_ok : tL_law_8.all (fun q => decide (decode cL_law q.1 = .ok q.2)) = true := by decide +kernel
theorem dL_law_853 : decode cL_law 853 = .ok (.ifCond .ne 15, 3) := td tL_law_8_ok 0 (q := (853, .ifCond .ne 15, 3)) rfl
theorem dL_law_856 : decode cL_law 856 = .ok (.aload_n 3, 1) := td tL_law_8_ok 1 (q := (856, .aload_n 3, 1)) rfl
theorem dL_law_857 : decode cL_law 857 = .ok (.iconst 0, 1) := td tL_law_8_ok 2 (q := (857, .iconst 0, 1)) rfl
theorem dL_law_858 : decode cL_law 858 = .ok (.laload, 1) := td tL_law_8_ok 3 (q := (858, .laload, 1)) rfl
theorem dL_law_859 : decode cL_law 859 = .ok (.iload 6, 2) := td tL_law_8_ok 4 (q := (859, .iload 6, 2)) rfl
theorem dL_law_861 : decode cL_law 861 = .ok (.i2l, 1) := td tL_law_8_ok 5 (q := (861, .i2l, 1)) rfl
theorem dL_law_862 : decode cL_law 862 = .ok (.lcmp, 1) := td tL_law_8_ok 6 (q := (862, .lcmp, 1)) rfl
theorem dL_law_863 : decode cL_law 863 = .ok (.ifCond .eq 5, 3) := td tL_law_8_ok 7 (q := (863, .ifCond .eq 5, 3)) rfl
theorem dL_law_866 : decode cL_law 866 = .ok (.iconst 0, 1) := td tL_law_8_ok 8 (q := (866, .iconst 0, 1)) rfl
theorem dL_law_867 : decode cL_law 867 = .ok (.ireturn, 1) := td tL_law_8_ok 9 (q := (867, .ireturn, 1)) rfl
theorem dL_law_868 : decode cL_law 868 = .ok (.goto 412, 3) := td tL_law_8_ok 10 (q := (868, .goto 412, 3)) rfl
theorem dL_law_871 : decode cL_law 871 = .ok (.aload_n 1, 1) := td tL_law_8_ok 11 (q := (871, .aload_n 1, 1)) rfl
theorem dL_law_872 : decode cL_law 872 = .ok (.aload_n 0, 1) := td tL_law_8_ok 12 (q := (872, .aload_n 0, 1)) rfl
theorem dL_law_873 : decode cL_law 873 = .ok (.iload 4, 2) := td tL_law_8_ok 13 (q := (873, .iload 4, 2)) rfl
theorem dL_law_875 : decode cL_law 875 = .ok (.iconst 1, 1) := td tL_law_8_ok 14 (q := (875, .iconst 1, 1)) rfl
theorem dL_law_876 : decode cL_law 876 = .ok (.iadd, 1) := td tL_law_8_ok 15 (q := (876, .iadd, 1)) rfl
theorem dL_law_877 : decode cL_law 877 = .ok (.iaload, 1) := td tL_law_8_ok 16 (q := (877, .iaload, 1)) rfl
theorem dL_law_878 : decode cL_law 878 = .ok (.aload_n 0, 1) := td tL_law_8_ok 17 (q := (878, .aload_n 0, 1)) rfl
theorem dL_law_879 : decode cL_law 879 = .ok (.iload 4, 2) := td tL_law_8_ok 18 (q := (879, .iload 4, 2)) rfl
theorem dL_law_881 : decode cL_law 881 = .ok (.iconst 2, 1) := td tL_law_8_ok 19 (q := (881, .iconst 2, 1)) rfl
theorem dL_law_882 : decode cL_law 882 = .ok (.iadd, 1) := td tL_law_8_ok 20 (q := (882, .iadd, 1)) rfl
theorem dL_law_883 : decode cL_law 883 = .ok (.iaload, 1) := td tL_law_8_ok 21 (q := (883, .iaload, 1)) rfl
theorem dL_law_884 : decode cL_law 884 = .ok (.aload_n 0, 1) := td tL_law_8_ok 22 (q := (884, .aload_n 0, 1)) rfl
theorem dL_law_885 : decode cL_law 885 = .ok (.iload 4, 2) := td tL_law_8_ok 23 (q := (885, .iload 4, 2)) rfl
theorem dL_law_887 : decode cL_law 887 = .ok (.iconst 3, 1) := td tL_law_8_ok 24 (q := (887, .iconst 3, 1)) rfl
theorem dL_law_888 : decode cL_law 888 = .ok (.iadd, 1) := td tL_law_8_ok 25 (q := (888, .iadd, 1)) rfl
theorem dL_law_889 : decode cL_law 889 = .ok (.iaload, 1) := td tL_law_8_ok 26 (q := (889, .iaload, 1)) rfl
theorem dL_law_890 : decode cL_law 890 = .ok (.aload_n 3, 1) := td tL_law_8_ok 27 (q := (890, .aload_n 3, 1)) rfl
theorem dL_law_891 : decode cL_law 891 = .ok (.invokestatic 125, 3) := td tL_law_8_ok 28 (q := (891, .invokestatic 125, 3)) rfl
theorem dL_law_894 : decode cL_law 894 = .ok (.istore 5, 2) := td tL_law_8_ok 29 (q := (894, .istore 5, 2)) rfl
theorem dL_law_896 : decode cL_law 896 = .ok (.aload_n 2, 1) := td tL_law_8_ok 30 (q := (896, .aload_n 2, 1)) rfl
theorem dL_law_897 : decode cL_law 897 = .ok (.aload_n 0, 1) := td tL_law_8_ok 31 (q := (897, .aload_n 0, 1)) rfl
theorem dL_law_898 : decode cL_law 898 = .ok (.iload 4, 2) := td tL_law_8_ok 32 (q := (898, .iload 4, 2)) rfl
theorem dL_law_900 : decode cL_law 900 = .ok (.iconst 1, 1) := td tL_law_8_ok 33 (q := (900, .iconst 1, 1)) rfl
theorem dL_law_901 : decode cL_law 901 = .ok (.iadd, 1) := td tL_law_8_ok 34 (q := (901, .iadd, 1)) rfl
theorem dL_law_902 : decode cL_law 902 = .ok (.iaload, 1) := td tL_law_8_ok 35 (q := (902, .iaload, 1)) rfl
theorem dL_law_903 : decode cL_law 903 = .ok (.aload_n 0, 1) := td tL_law_8_ok 36 (q := (903, .aload_n 0, 1)) rfl
theorem dL_law_904 : decode cL_law 904 = .ok (.iload 4, 2) := td tL_law_8_ok 37 (q := (904, .iload 4, 2)) rfl
theorem dL_law_906 : decode cL_law 906 = .ok (.iconst 2, 1) := td tL_law_8_ok 38 (q := (906, .iconst 2, 1)) rfl
theorem dL_law_907 : decode cL_law 907 = .ok (.iadd, 1) := td tL_law_8_ok 39 (q := (907, .iadd, 1)) rfl
theorem dL_law_908 : decode cL_law 908 = .ok (.iaload, 1) := td tL_law_8_ok 40 (q := (908, .iaload, 1)) rfl
theorem dL_law_909 : decode cL_law 909 = .ok (.aload_n 0, 1) := td tL_law_8_ok 41 (q := (909, .aload_n 0, 1)) rfl
theorem dL_law_910 : decode cL_law 910 = .ok (.iload 4, 2) := td tL_law_8_ok 42 (q := (910, .iload 4, 2)) rfl
theorem dL_law_912 : decode cL_law 912 = .ok (.iconst 3, 1) := td tL_law_8_ok 43 (q := (912, .iconst 3, 1)) rfl
theorem dL_law_913 : decode cL_law 913 = .ok (.iadd, 1) := td tL_law_8_ok 44 (q := (913, .iadd, 1)) rfl
theorem dL_law_914 : decode cL_law 914 = .ok (.iaload, 1) := td tL_law_8_ok 45 (q := (914, .iaload, 1)) rfl
theorem dL_law_915 : decode cL_law 915 = .ok (.invokevirtual 127, 3) := td tL_law_8_ok 46 (q := (915, .invokevirtual 127, 3)) rfl
theorem dL_law_918 : decode cL_law 918 = .ok (.istore 6, 2) := td tL_law_8_ok 47 (q := (918, .istore 6, 2)) rfl
theorem dL_law_920 : decode cL_law 920 = .ok (.aload_n 2, 1) := td tL_law_8_ok 48 (q := (920, .aload_n 2, 1)) rfl
theorem dL_law_921 : decode cL_law 921 = .ok (.invokevirtual 77, 3) := td tL_law_8_ok 49 (q := (921, .invokevirtual 77, 3)) rfl
theorem dL_law_924 : decode cL_law 924 = .ok (.iload 5, 2) := td tL_law_8_ok 50 (q := (924, .iload 5, 2)) rfl
theorem dL_law_926 : decode cL_law 926 = .ok (.if_icmp .eq 5, 3) := td tL_law_8_ok 51 (q := (926, .if_icmp .eq 5, 3)) rfl
theorem dL_law_929 : decode cL_law 929 = .ok (.iconst 0, 1) := td tL_law_8_ok 52 (q := (929, .iconst 0, 1)) rfl
theorem dL_law_930 : decode cL_law 930 = .ok (.ireturn, 1) := td tL_law_8_ok 53 (q := (930, .ireturn, 1)) rfl
theorem dL_law_931 : decode cL_law 931 = .ok (.iload 5, 2) := td tL_law_8_ok 54 (q := (931, .iload 5, 2)) rfl
theorem dL_law_933 : decode cL_law 933 = .ok (.ifCond .ne 15, 3) := td tL_law_8_ok 55 (q := (933, .ifCond .ne 15, 3)) rfl
theorem dL_law_936 : decode cL_law 936 = .ok (.aload_n 3, 1) := td tL_law_8_ok 56 (q := (936, .aload_n 3, 1)) rfl
theorem dL_law_937 : decode cL_law 937 = .ok (.iconst 0, 1) := td tL_law_8_ok 57 (q := (937, .iconst 0, 1)) rfl
theorem dL_law_938 : decode cL_law 938 = .ok (.laload, 1) := td tL_law_8_ok 58 (q := (938, .laload, 1)) rfl
theorem dL_law_939 : decode cL_law 939 = .ok (.iload 6, 2) := td tL_law_8_ok 59 (q := (939, .iload 6, 2)) rfl
def tL_law_9 : List (Nat × Instr × Nat) := [(941, .i2l, 1), (942, .lcmp, 1), (943, .ifCond .eq 5, 3), (946, .iconst 0, 1), (947, .ireturn, 1), (948, .goto 332, 3), (951, .aload_n 1, 1), (952, .aload_n 0, 1), (953, .iload 4, 2), (955, .iconst 1, 1), (956, .iadd, 1), (957, .iaload, 1), (958, .aload_n 0, 1), (959, .iload 4, 2), (961, .iconst 2, 1), (962, .iadd, 1), (963, .iaload, 1), (964, .aload_n 3, 1), (965, .invokestatic 128, 3), (968, .istore 5, 2), (970, .aload_n 2, 1), (971, .aload_n 0, 1), (972, .iload 4, 2), (974, .iconst 1, 1), (975, .iadd, 1), (976, .iaload, 1), (977, .aload_n 0, 1), (978, .iload 4, 2), (980, .iconst 2, 1), (981, .iadd, 1), (982, .iaload, 1), (983, .invokevirtual 130, 3), (986, .istore 6, 2), (988, .aload_n 2, 1), (989, .invokevirtual 77, 3), (992, .iload 5, 2), (994, .if_icmp .eq 5, 3), (997, .iconst 0, 1), (998, .ireturn, 1), (999, .iload 5, 2), (1001, .ifCond .ne 15, 3), (1004, .aload_n 3, 1), (1005, .iconst 0, 1), (1006, .laload, 1), (1007, .iload 6, 2), (1009, .i2l, 1), (1010, .lcmp, 1), (1011, .ifCond .eq 5, 3), (1014, .iconst 0, 1), (1015, .ireturn, 1), (1016, .goto 264, 3), (1019, .aload_n 1, 1), (1020, .aload_n 0, 1), (1021, .iload 4, 2), (1023, .iconst 1, 1), (1024, .iadd, 1), (1025, .iaload, 1), (1026, .aload_n 3, 1), (1027, .invokestatic 131, 3), (1030, .istore 5, 2)]
theorem tL_law_9_ok : tL_law_9.all (fun q => decide (decode cL_law q.1 = .ok q.2)) = true := by decide +kernel
theorem dL_law_941 : decode cL_law 941 = .ok (.i2l, 1) := td tL_law_9_ok 0 (q := (941, .i2l, 1)) rfl
theorem dL_law_942 : decode cL_law 942 = .ok (.lcmp, 1) := td tL_law_9_ok 1 (q := (942, .lcmp, 1)) rfl
theorem dL_law_943 : decode cL_law 943 = .ok (.ifCond .eq 5, 3) := td tL_law_9_ok 2 (q := (943, .ifCond .eq 5, 3)) rfl
theorem dL_law_946 : decode cL_law 946 = .ok (.iconst 0, 1) := td tL_law_9_ok 3 (q := (946, .iconst 0, 1)) rfl
theorem dL_law_947 : decode cL_law 947 = .ok (.ireturn, 1) := td tL_law_9_ok 4 (q := (947, .ireturn, 1)) rfl
theorem dL_law_948 : decode cL_law 948 = .ok (.goto 332, 3) := td tL_law_9_ok 5 (q := (948, .goto 332, 3)) rfl
theorem dL_law_951 : decode cL_law 951 = .ok (.aload_n 1, 1) := td tL_law_9_ok 6 (q := (951, .aload_n 1, 1)) rfl
theorem dL_law_952 : decode cL_law 952 = .ok (.aload_n 0, 1) := td tL_law_9_ok 7 (q := (952, .aload_n 0, 1)) rfl
theorem dL_law_953 : decode cL_law 953 = .ok (.iload 4, 2) := td tL_law_9_ok 8 (q := (953, .iload 4, 2)) rfl
theorem dL_law_955 : decode cL_law 955 = .ok (.iconst 1, 1) := td tL_law_9_ok 9 (q := (955, .iconst 1, 1)) rfl
theorem dL_law_956 : decode cL_law 956 = .ok (.iadd, 1) := td tL_law_9_ok 10 (q := (956, .iadd, 1)) rfl
theorem dL_law_957 : decode cL_law 957 = .ok (.iaload, 1) := td tL_law_9_ok 11 (q := (957, .iaload, 1)) rfl
theorem dL_law_958 : decode cL_law 958 = .ok (.aload_n 0, 1) := td tL_law_9_ok 12 (q := (958, .aload_n 0, 1)) rfl
theorem dL_law_959 : decode cL_law 959 = .ok (.iload 4, 2) := td tL_law_9_ok 13 (q := (959, .iload 4, 2)) rfl
theorem dL_law_961 : decode cL_law 961 = .ok (.iconst 2, 1) := td tL_law_9_ok 14 (q := (961, .iconst 2, 1)) rfl
theorem dL_law_962 : decode cL_law 962 = .ok (.iadd, 1) := td tL_law_9_ok 15 (q := (962, .iadd, 1)) rfl
theorem dL_law_963 : decode cL_law 963 = .ok (.iaload, 1) := td tL_law_9_ok 16 (q := (963, .iaload, 1)) rfl
theorem dL_law_964 : decode cL_law 964 = .ok (.aload_n 3, 1) := td tL_law_9_ok 17 (q := (964, .aload_n 3, 1)) rfl
theorem dL_law_965 : decode cL_law 965 = .ok (.invokestatic 128, 3) := td tL_law_9_ok 18 (q := (965, .invokestatic 128, 3)) rfl
theorem dL_law_968 : decode cL_law 968 = .ok (.istore 5, 2) := td tL_law_9_ok 19 (q := (968, .istore 5, 2)) rfl
theorem dL_law_970 : decode cL_law 970 = .ok (.aload_n 2, 1) := td tL_law_9_ok 20 (q := (970, .aload_n 2, 1)) rfl
theorem dL_law_971 : decode cL_law 971 = .ok (.aload_n 0, 1) := td tL_law_9_ok 21 (q := (971, .aload_n 0, 1)) rfl
theorem dL_law_972 : decode cL_law 972 = .ok (.iload 4, 2) := td tL_law_9_ok 22 (q := (972, .iload 4, 2)) rfl
theorem dL_law_974 : decode cL_law 974 = .ok (.iconst 1, 1) := td tL_law_9_ok 23 (q := (974, .iconst 1, 1)) rfl
theorem dL_law_975 : decode cL_law 975 = .ok (.iadd, 1) := td tL_law_9_ok 24 (q := (975, .iadd, 1)) rfl
theorem dL_law_976 : decode cL_law 976 = .ok (.iaload, 1) := td tL_law_9_ok 25 (q := (976, .iaload, 1)) rfl
theorem dL_law_977 : decode cL_law 977 = .ok (.aload_n 0, 1) := td tL_law_9_ok 26 (q := (977, .aload_n 0, 1)) rfl
theorem dL_law_978 : decode cL_law 978 = .ok (.iload 4, 2) := td tL_law_9_ok 27 (q := (978, .iload 4, 2)) rfl
theorem dL_law_980 : decode cL_law 980 = .ok (.iconst 2, 1) := td tL_law_9_ok 28 (q := (980, .iconst 2, 1)) rfl
theorem dL_law_981 : decode cL_law 981 = .ok (.iadd, 1) := td tL_law_9_ok 29 (q := (981, .iadd, 1)) rfl
theorem dL_law_982 : decode cL_law 982 = .ok (.iaload, 1) := td tL_law_9_ok 30 (q := (982, .iaload, 1)) rfl
theorem dL_law_983 : decode cL_law 983 = .ok (.invokevirtual 130, 3) := td tL_law_9_ok 31 (q := (983, .invokevirtual 130, 3)) rfl
theorem dL_law_986 : decode cL_law 986 = .ok (.istore 6, 2) := td tL_law_9_ok 32 (q := (986, .istore 6, 2)) rfl
theorem dL_law_988 : decode cL_law 988 = .ok (.aload_n 2, 1) := td tL_law_9_ok 33 (q := (988, .aload_n 2, 1)) rfl
theorem dL_law_989 : decode cL_law 989 = .ok (.invokevirtual 77, 3) := td tL_law_9_ok 34 (q := (989, .invokevirtual 77, 3)) rfl
theorem dL_law_992 : decode cL_law 992 = .ok (.iload 5, 2) := td tL_law_9_ok 35 (q := (992, .iload 5, 2)) rfl
theorem dL_law_994 : decode cL_law 994 = .ok (.if_icmp .eq 5, 3) := td tL_law_9_ok 36 (q := (994, .if_icmp .eq 5, 3)) rfl
theorem dL_law_997 : decode cL_law 997 = .ok (.iconst 0, 1) := td tL_law_9_ok 37 (q := (997, .iconst 0, 1)) rfl
theorem dL_law_998 : decode cL_law 998 = .ok (.ireturn, 1) := td tL_law_9_ok 38 (q := (998, .ireturn, 1)) rfl
theorem dL_law_999 : decode cL_law 999 = .ok (.iload 5, 2) := td tL_law_9_ok 39 (q := (999, .iload 5, 2)) rfl
theorem dL_law_1001 : decode cL_law 1001 = .ok (.ifCond .ne 15, 3) := td tL_law_9_ok 40 (q := (1001, .ifCond .ne 15, 3)) rfl
theorem dL_law_1004 : decode cL_law 1004 = .ok (.aload_n 3, 1) := td tL_law_9_ok 41 (q := (1004, .aload_n 3, 1)) rfl
theorem dL_law_1005 : decode cL_law 1005 = .ok (.iconst 0, 1) := td tL_law_9_ok 42 (q := (1005, .iconst 0, 1)) rfl
theorem dL_law_1006 : decode cL_law 1006 = .ok (.laload, 1) := td tL_law_9_ok 43 (q := (1006, .laload, 1)) rfl
theorem dL_law_1007 : decode cL_law 1007 = .ok (.iload 6, 2) := td tL_law_9_ok 44 (q := (1007, .iload 6, 2)) rfl
theorem dL_law_1009 : decode cL_law 1009 = .ok (.i2l, 1) := td tL_law_9_ok 45 (q := (1009, .i2l, 1)) rfl
theorem dL_law_1010 : decode cL_law 1010 = .ok (.lcmp, 1) := td tL_law_9_ok 46 (q := (1010, .lcmp, 1)) rfl
theorem dL_law_1011 : decode cL_law 1011 = .ok (.ifCond .eq 5, 3) := td tL_law_9_ok 47 (q := (1011, .ifCond .eq 5, 3)) rfl
theorem dL_law_1014 : decode cL_law 1014 = .ok (.iconst 0, 1) := td tL_law_9_ok 48 (q := (1014, .iconst 0, 1)) rfl
theorem dL_law_1015 : decode cL_law 1015 = .ok (.ireturn, 1) := td tL_law_9_ok 49 (q := (1015, .ireturn, 1)) rfl
theorem dL_law_1016 : decode cL_law 1016 = .ok (.goto 264, 3) := td tL_law_9_ok 50 (q := (1016, .goto 264, 3)) rfl
theorem dL_law_1019 : decode cL_law 1019 = .ok (.aload_n 1, 1) := td tL_law_9_ok 51 (q := (1019, .aload_n 1, 1)) rfl
theorem dL_law_1020 : decode cL_law 1020 = .ok (.aload_n 0, 1) := td tL_law_9_ok 52 (q := (1020, .aload_n 0, 1)) rfl
theorem dL_law_1021 : decode cL_law 1021 = .ok (.iload 4, 2) := td tL_law_9_ok 53 (q := (1021, .iload 4, 2)) rfl
theorem dL_law_1023 : decode cL_law 1023 = .ok (.iconst 1, 1) := td tL_law_9_ok 54 (q := (1023, .iconst 1, 1)) rfl
theorem dL_law_1024 : decode cL_law 1024 = .ok (.iadd, 1) := td tL_law_9_ok 55 (q := (1024, .iadd, 1)) rfl
theorem dL_law_1025 : decode cL_law 1025 = .ok (.iaload, 1) := td tL_law_9_ok 56 (q := (1025, .iaload, 1)) rfl
theorem dL_law_1026 : decode cL_law 1026 = .ok (.aload_n 3, 1) := td tL_law_9_ok 57 (q := (1026, .aload_n 3, 1)) rfl
theorem dL_law_1027 : decode cL_law 1027 = .ok (.invokestatic 131, 3) := td tL_law_9_ok 58 (q := (1027, .invokestatic 131, 3)) rfl
theorem dL_law_1030 : decode cL_law 1030 = .ok (.istore 5, 2) := td tL_law_9_ok 59 (q := (1030, .istore 5, 2)) rfl
def tL_law_10 : List (Nat × Instr × Nat) := [(1032, .aload_n 2, 1), (1033, .aload_n 0, 1), (1034, .iload 4, 2), (1036, .iconst 1, 1), (1037, .iadd, 1), (1038, .iaload, 1), (1039, .invokevirtual 133, 3), (1042, .istore 6, 2), (1044, .aload_n 2, 1), (1045, .invokevirtual 77, 3), (1048, .iload 5, 2), (1050, .if_icmp .eq 5, 3), (1053, .iconst 0, 1), (1054, .ireturn, 1), (1055, .iload 5, 2), (1057, .ifCond .ne 15, 3), (1060, .aload_n 3, 1), (1061, .iconst 0, 1), (1062, .laload, 1), (1063, .iload 6, 2), (1065, .i2l, 1), (1066, .lcmp, 1), (1067, .ifCond .eq 5, 3), (1070, .iconst 0, 1), (1071, .ireturn, 1), (1072, .goto 208, 3), (1075, .aload_n 1, 1), (1076, .aload_n 0, 1), (1077, .iload 4, 2), (1079, .iconst 1, 1), (1080, .iadd, 1), (1081, .iaload, 1), (1082, .aload_n 0, 1), (1083, .iload 4, 2), (1085, .iconst 2, 1), (1086, .iadd, 1), (1087, .iaload, 1), (1088, .aload_n 3, 1), (1089, .invokestatic 134, 3), (1092, .istore 5, 2), (1094, .aload_n 2, 1), (1095, .aload_n 0, 1), (1096, .iload 4, 2), (1098, .iconst 1, 1), (1099, .iadd, 1), (1100, .iaload, 1), (1101, .aload_n 0, 1), (1102, .iload 4, 2), (1104, .iconst 2, 1), (1105, .iadd, 1), (1106, .iaload, 1), (1107, .invokevirtual 136, 3), (1110, .istore 6, 2), (1112, .aload_n 2, 1), (1113, .invokevirtual 77, 3), (1116, .iload 5, 2), (1118, .if_icmp .eq 5, 3), (1121, .iconst 0, 1), (1122, .ireturn, 1), (1123, .iload 5, 2)]
theorem tL_law_10_ok : tL_law_10.all (fun q => decide (decode cL_law q.1 = .ok q.2)) = true := by decide +kernel
theorem dL_law_1032 : decode cL_law 1032 = .ok (.aload_n 2, 1) := td tL_law_10_ok 0 (q := (1032, .aload_n 2, 1)) rfl
theorem dL_law_1033 : decode cL_law 1033 = .ok (.aload_n 0, 1) := td tL_law_10_ok 1 (q := (1033, .aload_n 0, 1)) rfl
theorem dL_law_1034 : decode cL_law 1034 = .ok (.iload 4, 2) := td tL_law_10_ok 2 (q := (1034, .iload 4, 2)) rfl
theorem dL_law_1036 : decode cL_law 1036 = .ok (.iconst 1, 1) := td tL_law_10_ok 3 (q := (1036, .iconst 1, 1)) rfl
theorem dL_law_1037 : decode cL_law 1037 = .ok (.iadd, 1) := td tL_law_10_ok 4 (q := (1037, .iadd, 1)) rfl
theorem dL_law_1038 : decode cL_law 1038 = .ok (.iaload, 1) := td tL_law_10_ok 5 (q := (1038, .iaload, 1)) rfl
theorem dL_law_1039 : decode cL_law 1039 = .ok (.invokevirtual 133, 3) := td tL_law_10_ok 6 (q := (1039, .invokevirtual 133, 3)) rfl
theorem dL_law_1042 : decode cL_law 1042 = .ok (.istore 6, 2) := td tL_law_10_ok 7 (q := (1042, .istore 6, 2)) rfl
theorem dL_law_1044 : decode cL_law 1044 = .ok (.aload_n 2, 1) := td tL_law_10_ok 8 (q := (1044, .aload_n 2, 1)) rfl
theorem dL_law_1045 : decode cL_law 1045 = .ok (.invokevirtual 77, 3) := td tL_law_10_ok 9 (q := (1045, .invokevirtual 77, 3)) rfl
theorem dL_law_1048 : decode cL_law 1048 = .ok (.iload 5, 2) := td tL_law_10_ok 10 (q := (1048, .iload 5, 2)) rfl
theorem dL_law_1050 : decode cL_law 1050 = .ok (.if_icmp .eq 5, 3) := td tL_law_10_ok 11 (q := (1050, .if_icmp .eq 5, 3)) rfl
theorem dL_law_1053 : decode cL_law 1053 = .ok (.iconst 0, 1) := td tL_law_10_ok 12 (q := (1053, .iconst 0, 1)) rfl
theorem dL_law_1054 : decode cL_law 1054 = .ok (.ireturn, 1) := td tL_law_10_ok 13 (q := (1054, .ireturn, 1)) rfl
theorem dL_law_1055 : decode cL_law 1055 = .ok (.iload 5, 2) := td tL_law_10_ok 14 (q := (1055, .iload 5, 2)) rfl
theorem dL_law_1057 : decode cL_law 1057 = .ok (.ifCond .ne 15, 3) := td tL_law_10_ok 15 (q := (1057, .ifCond .ne 15, 3)) rfl
theorem dL_law_1060 : decode cL_law 1060 = .ok (.aload_n 3, 1) := td tL_law_10_ok 16 (q := (1060, .aload_n 3, 1)) rfl
theorem dL_law_1061 : decode cL_law 1061 = .ok (.iconst 0, 1) := td tL_law_10_ok 17 (q := (1061, .iconst 0, 1)) rfl
theorem dL_law_1062 : decode cL_law 1062 = .ok (.laload, 1) := td tL_law_10_ok 18 (q := (1062, .laload, 1)) rfl
theorem dL_law_1063 : decode cL_law 1063 = .ok (.iload 6, 2) := td tL_law_10_ok 19 (q := (1063, .iload 6, 2)) rfl
theorem dL_law_1065 : decode cL_law 1065 = .ok (.i2l, 1) := td tL_law_10_ok 20 (q := (1065, .i2l, 1)) rfl
theorem dL_law_1066 : decode cL_law 1066 = .ok (.lcmp, 1) := td tL_law_10_ok 21 (q := (1066, .lcmp, 1)) rfl
theorem dL_law_1067 : decode cL_law 1067 = .ok (.ifCond .eq 5, 3) := td tL_law_10_ok 22 (q := (1067, .ifCond .eq 5, 3)) rfl
theorem dL_law_1070 : decode cL_law 1070 = .ok (.iconst 0, 1) := td tL_law_10_ok 23 (q := (1070, .iconst 0, 1)) rfl
theorem dL_law_1071 : decode cL_law 1071 = .ok (.ireturn, 1) := td tL_law_10_ok 24 (q := (1071, .ireturn, 1)) rfl
theorem dL_law_1072 : decode cL_law 1072 = .ok (.goto 208, 3) := td tL_law_10_ok 25 (q := (1072, .goto 208, 3)) rfl
theorem dL_law_1075 : decode cL_law 1075 = .ok (.aload_n 1, 1) := td tL_law_10_ok 26 (q := (1075, .aload_n 1, 1)) rfl
theorem dL_law_1076 : decode cL_law 1076 = .ok (.aload_n 0, 1) := td tL_law_10_ok 27 (q := (1076, .aload_n 0, 1)) rfl
theorem dL_law_1077 : decode cL_law 1077 = .ok (.iload 4, 2) := td tL_law_10_ok 28 (q := (1077, .iload 4, 2)) rfl
theorem dL_law_1079 : decode cL_law 1079 = .ok (.iconst 1, 1) := td tL_law_10_ok 29 (q := (1079, .iconst 1, 1)) rfl
theorem dL_law_1080 : decode cL_law 1080 = .ok (.iadd, 1) := td tL_law_10_ok 30 (q := (1080, .iadd, 1)) rfl
theorem dL_law_1081 : decode cL_law 1081 = .ok (.iaload, 1) := td tL_law_10_ok 31 (q := (1081, .iaload, 1)) rfl
theorem dL_law_1082 : decode cL_law 1082 = .ok (.aload_n 0, 1) := td tL_law_10_ok 32 (q := (1082, .aload_n 0, 1)) rfl
theorem dL_law_1083 : decode cL_law 1083 = .ok (.iload 4, 2) := td tL_law_10_ok 33 (q := (1083, .iload 4, 2)) rfl
theorem dL_law_1085 : decode cL_law 1085 = .ok (.iconst 2, 1) := td tL_law_10_ok 34 (q := (1085, .iconst 2, 1)) rfl
theorem dL_law_1086 : decode cL_law 1086 = .ok (.iadd, 1) := td tL_law_10_ok 35 (q := (1086, .iadd, 1)) rfl
theorem dL_law_1087 : decode cL_law 1087 = .ok (.iaload, 1) := td tL_law_10_ok 36 (q := (1087, .iaload, 1)) rfl
theorem dL_law_1088 : decode cL_law 1088 = .ok (.aload_n 3, 1) := td tL_law_10_ok 37 (q := (1088, .aload_n 3, 1)) rfl
theorem dL_law_1089 : decode cL_law 1089 = .ok (.invokestatic 134, 3) := td tL_law_10_ok 38 (q := (1089, .invokestatic 134, 3)) rfl
theorem dL_law_1092 : decode cL_law 1092 = .ok (.istore 5, 2) := td tL_law_10_ok 39 (q := (1092, .istore 5, 2)) rfl
theorem dL_law_1094 : decode cL_law 1094 = .ok (.aload_n 2, 1) := td tL_law_10_ok 40 (q := (1094, .aload_n 2, 1)) rfl
theorem dL_law_1095 : decode cL_law 1095 = .ok (.aload_n 0, 1) := td tL_law_10_ok 41 (q := (1095, .aload_n 0, 1)) rfl
theorem dL_law_1096 : decode cL_law 1096 = .ok (.iload 4, 2) := td tL_law_10_ok 42 (q := (1096, .iload 4, 2)) rfl
theorem dL_law_1098 : decode cL_law 1098 = .ok (.iconst 1, 1) := td tL_law_10_ok 43 (q := (1098, .iconst 1, 1)) rfl
theorem dL_law_1099 : decode cL_law 1099 = .ok (.iadd, 1) := td tL_law_10_ok 44 (q := (1099, .iadd, 1)) rfl
theorem dL_law_1100 : decode cL_law 1100 = .ok (.iaload, 1) := td tL_law_10_ok 45 (q := (1100, .iaload, 1)) rfl
theorem dL_law_1101 : decode cL_law 1101 = .ok (.aload_n 0, 1) := td tL_law_10_ok 46 (q := (1101, .aload_n 0, 1)) rfl
theorem dL_law_1102 : decode cL_law 1102 = .ok (.iload 4, 2) := td tL_law_10_ok 47 (q := (1102, .iload 4, 2)) rfl
theorem dL_law_1104 : decode cL_law 1104 = .ok (.iconst 2, 1) := td tL_law_10_ok 48 (q := (1104, .iconst 2, 1)) rfl
theorem dL_law_1105 : decode cL_law 1105 = .ok (.iadd, 1) := td tL_law_10_ok 49 (q := (1105, .iadd, 1)) rfl
theorem dL_law_1106 : decode cL_law 1106 = .ok (.iaload, 1) := td tL_law_10_ok 50 (q := (1106, .iaload, 1)) rfl
theorem dL_law_1107 : decode cL_law 1107 = .ok (.invokevirtual 136, 3) := td tL_law_10_ok 51 (q := (1107, .invokevirtual 136, 3)) rfl
theorem dL_law_1110 : decode cL_law 1110 = .ok (.istore 6, 2) := td tL_law_10_ok 52 (q := (1110, .istore 6, 2)) rfl
theorem dL_law_1112 : decode cL_law 1112 = .ok (.aload_n 2, 1) := td tL_law_10_ok 53 (q := (1112, .aload_n 2, 1)) rfl
theorem dL_law_1113 : decode cL_law 1113 = .ok (.invokevirtual 77, 3) := td tL_law_10_ok 54 (q := (1113, .invokevirtual 77, 3)) rfl
theorem dL_law_1116 : decode cL_law 1116 = .ok (.iload 5, 2) := td tL_law_10_ok 55 (q := (1116, .iload 5, 2)) rfl
theorem dL_law_1118 : decode cL_law 1118 = .ok (.if_icmp .eq 5, 3) := td tL_law_10_ok 56 (q := (1118, .if_icmp .eq 5, 3)) rfl
theorem dL_law_1121 : decode cL_law 1121 = .ok (.iconst 0, 1) := td tL_law_10_ok 57 (q := (1121, .iconst 0, 1)) rfl
theorem dL_law_1122 : decode cL_law 1122 = .ok (.ireturn, 1) := td tL_law_10_ok 58 (q := (1122, .ireturn, 1)) rfl
theorem dL_law_1123 : decode cL_law 1123 = .ok (.iload 5, 2) := td tL_law_10_ok 59 (q := (1123, .iload 5, 2)) rfl
def tL_law_11 : List (Nat × Instr × Nat) := [(1125, .ifCond .ne 15, 3), (1128, .aload_n 3, 1), (1129, .iconst 0, 1), (1130, .laload, 1), (1131, .iload 6, 2), (1133, .i2l, 1), (1134, .lcmp, 1), (1135, .ifCond .eq 5, 3), (1138, .iconst 0, 1), (1139, .ireturn, 1), (1140, .goto 140, 3), (1143, .aload_n 1, 1), (1144, .aload_n 0, 1), (1145, .iload 4, 2), (1147, .iconst 1, 1), (1148, .iadd, 1), (1149, .iaload, 1), (1150, .aload_n 3, 1), (1151, .invokestatic 137, 3), (1154, .istore 5, 2), (1156, .aload_n 2, 1), (1157, .aload_n 0, 1), (1158, .iload 4, 2), (1160, .iconst 1, 1), (1161, .iadd, 1), (1162, .iaload, 1), (1163, .invokevirtual 139, 3), (1166, .istore 6, 2), (1168, .aload_n 2, 1), (1169, .invokevirtual 77, 3), (1172, .iload 5, 2), (1174, .if_icmp .eq 5, 3), (1177, .iconst 0, 1), (1178, .ireturn, 1), (1179, .iload 5, 2), (1181, .ifCond .ne 15, 3), (1184, .aload_n 3, 1), (1185, .iconst 0, 1), (1186, .laload, 1), (1187, .iload 6, 2), (1189, .i2l, 1), (1190, .lcmp, 1), (1191, .ifCond .eq 5, 3), (1194, .iconst 0, 1), (1195, .ireturn, 1), (1196, .goto 84, 3), (1199, .aload_n 1, 1), (1200, .invokevirtual 140, 3), (1203, .aload_n 2, 1), (1204, .invokevirtual 143, 3), (1207, .if_icmp .eq 73, 3), (1210, .iconst 0, 1), (1211, .ireturn, 1), (1212, .aload_n 1, 1), (1213, .invokevirtual 144, 3), (1216, .aload_n 2, 1), (1217, .invokevirtual 147, 3), (1220, .if_icmp .eq 60, 3), (1223, .iconst 0, 1), (1224, .ireturn, 1)]
theorem tL_law_11_ok : tL_law_11.all (fun q => decide (decode cL_law q.1 = .ok q.2)) = true := by decide +kernel
theorem dL_law_1125 : decode cL_law 1125 = .ok (.ifCond .ne 15, 3) := td tL_law_11_ok 0 (q := (1125, .ifCond .ne 15, 3)) rfl
theorem dL_law_1128 : decode cL_law 1128 = .ok (.aload_n 3, 1) := td tL_law_11_ok 1 (q := (1128, .aload_n 3, 1)) rfl
theorem dL_law_1129 : decode cL_law 1129 = .ok (.iconst 0, 1) := td tL_law_11_ok 2 (q := (1129, .iconst 0, 1)) rfl
theorem dL_law_1130 : decode cL_law 1130 = .ok (.laload, 1) := td tL_law_11_ok 3 (q := (1130, .laload, 1)) rfl
theorem dL_law_1131 : decode cL_law 1131 = .ok (.iload 6, 2) := td tL_law_11_ok 4 (q := (1131, .iload 6, 2)) rfl
theorem dL_law_1133 : decode cL_law 1133 = .ok (.i2l, 1) := td tL_law_11_ok 5 (q := (1133, .i2l, 1)) rfl
theorem dL_law_1134 : decode cL_law 1134 = .ok (.lcmp, 1) := td tL_law_11_ok 6 (q := (1134, .lcmp, 1)) rfl
theorem dL_law_1135 : decode cL_law 1135 = .ok (.ifCond .eq 5, 3) := td tL_law_11_ok 7 (q := (1135, .ifCond .eq 5, 3)) rfl
theorem dL_law_1138 : decode cL_law 1138 = .ok (.iconst 0, 1) := td tL_law_11_ok 8 (q := (1138, .iconst 0, 1)) rfl
theorem dL_law_1139 : decode cL_law 1139 = .ok (.ireturn, 1) := td tL_law_11_ok 9 (q := (1139, .ireturn, 1)) rfl
theorem dL_law_1140 : decode cL_law 1140 = .ok (.goto 140, 3) := td tL_law_11_ok 10 (q := (1140, .goto 140, 3)) rfl
theorem dL_law_1143 : decode cL_law 1143 = .ok (.aload_n 1, 1) := td tL_law_11_ok 11 (q := (1143, .aload_n 1, 1)) rfl
theorem dL_law_1144 : decode cL_law 1144 = .ok (.aload_n 0, 1) := td tL_law_11_ok 12 (q := (1144, .aload_n 0, 1)) rfl
theorem dL_law_1145 : decode cL_law 1145 = .ok (.iload 4, 2) := td tL_law_11_ok 13 (q := (1145, .iload 4, 2)) rfl
theorem dL_law_1147 : decode cL_law 1147 = .ok (.iconst 1, 1) := td tL_law_11_ok 14 (q := (1147, .iconst 1, 1)) rfl
theorem dL_law_1148 : decode cL_law 1148 = .ok (.iadd, 1) := td tL_law_11_ok 15 (q := (1148, .iadd, 1)) rfl
theorem dL_law_1149 : decode cL_law 1149 = .ok (.iaload, 1) := td tL_law_11_ok 16 (q := (1149, .iaload, 1)) rfl
theorem dL_law_1150 : decode cL_law 1150 = .ok (.aload_n 3, 1) := td tL_law_11_ok 17 (q := (1150, .aload_n 3, 1)) rfl
theorem dL_law_1151 : decode cL_law 1151 = .ok (.invokestatic 137, 3) := td tL_law_11_ok 18 (q := (1151, .invokestatic 137, 3)) rfl
theorem dL_law_1154 : decode cL_law 1154 = .ok (.istore 5, 2) := td tL_law_11_ok 19 (q := (1154, .istore 5, 2)) rfl
theorem dL_law_1156 : decode cL_law 1156 = .ok (.aload_n 2, 1) := td tL_law_11_ok 20 (q := (1156, .aload_n 2, 1)) rfl
theorem dL_law_1157 : decode cL_law 1157 = .ok (.aload_n 0, 1) := td tL_law_11_ok 21 (q := (1157, .aload_n 0, 1)) rfl
theorem dL_law_1158 : decode cL_law 1158 = .ok (.iload 4, 2) := td tL_law_11_ok 22 (q := (1158, .iload 4, 2)) rfl
theorem dL_law_1160 : decode cL_law 1160 = .ok (.iconst 1, 1) := td tL_law_11_ok 23 (q := (1160, .iconst 1, 1)) rfl
theorem dL_law_1161 : decode cL_law 1161 = .ok (.iadd, 1) := td tL_law_11_ok 24 (q := (1161, .iadd, 1)) rfl
theorem dL_law_1162 : decode cL_law 1162 = .ok (.iaload, 1) := td tL_law_11_ok 25 (q := (1162, .iaload, 1)) rfl
theorem dL_law_1163 : decode cL_law 1163 = .ok (.invokevirtual 139, 3) := td tL_law_11_ok 26 (q := (1163, .invokevirtual 139, 3)) rfl
theorem dL_law_1166 : decode cL_law 1166 = .ok (.istore 6, 2) := td tL_law_11_ok 27 (q := (1166, .istore 6, 2)) rfl
theorem dL_law_1168 : decode cL_law 1168 = .ok (.aload_n 2, 1) := td tL_law_11_ok 28 (q := (1168, .aload_n 2, 1)) rfl
theorem dL_law_1169 : decode cL_law 1169 = .ok (.invokevirtual 77, 3) := td tL_law_11_ok 29 (q := (1169, .invokevirtual 77, 3)) rfl
theorem dL_law_1172 : decode cL_law 1172 = .ok (.iload 5, 2) := td tL_law_11_ok 30 (q := (1172, .iload 5, 2)) rfl
theorem dL_law_1174 : decode cL_law 1174 = .ok (.if_icmp .eq 5, 3) := td tL_law_11_ok 31 (q := (1174, .if_icmp .eq 5, 3)) rfl
theorem dL_law_1177 : decode cL_law 1177 = .ok (.iconst 0, 1) := td tL_law_11_ok 32 (q := (1177, .iconst 0, 1)) rfl
theorem dL_law_1178 : decode cL_law 1178 = .ok (.ireturn, 1) := td tL_law_11_ok 33 (q := (1178, .ireturn, 1)) rfl
theorem dL_law_1179 : decode cL_law 1179 = .ok (.iload 5, 2) := td tL_law_11_ok 34 (q := (1179, .iload 5, 2)) rfl
theorem dL_law_1181 : decode cL_law 1181 = .ok (.ifCond .ne 15, 3) := td tL_law_11_ok 35 (q := (1181, .ifCond .ne 15, 3)) rfl
theorem dL_law_1184 : decode cL_law 1184 = .ok (.aload_n 3, 1) := td tL_law_11_ok 36 (q := (1184, .aload_n 3, 1)) rfl
theorem dL_law_1185 : decode cL_law 1185 = .ok (.iconst 0, 1) := td tL_law_11_ok 37 (q := (1185, .iconst 0, 1)) rfl
theorem dL_law_1186 : decode cL_law 1186 = .ok (.laload, 1) := td tL_law_11_ok 38 (q := (1186, .laload, 1)) rfl
theorem dL_law_1187 : decode cL_law 1187 = .ok (.iload 6, 2) := td tL_law_11_ok 39 (q := (1187, .iload 6, 2)) rfl
theorem dL_law_1189 : decode cL_law 1189 = .ok (.i2l, 1) := td tL_law_11_ok 40 (q := (1189, .i2l, 1)) rfl
theorem dL_law_1190 : decode cL_law 1190 = .ok (.lcmp, 1) := td tL_law_11_ok 41 (q := (1190, .lcmp, 1)) rfl
theorem dL_law_1191 : decode cL_law 1191 = .ok (.ifCond .eq 5, 3) := td tL_law_11_ok 42 (q := (1191, .ifCond .eq 5, 3)) rfl
theorem dL_law_1194 : decode cL_law 1194 = .ok (.iconst 0, 1) := td tL_law_11_ok 43 (q := (1194, .iconst 0, 1)) rfl
theorem dL_law_1195 : decode cL_law 1195 = .ok (.ireturn, 1) := td tL_law_11_ok 44 (q := (1195, .ireturn, 1)) rfl
theorem dL_law_1196 : decode cL_law 1196 = .ok (.goto 84, 3) := td tL_law_11_ok 45 (q := (1196, .goto 84, 3)) rfl
theorem dL_law_1199 : decode cL_law 1199 = .ok (.aload_n 1, 1) := td tL_law_11_ok 46 (q := (1199, .aload_n 1, 1)) rfl
theorem dL_law_1200 : decode cL_law 1200 = .ok (.invokevirtual 140, 3) := td tL_law_11_ok 47 (q := (1200, .invokevirtual 140, 3)) rfl
theorem dL_law_1203 : decode cL_law 1203 = .ok (.aload_n 2, 1) := td tL_law_11_ok 48 (q := (1203, .aload_n 2, 1)) rfl
theorem dL_law_1204 : decode cL_law 1204 = .ok (.invokevirtual 143, 3) := td tL_law_11_ok 49 (q := (1204, .invokevirtual 143, 3)) rfl
theorem dL_law_1207 : decode cL_law 1207 = .ok (.if_icmp .eq 73, 3) := td tL_law_11_ok 50 (q := (1207, .if_icmp .eq 73, 3)) rfl
theorem dL_law_1210 : decode cL_law 1210 = .ok (.iconst 0, 1) := td tL_law_11_ok 51 (q := (1210, .iconst 0, 1)) rfl
theorem dL_law_1211 : decode cL_law 1211 = .ok (.ireturn, 1) := td tL_law_11_ok 52 (q := (1211, .ireturn, 1)) rfl
theorem dL_law_1212 : decode cL_law 1212 = .ok (.aload_n 1, 1) := td tL_law_11_ok 53 (q := (1212, .aload_n 1, 1)) rfl
theorem dL_law_1213 : decode cL_law 1213 = .ok (.invokevirtual 144, 3) := td tL_law_11_ok 54 (q := (1213, .invokevirtual 144, 3)) rfl
theorem dL_law_1216 : decode cL_law 1216 = .ok (.aload_n 2, 1) := td tL_law_11_ok 55 (q := (1216, .aload_n 2, 1)) rfl
theorem dL_law_1217 : decode cL_law 1217 = .ok (.invokevirtual 147, 3) := td tL_law_11_ok 56 (q := (1217, .invokevirtual 147, 3)) rfl
theorem dL_law_1220 : decode cL_law 1220 = .ok (.if_icmp .eq 60, 3) := td tL_law_11_ok 57 (q := (1220, .if_icmp .eq 60, 3)) rfl
theorem dL_law_1223 : decode cL_law 1223 = .ok (.iconst 0, 1) := td tL_law_11_ok 58 (q := (1223, .iconst 0, 1)) rfl
theorem dL_law_1224 : decode cL_law 1224 = .ok (.ireturn, 1) := td tL_law_11_ok 59 (q := (1224, .ireturn, 1)) rfl
def tL_law_12 : List (Nat × Instr × Nat) := [(1225, .aload_n 1, 1), (1226, .invokevirtual 148, 3), (1229, .dstore 5, 2), (1231, .aload_n 2, 1), (1232, .invokevirtual 152, 3), (1235, .dstore 7, 2), (1237, .dload 5, 2), (1239, .dload 7, 2), (1241, .dcmp .l, 1), (1242, .ifCond .eq 21, 3), (1245, .dload 5, 2), (1247, .dload 5, 2), (1249, .dcmp .l, 1), (1250, .ifCond .eq 11, 3), (1253, .dload 7, 2), (1255, .dload 7, 2), (1257, .dcmp .l, 1), (1258, .ifCond .ne 5, 3), (1261, .iconst 0, 1), (1262, .ireturn, 1), (1263, .goto 17, 3), (1266, .aload_n 1, 1), (1267, .invokevirtual 153, 3), (1270, .aload_n 2, 1), (1271, .invokevirtual 157, 3), (1274, .lcmp, 1), (1275, .ifCond .eq 5, 3), (1278, .iconst 0, 1), (1279, .ireturn, 1), (1280, .iinc 4 4, 3), (1283, .goto (-1260), 3), (1286, .iconst 1, 1), (1287, .ireturn, 1)]
theorem tL_law_12_ok : tL_law_12.all (fun q => decide (decode cL_law q.1 = .ok q.2)) = true := by decide +kernel
theorem dL_law_1225 : decode cL_law 1225 = .ok (.aload_n 1, 1) := td tL_law_12_ok 0 (q := (1225, .aload_n 1, 1)) rfl
theorem dL_law_1226 : decode cL_law 1226 = .ok (.invokevirtual 148, 3) := td tL_law_12_ok 1 (q := (1226, .invokevirtual 148, 3)) rfl
theorem dL_law_1229 : decode cL_law 1229 = .ok (.dstore 5, 2) := td tL_law_12_ok 2 (q := (1229, .dstore 5, 2)) rfl
theorem dL_law_1231 : decode cL_law 1231 = .ok (.aload_n 2, 1) := td tL_law_12_ok 3 (q := (1231, .aload_n 2, 1)) rfl
theorem dL_law_1232 : decode cL_law 1232 = .ok (.invokevirtual 152, 3) := td tL_law_12_ok 4 (q := (1232, .invokevirtual 152, 3)) rfl
theorem dL_law_1235 : decode cL_law 1235 = .ok (.dstore 7, 2) := td tL_law_12_ok 5 (q := (1235, .dstore 7, 2)) rfl
theorem dL_law_1237 : decode cL_law 1237 = .ok (.dload 5, 2) := td tL_law_12_ok 6 (q := (1237, .dload 5, 2)) rfl
theorem dL_law_1239 : decode cL_law 1239 = .ok (.dload 7, 2) := td tL_law_12_ok 7 (q := (1239, .dload 7, 2)) rfl
theorem dL_law_1241 : decode cL_law 1241 = .ok (.dcmp .l, 1) := td tL_law_12_ok 8 (q := (1241, .dcmp .l, 1)) rfl
theorem dL_law_1242 : decode cL_law 1242 = .ok (.ifCond .eq 21, 3) := td tL_law_12_ok 9 (q := (1242, .ifCond .eq 21, 3)) rfl
theorem dL_law_1245 : decode cL_law 1245 = .ok (.dload 5, 2) := td tL_law_12_ok 10 (q := (1245, .dload 5, 2)) rfl
theorem dL_law_1247 : decode cL_law 1247 = .ok (.dload 5, 2) := td tL_law_12_ok 11 (q := (1247, .dload 5, 2)) rfl
theorem dL_law_1249 : decode cL_law 1249 = .ok (.dcmp .l, 1) := td tL_law_12_ok 12 (q := (1249, .dcmp .l, 1)) rfl
theorem dL_law_1250 : decode cL_law 1250 = .ok (.ifCond .eq 11, 3) := td tL_law_12_ok 13 (q := (1250, .ifCond .eq 11, 3)) rfl
theorem dL_law_1253 : decode cL_law 1253 = .ok (.dload 7, 2) := td tL_law_12_ok 14 (q := (1253, .dload 7, 2)) rfl
theorem dL_law_1255 : decode cL_law 1255 = .ok (.dload 7, 2) := td tL_law_12_ok 15 (q := (1255, .dload 7, 2)) rfl
theorem dL_law_1257 : decode cL_law 1257 = .ok (.dcmp .l, 1) := td tL_law_12_ok 16 (q := (1257, .dcmp .l, 1)) rfl
theorem dL_law_1258 : decode cL_law 1258 = .ok (.ifCond .ne 5, 3) := td tL_law_12_ok 17 (q := (1258, .ifCond .ne 5, 3)) rfl
theorem dL_law_1261 : decode cL_law 1261 = .ok (.iconst 0, 1) := td tL_law_12_ok 18 (q := (1261, .iconst 0, 1)) rfl
theorem dL_law_1262 : decode cL_law 1262 = .ok (.ireturn, 1) := td tL_law_12_ok 19 (q := (1262, .ireturn, 1)) rfl
theorem dL_law_1263 : decode cL_law 1263 = .ok (.goto 17, 3) := td tL_law_12_ok 20 (q := (1263, .goto 17, 3)) rfl
theorem dL_law_1266 : decode cL_law 1266 = .ok (.aload_n 1, 1) := td tL_law_12_ok 21 (q := (1266, .aload_n 1, 1)) rfl
theorem dL_law_1267 : decode cL_law 1267 = .ok (.invokevirtual 153, 3) := td tL_law_12_ok 22 (q := (1267, .invokevirtual 153, 3)) rfl
theorem dL_law_1270 : decode cL_law 1270 = .ok (.aload_n 2, 1) := td tL_law_12_ok 23 (q := (1270, .aload_n 2, 1)) rfl
theorem dL_law_1271 : decode cL_law 1271 = .ok (.invokevirtual 157, 3) := td tL_law_12_ok 24 (q := (1271, .invokevirtual 157, 3)) rfl
theorem dL_law_1274 : decode cL_law 1274 = .ok (.lcmp, 1) := td tL_law_12_ok 25 (q := (1274, .lcmp, 1)) rfl
theorem dL_law_1275 : decode cL_law 1275 = .ok (.ifCond .eq 5, 3) := td tL_law_12_ok 26 (q := (1275, .ifCond .eq 5, 3)) rfl
theorem dL_law_1278 : decode cL_law 1278 = .ok (.iconst 0, 1) := td tL_law_12_ok 27 (q := (1278, .iconst 0, 1)) rfl
theorem dL_law_1279 : decode cL_law 1279 = .ok (.ireturn, 1) := td tL_law_12_ok 28 (q := (1279, .ireturn, 1)) rfl
theorem dL_law_1280 : decode cL_law 1280 = .ok (.iinc 4 4, 3) := td tL_law_12_ok 29 (q := (1280, .iinc 4 4, 3)) rfl
theorem dL_law_1283 : decode cL_law 1283 = .ok (.goto (-1260), 3) := td tL_law_12_ok 30 (q := (1283, .goto (-1260), 3)) rfl
theorem dL_law_1286 : decode cL_law 1286 = .ok (.iconst 1, 1) := td tL_law_12_ok 31 (q := (1286, .iconst 1, 1)) rfl
theorem dL_law_1287 : decode cL_law 1287 = .ok (.ireturn, 1) := td tL_law_12_ok 32 (q := (1287, .ireturn, 1)) rfl
